-- THE SYNTAX: what the reference waits for (0 .. 5) and what is opened
def ms_s (w : Nat) (o : List Nat) (t : Nat) : Option (Nat × List Nat) :=
  if w = 0 then (if t = 13 then some (1, o) else none) else
  if w = 1 then (if t = 20 then some (2, o) else none) else
  if w = 5 then (if t = 26 then some (2, 26 :: o) else none) else
  if w = 2 ∨ w = 3 then
    (if t = 1 ∨ t = 2 ∨ t = 10 ∨ t = 11 ∨ t = 12 then some (4, o) else
     if t = 15 ∨ t = 23 then some (3, o) else
     if t = 26 then some (2, 26 :: o) else
     if t = 13 ∨ t = 7 ∨ t = 8 ∨ t = 9 then some (5, o) else
     if w = 2 ∧ (t = 3 ∨ t = 6) then some (2, t :: o) else none) else
  (if 14 ≤ t ∧ t ≤ 22 then some (3, o) else
   if t = 24 then some (2, o) else
   if t = 4 ∧ o.headD 0 = 3 then some (2, 4 :: o.tail) else
   if t = 5 ∧ (o.headD 0 = 4 ∨ o.headD 0 = 6) then some (2, o.tail) else
   if t = 27 ∧ o.headD 0 = 26 then some (4, o.tail) else
   if t = 25 ∧ o = [] then some (0, o) else none)
def ms_f (tk : Nat → Nat) : Nat → Option (Nat × List Nat)
  | 0 => some (0, [])
  | i + 1 => (ms_f tk i).bind (fun s => ms_s s.1 s.2 (tk i))
theorem ms_ln {w t w2 : Nat} {o o2 : List Nat} (h : ms_s w o t = some (w2, o2)) : o2.length ≤ o.length + 1 := by
  have tl : o.tail.length ≤ o.length := by rw [List.length_tail]; omega
  unfold ms_s at h
  repeat' split at h
  all_goals simp at h
  all_goals (obtain ⟨_, rfl⟩ := h; simp; try omega)
theorem ms_fl {tk : Nat → Nat} : ∀ i w o, ms_f tk i = some (w, o) → o.length ≤ i := by
  intro i
  induction i with
  | zero => intro w o h; simp [ms_f] at h; rw [h.2]; simp
  | succ i ih =>
    intro w o h
    obtain ⟨a, ha, hs⟩ := ou_bi h
    have := ih a.1 a.2 ha
    have := ms_ln hs
    omega
-- a stack in an array: the top of the list lies last
def ar_L (a : Nat → Int32) : List Nat → Prop
  | [] => True
  | c :: l => a l.length = nI c ∧ ar_L a l
theorem ar_u {a : Nat → Int32} {k : Nat} {x : Int32} : ∀ l : List Nat, l.length ≤ k → ar_L a l → ar_L (upd a k x) l := by
  intro l
  induction l with
  | nil => intro _ _; trivial
  | cons c l ih =>
    intro h g
    rw [List.length_cons] at h
    refine ⟨?_, ih (by omega) g.2⟩
    rw [pk_un (by omega)]; exact g.1
theorem ar_p {a : Nat → Int32} {c : Nat} {l : List Nat} (g : ar_L a l) : ar_L (upd a l.length (nI c)) (c :: l) := ⟨pk_us, ar_u l (Nat.le_refl _) g⟩
