-- TOKENS, pure
def tz_dg (c : Nat) : Bool := decide (48 ≤ c) && decide (c ≤ 57)
def tz_sm (c : Nat) : Bool := decide (97 ≤ c) && decide (c ≤ 122)
def tz_e (tx : Nat → Nat) (L : Nat) (q : Nat → Bool) : Nat → Nat → Nat
  | 0, e => e
  | n + 1, e => if e < L ∧ q (tx e) = true then tz_e tx L q n (e + 1) else e
def tz_R (tx : Nat → Nat) (L : Nat) (q : Nat → Bool) (e0 e : Nat) : Prop := e0 ≤ e ∧ (∀ i, e0 ≤ i → i < e → i < L ∧ q (tx i) = true) ∧ ¬ (e < L ∧ q (tx e) = true)
theorem tz_eR (tx : Nat → Nat) (L : Nat) (q : Nat → Bool) : ∀ n e, L < e + n → tz_R tx L q e (tz_e tx L q n e) := by
  intro n
  induction n with
  | zero => intro e h; exact ⟨Nat.le_refl _, fun i h1 h2 => by have : i < e := h2; omega, fun q => by have : e < L := q.1; omega⟩
  | succ n ih =>
    intro e h
    unfold tz_e
    by_cases c : e < L ∧ q (tx e) = true
    · rw [if_pos c]
      obtain ⟨h1, h2, h3⟩ := ih (e + 1) (by omega)
      refine ⟨by omega, fun i a b => ?_, h3⟩
      by_cases x : i = e
      · rw [x]; exact c
      · exact h2 i (by omega) b
    · rw [if_neg c]
      exact ⟨Nat.le_refl _, fun i h1 h2 => by omega, c⟩
def tz_end (tx : Nat → Nat) (L p : Nat) : Nat :=
  if tz_dg (tx p) = true then tz_e tx L tz_dg (L + 1) (p + 1) else if tz_sm (tx p) = true then tz_e tx L tz_sm (L + 1) (p + 1) else p + 1
def tz_n (tx : Nat → Nat) (p : Nat) : Nat → Nat
  | 0 => 0
  | n + 1 => tz_n tx p n * 10 + (tx (p + n) - 48)
theorem tz_nb {tx : Nat → Nat} {p : Nat} : ∀ n, (∀ i, i < n → tz_dg (tx (p + i)) = true) → tz_n tx p n < 10 ^ n := by
  intro n
  induction n with
  | zero => intro _; show 0 < 10 ^ 0; decide
  | succ n ih =>
    intro h
    have a := ih (fun i hi => h i (by omega))
    have b := h n (by omega)
    simp [tz_dg] at b
    show tz_n tx p n * 10 + (tx (p + n) - 48) < 10 ^ (n + 1)
    rw [Nat.pow_succ]
    omega
def tz_w (tx : Nat → Nat) (p : Nat) : Nat → Int32
  | 0 => 0
  | n + 1 => (tz_w tx p n <<< ((8 : Int32) &&& 31)) ||| nI (tx (p + n))
def tz_k (w : Int32) : Nat :=
  if w = 120 then 2 else if w = 26982 then 3 else if w = 1952998766 then 4 else if w = 1701606245 then 5 else if w = 7631481 then 6 else
  if w = 26724 then 7 else if w = 29804 then 8 else if w = 7239020 then 9 else if w = 7235948 then 10 else if w = 7955827 then 11 else if w = 28271 then 12 else 0
def tz_g (c : Nat) : Nat :=
  if c = 43 then 14 else if c = 45 then 15 else if c = 42 then 16 else if c = 47 then 17 else if c = 37 then 18 else if c = 60 then 19 else if c = 61 then 20 else
  if c = 38 then 21 else if c = 124 then 22 else if c = 33 then 23 else if c = 58 then 24 else if c = 59 then 25 else if c = 40 then 26 else if c = 41 then 27 else 0
def tz_kd (tx : Nat → Nat) (L p : Nat) : Nat :=
  if tz_dg (tx p) = true then (if tz_end tx L p - p ≤ 9 then 1 else 0) else
  if tz_sm (tx p) = true then (if tz_end tx L p - p ≤ 4 then tz_k (tz_w tx p (tz_end tx L p - p)) else 0) else
  if 65 ≤ tx p ∧ tx p ≤ 69 then 13 else tz_g (tx p)
def tz_nm (tx : Nat → Nat) (L p : Nat) : Nat :=
  if tz_dg (tx p) = true then tz_n tx p (tz_end tx L p - p) else if 65 ≤ tx p ∧ tx p ≤ 69 then tx p - 65 else 0
theorem tz_el {tx : Nat → Nat} {L p : Nat} (h : p < L) : p < tz_end tx L p ∧ tz_end tx L p ≤ L := by
  have key : ∀ q, p < tz_e tx L q (L + 1) (p + 1) ∧ tz_e tx L q (L + 1) (p + 1) ≤ L := by
    intro q
    obtain ⟨h1, h2, h3⟩ := tz_eR tx L q (L + 1) (p + 1) (by omega)
    refine ⟨by omega, ?_⟩
    apply Classical.byContradiction
    intro c
    have := (h2 (tz_e tx L q (L + 1) (p + 1) - 1) (by omega) (by omega)).1
    omega
  unfold tz_end
  split
  · exact key _
  · split
    · exact key _
    · omega
abbrev tz_T : Type := Nat × Nat × Nat × Nat
def tz_t (tx : Nat → Nat) (L p : Nat) : tz_T := (tz_kd tx L p, tz_nm tx L p, p, tz_end tx L p)
def tz_b (tx : Nat → Nat) (p q : Nat) : Prop := ∀ i, p ≤ i → i < q → tx i = 32
def tz_C (tx : Nat → Nat) (L : Nat) : Nat → List tz_T → Option Nat → Prop
  | p, [], none => tz_b tx p L
  | p, [], some f => p ≤ f ∧ f < L ∧ tz_b tx p f ∧ tx f ≠ 32 ∧ tz_kd tx L f = 0
  | p, t :: l, e => p ≤ t.2.2.1 ∧ t.2.2.1 < L ∧ tz_b tx p t.2.2.1 ∧ tx t.2.2.1 ≠ 32 ∧ t = tz_t tx L t.2.2.1 ∧ t.1 ≠ 0 ∧ tz_C tx L t.2.2.2 l e
theorem tz_Cb {tx : Nat → Nat} {L p : Nat} (hb : tx p = 32) : ∀ (l : List tz_T) (e : Option Nat), tz_C tx L (p + 1) l e → tz_C tx L p l e := by
  have ext : ∀ q, tz_b tx (p + 1) q → tz_b tx p q := by
    intro q h i h1 h2
    by_cases x : i = p
    · rw [x]; exact hb
    · exact h i (by omega) h2
  intro l e h
  cases l with
  | nil =>
    cases e with
    | none => exact ext _ h
    | some f => obtain ⟨h1, h2, h3, h4⟩ := h; exact ⟨by omega, h2, ext _ h3, h4⟩
  | cons t l => obtain ⟨h1, h2, h3, h4⟩ := h; exact ⟨by omega, h2, ext _ h3, h4⟩
theorem tz_ex (tx : Nat → Nat) (L : Nat) : ∀ n p, L ≤ p + n → ∃ l e, tz_C tx L p l e := by
  intro n
  induction n with
  | zero => intro p h; exact ⟨[], none, fun i h1 h2 => by omega⟩
  | succ n ih =>
    intro p h
    by_cases c : L ≤ p
    · exact ⟨[], none, fun i h1 h2 => by omega⟩
    · by_cases hb : tx p = 32
      · obtain ⟨l, e, hl⟩ := ih (p + 1) (by omega)
        exact ⟨l, e, tz_Cb hb l e hl⟩
      · have none' : tz_b tx p p := fun i h1 h2 => by omega
        by_cases hk : tz_kd tx L p = 0
        · exact ⟨[], some p, Nat.le_refl _, by omega, none', hb, hk⟩
        · have := tz_el (tx := tx) (L := L) (p := p) (by omega)
          obtain ⟨l, e, hl⟩ := ih (tz_end tx L p) (by omega)
          exact ⟨tz_t tx L p :: l, e, Nat.le_refl _, (by omega : p < L), none', hb, rfl, hk, hl⟩
theorem tz_len {tx : Nat → Nat} {L : Nat} : ∀ (l : List tz_T) (p : Nat) (e : Option Nat), tz_C tx L p l e → p ≤ L → p + l.length ≤ L := by
  intro l
  induction l with
  | nil => intro p e _ h; exact h
  | cons t l ih =>
    intro p e h hp
    obtain ⟨h1, h2, h3, h4, h5, h6, h7⟩ := h
    have x := tz_el (tx := tx) (L := L) h2
    have y : t.2.2.2 = tz_end tx L t.2.2.1 := by rw [h5]; rfl
    have := ih _ _ h7 (by omega)
    rw [List.length_cons]; omega
