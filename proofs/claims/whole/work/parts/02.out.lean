-- OUTCOMES, pure. A program P: P 0 op, P 1 number or function, P 2, P 3, P 4 the parts (nodes), P 5 sizes, P 6 0 the width.
abbrev ou_us (P : Nat → Nat → Nat) (u : Nat) : Prop := u < 120 ∧ u % 24 < P 5 (u / 24)
abbrev ou_uc (P : Nat → Nat → Nat) (c : Nat) : Prop := ou_us P (c / 6) ∧ c % 6 < P 6 0
abbrev ou_O : Type := Nat × Nat × Int64
def ou_lf (t : Nat) : Bool := t == 1 || t == 2 || t == 10 || t == 11 || t == 12 || t == 24
def ou_lv (P : Nat → Nat → Nat) (c : Nat) : ou_O :=
  if P 0 (c / 6) = 1 then (1, 1, lN (P 1 (c / 6))) else
  if P 0 (c / 6) = 2 then (1, 1, lN (c % 6)) else
  if P 0 (c / 6) = 10 then (1, 3, 0) else
  if P 0 (c / 6) = 11 then (1, 2, 1) else
  if P 0 (c / 6) = 12 then (1, 2, 0) else (1, 3, lN (c + 1))
def ou_jn (v : Int64) : Nat := v.toInt.toNat - 1
def ou_an (v : Int64) : Nat := v.toInt.toNat
def ou_ps (P : Nat → Nat → Nat) (k c : Nat) : Nat := P k (c / 6) * 6 + c % 6
def ou_cf (P : Nat → Nat → Nat) (f x : Nat) : Nat := (f * 24 + P 5 f - 1) * 6 + x
def ou_ar (t : Nat) (x y : Int64) : ou_O :=
  if y = 0 ∧ (t = 17 ∨ t = 18) then (3, 0, 0) else
  if t = 14 then (1, 1, x + y) else
  if t = 15 then (1, 1, x - y) else
  if t = 16 then (1, 1, x * y) else
  if t = 17 then (1, 1, x / y) else
  if t = 18 then (1, 1, x - x / y * y) else
  if t = 19 then (1, 2, if x < y then 1 else 0) else (1, 2, if x = y then 1 else 0)
def ou_md (P : Nat → Nat → Nat) (c : Nat) (o : ou_O) : Nat × Nat × ou_O :=
  if P 0 (c / 6) = 6 then (if o.1 = 1 then (0, 0, o) else (1, ou_ps P 3 c, o)) else
  if o.1 ≠ 1 then (0, 0, o) else
  if P 0 (c / 6) = 21 then (if o.2.2 = 0 then (0, 0, o) else (1, ou_ps P 3 c, o)) else
  if P 0 (c / 6) = 22 then (if o.2.2 = 0 then (1, ou_ps P 3 c, o) else (0, 0, o)) else
  if P 0 (c / 6) = 3 then (if o.2.2 = 0 then (1, ou_ps P 4 c, o) else (1, ou_ps P 3 c, o)) else
  if P 0 (c / 6) = 28 then (0, 0, (1, 1, -o.2.2)) else
  if P 0 (c / 6) = 23 ∨ P 0 (c / 6) = 9 then (0, 0, (1, 2, if o.2.2 = 0 then 1 else 0)) else
  if P 0 (c / 6) = 7 then (if o.2.2 = 0 then (0, 0, (5, 0, 0)) else (1, ou_ps P 2 (ou_jn o.2.2), o)) else
  if P 0 (c / 6) = 8 then (if o.2.2 = 0 then (0, 0, (5, 0, 0)) else (1, ou_ps P 3 (ou_jn o.2.2), o)) else
  if P 0 (c / 6) = 13 then (if o.2.2 < 0 ∨ lN (P 6 0) ≤ o.2.2 then (0, 0, (4, 0, 0)) else (1, ou_cf P (P 1 (c / 6)) (ou_an o.2.2), o)) else
  (2, ou_ps P 3 c, o)
def ou_go (E : Nat → Option ou_O) (m : Nat × Nat × ou_O) (t : Nat) (o : ou_O) : Option ou_O :=
  if m.1 = 0 then some m.2.2 else
  if m.1 = 1 then E m.2.1 else
  (E m.2.1).bind (fun o2 => if o2.1 = 1 then some (ou_ar t o.2.2 o2.2.2) else some o2)
def ou_rl (P : Nat → Nat → Nat) (E : Nat → Option ou_O) (c : Nat) : Option ou_O :=
  if ou_lf (P 0 (c / 6)) = true then some (ou_lv P c) else
  (E (ou_ps P 2 c)).bind (fun o => ou_go E (ou_md P c o) (P 0 (c / 6)) o)
def ou_ev (P : Nat → Nat → Nat) : Nat → Nat → Option ou_O
  | 0 => fun _ => none
  | k + 1 => fun c => if ou_uc P c then ou_rl P (ou_ev P k) c else none
theorem ou_ev1 (P : Nat → Nat → Nat) (k c : Nat) : ou_ev P (k + 1) c = if ou_uc P c then ou_rl P (ou_ev P k) c else none := rfl
def ou_le (E F : Nat → Option ou_O) : Prop := ∀ c o, E c = some o → F c = some o
theorem ou_bi {α β : Type} {x : Option α} {f : α → Option β} {r : β} (h : x.bind f = some r) : ∃ a, x = some a ∧ f a = some r := by
  cases x with
  | none => simp at h
  | some a => exact ⟨a, rfl, h⟩
theorem ou_go_mono {E F : Nat → Option ou_O} {m : Nat × Nat × ou_O} {t : Nat} {o r : ou_O} (h : ou_le E F) (hg : ou_go E m t o = some r) : ou_go F m t o = some r := by
  unfold ou_go at *
  by_cases h0 : m.1 = 0
  · rw [if_pos h0] at *; exact hg
  · rw [if_neg h0] at *
    by_cases h1 : m.1 = 1
    · rw [if_pos h1] at *; exact h _ _ hg
    · rw [if_neg h1] at *
      obtain ⟨a, ha, hr⟩ := ou_bi hg
      rw [h _ _ ha]; exact hr
theorem ou_rl_mono {P : Nat → Nat → Nat} {E F : Nat → Option ou_O} {c : Nat} {r : ou_O} (h : ou_le E F) (hr : ou_rl P E c = some r) : ou_rl P F c = some r := by
  unfold ou_rl at *
  by_cases hl : ou_lf (P 0 (c / 6)) = true
  · rw [if_pos hl] at *; exact hr
  · rw [if_neg hl] at *
    obtain ⟨a, ha, hg⟩ := ou_bi hr
    rw [h _ _ ha]; exact ou_go_mono h hg
theorem ou_ev_s (P : Nat → Nat → Nat) (k : Nat) : ou_le (ou_ev P k) (ou_ev P (k + 1)) := by
  induction k with
  | zero => intro c o h; simp [ou_ev] at h
  | succ k ih =>
    intro c o h
    rw [ou_ev1] at h ⊢
    by_cases hu : ou_uc P c
    · rw [if_pos hu] at h ⊢; exact ou_rl_mono ih h
    · rw [if_neg hu] at h; exact absurd h (by simp)
theorem ou_ev_m (P : Nat → Nat → Nat) {k l : Nat} (h : k ≤ l) : ou_le (ou_ev P k) (ou_ev P l) := by
  induction h with
  | refl => exact fun _ _ h => h
  | step _ ih => exact fun c o h => ou_ev_s P _ c o (ih c o h)
def ou_V (P : Nat → Nat → Nat) (c : Nat) (o : ou_O) : Prop := ∃ k, ou_ev P k c = some o
theorem ou_V_det {P : Nat → Nat → Nat} {c : Nat} {o p : ou_O} (h : ou_V P c o) (g : ou_V P c p) : o = p := by
  obtain ⟨k, hk⟩ := h
  obtain ⟨l, hl⟩ := g
  have a := ou_ev_m P (Nat.le_max_left k l) c o hk
  have b := ou_ev_m P (Nat.le_max_right k l) c p hl
  rw [a] at b
  exact Option.some.inj b
theorem ou_V_us {P : Nat → Nat → Nat} {c : Nat} {o : ou_O} (h : ou_V P c o) : ou_uc P c := by
  obtain ⟨k, hk⟩ := h
  cases k with
  | zero => simp [ou_ev] at hk
  | succ k =>
    rw [ou_ev1] at hk
    by_cases hu : ou_uc P c
    · exact hu
    · rw [if_neg hu] at hk; exact absurd hk (by simp)
theorem ou_rl_ct {P : Nat → Nat → Nat} {T : Nat → Option ou_O} {c : Nat} {r : ou_O} (hT : ∀ c o, T c = some o → ou_V P c o) (hr : ou_rl P T c = some r) : ∃ k, ou_rl P (ou_ev P k) c = some r := by
  unfold ou_rl at *
  by_cases hl : ou_lf (P 0 (c / 6)) = true
  · rw [if_pos hl] at hr; exact ⟨0, by rw [if_pos hl]; exact hr⟩
  · rw [if_neg hl] at hr
    obtain ⟨a, ha, hg⟩ := ou_bi hr
    obtain ⟨k, hk⟩ := hT _ _ ha
    unfold ou_go at hg
    by_cases h0 : (ou_md P c a).1 = 0
    · rw [if_pos h0] at hg
      refine ⟨k, ?_⟩
      rw [if_neg hl, hk]
      show ou_go _ _ _ a = some r
      unfold ou_go
      rw [if_pos h0]; exact hg
    · rw [if_neg h0] at hg
      by_cases h1 : (ou_md P c a).1 = 1
      · rw [if_pos h1] at hg
        obtain ⟨l, hl2⟩ := hT _ _ hg
        refine ⟨max k l, ?_⟩
        rw [if_neg hl, ou_ev_m P (Nat.le_max_left k l) _ _ hk]
        show ou_go _ _ _ a = some r
        unfold ou_go
        rw [if_neg h0, if_pos h1]; exact ou_ev_m P (Nat.le_max_right k l) _ _ hl2
      · rw [if_neg h1] at hg
        obtain ⟨b, hb, hr2⟩ := ou_bi hg
        obtain ⟨l, hl2⟩ := hT _ _ hb
        refine ⟨max k l, ?_⟩
        rw [if_neg hl, ou_ev_m P (Nat.le_max_left k l) _ _ hk]
        show ou_go _ _ _ a = some r
        unfold ou_go
        rw [if_neg h0, if_neg h1, ou_ev_m P (Nat.le_max_right k l) _ _ hl2]; exact hr2
theorem ou_snd {P : Nat → Nat → Nat} {T : Nat → Option ou_O} {c : Nat} {r : ou_O} (hT : ∀ c o, T c = some o → ou_V P c o) (hu : ou_uc P c) (hr : ou_rl P T c = some r) : ou_V P c r := by
  obtain ⟨k, hk⟩ := ou_rl_ct hT hr
  exact ⟨k + 1, by rw [ou_ev1, if_pos hu]; exact hk⟩
theorem ou_full {P : Nat → Nat → Nat} {T : Nat → Option ou_O} (hT : ∀ c o, T c = some o → ou_V P c o) (hc : ∀ c, ou_uc P c → T c = none → ou_rl P T c = none) : ∀ c o, ou_V P c o → T c = some o := by
  have key : ∀ k, ou_le (ou_ev P k) T := by
    intro k
    induction k with
    | zero => intro c o h; simp [ou_ev] at h
    | succ k ih =>
      intro c o h
      have hv : ou_V P c o := ⟨k + 1, h⟩
      have hu := ou_V_us hv
      rw [ou_ev1, if_pos hu] at h
      have h2 := ou_rl_mono ih h
      cases hh : T c with
      | none => rw [hc c hu hh] at h2; exact absurd h2 (by simp)
      | some o2 => rw [ou_V_det hv (hT c o2 hh)]
  intro c o h
  obtain ⟨k, hk⟩ := h
  exact key k c o hk
noncomputable def ou_E (P : Nat → Nat → Nat) (c : Nat) : Option ou_O :=
  @dite _ (∃ o, ou_V P c o) (Classical.propDecidable _) (fun h => some h.choose) (fun _ => none)
theorem ou_E_s {P : Nat → Nat → Nat} {c : Nat} {o : ou_O} : ou_E P c = some o ↔ ou_V P c o := by
  unfold ou_E
  by_cases h : ∃ o, ou_V P c o
  · rw [dif_pos h]
    constructor
    · intro e; rw [← Option.some.inj e]; exact h.choose_spec
    · intro g; rw [ou_V_det h.choose_spec g]
  · rw [dif_neg h]
    constructor
    · intro e; exact absurd e (by simp)
    · intro g; exact absurd ⟨o, g⟩ h
