-- A PASS over the cells: the table T grows by rules until none applies
def ps_s (P : Nat → Nat → Nat) (T : Nat → Option ou_O) : Prop := ∀ c o, T c = some o → ou_V P c o
noncomputable def ps_u (P : Nat → Nat → Nat) (T : Nat → Option ou_O) (c : Nat) : Nat → Option ou_O :=
  fun d => if d = c ∧ T c = none ∧ ou_uc P c then ou_rl P T c else T d
theorem ps_us {P : Nat → Nat → Nat} {T : Nat → Option ou_O} {c : Nat} (h : T c = none) (hu : ou_uc P c) : ps_u P T c c = ou_rl P T c := if_pos ⟨rfl, h, hu⟩
theorem ps_un {P : Nat → Nat → Nat} {T : Nat → Option ou_O} {c d : Nat} (h : d ≠ c) : ps_u P T c d = T d := if_neg (fun q => h q.1)
theorem ps_uk {P : Nat → Nat → Nat} {T : Nat → Option ou_O} {c : Nat} (h : ¬ (T c = none ∧ ou_uc P c)) : ps_u P T c = T := by
  funext d; exact if_neg (fun q => h q.2)
theorem ps_ul {P : Nat → Nat → Nat} {T : Nat → Option ou_O} {c d : Nat} {o : ou_O} (h : T d = some o) : ps_u P T c d = some o := by
  by_cases e : d = c ∧ T c = none ∧ ou_uc P c
  · rw [e.1, e.2.1] at h; exact absurd h (by simp)
  · exact (if_neg e).trans h
theorem ps_uS {P : Nat → Nat → Nat} {T : Nat → Option ou_O} {c : Nat} (h : ps_s P T) : ps_s P (ps_u P T c) := by
  intro d o e
  by_cases q : d = c ∧ T c = none ∧ ou_uc P c
  · have : ps_u P T c d = ou_rl P T c := if_pos q
    rw [this] at e
    rw [q.1]; exact ou_snd h q.2.2 e
  · have : ps_u P T c d = T d := if_neg q
    rw [this] at e; exact h d o e
def ps_I (P : Nat → Nat → Nat) (A : Nat → Option ou_O) (Z : Nat → Prop) (T : Nat → Option ou_O) (s : Prop) : Prop :=
  ps_s P T ∧ ou_le A T ∧ (s → ∃ c, c < 720 ∧ A c = none ∧ T c ≠ none) ∧
  (¬ s → T = A ∧ ∀ c, Z c → ou_uc P c → A c = none → ou_rl P A c = none)
theorem ps_0 {P : Nat → Nat → Nat} {A : Nat → Option ou_O} (h : ps_s P A) : ps_I P A (fun _ => False) A False :=
  ⟨h, fun _ _ q => q, fun q => q.elim, fun _ => ⟨rfl, fun _ q => q.elim⟩⟩
theorem ps_st {P : Nat → Nat → Nat} {A : Nat → Option ou_O} {Z Y : Nat → Prop} {T : Nat → Option ou_O} {s t : Prop} {c : Nat} (h : ps_I P A Z T s) (hc : c < 720)
    (hY : ∀ d, Y d → Z d ∨ d = c) (ht : t ↔ (s ∨ (T c = none ∧ ou_uc P c ∧ ou_rl P T c ≠ none))) : ps_I P A Y (ps_u P T c) t := by
  obtain ⟨h1, h2, h3, h4⟩ := h
  refine ⟨ps_uS h1, fun d o e => ps_ul (h2 d o e), fun q => ?_, fun q => ?_⟩
  · rcases ht.mp q with q | ⟨q1, q2, q3⟩
    · obtain ⟨d, d1, d2, d3⟩ := h3 q
      refine ⟨d, d1, d2, fun e => ?_⟩
      cases x : T d with
      | none => exact d3 x
      | some o => rw [ps_ul x] at e; exact absurd e (by simp)
    · refine ⟨c, hc, ?_, ?_⟩
      · cases x : A c with
        | none => rfl
        | some o => rw [h2 c o x] at q1; exact absurd q1 (by simp)
      · rw [ps_us q1 q2]; exact q3
  · have ns : ¬ s := fun x => q (ht.mpr (Or.inl x))
    obtain ⟨e, h5⟩ := h4 ns
    have nn : ¬ (T c = none ∧ ou_uc P c ∧ ou_rl P T c ≠ none) := fun x => q (ht.mpr (Or.inr x))
    have keep : ps_u P T c = T := by
      funext d
      by_cases z : d = c ∧ T c = none ∧ ou_uc P c
      · have a : ps_u P T c d = ou_rl P T c := if_pos z
        rw [a, z.1, z.2.1]
        exact Classical.byContradiction (fun w => nn ⟨z.2.1, z.2.2, w⟩)
      · exact if_neg z
    rw [keep]
    refine ⟨e, fun d hd hu ha => ?_⟩
    rcases hY d hd with z | z
    · exact h5 d z hu ha
    · rw [z] at hu ha ⊢
      rw [← e] at ha ⊢
      exact Classical.byContradiction (fun w => nn ⟨ha, hu, w⟩)
theorem ps_n {P : Nat → Nat → Nat} {A T : Nat → Option ou_O} {Z : Nat → Prop} {s : Prop} (h : ps_I P A Z T s) (hs : s) : ct_n (fun c => (T c).isNone) 720 < ct_n (fun c => (A c).isNone) 720 := by
  obtain ⟨h1, h2, h3, h4⟩ := h
  obtain ⟨d, d1, d2, d3⟩ := h3 hs
  refine ct_lt 720 (fun i _ hi => ?_) d1 ?_ ?_
  · cases x : A i with
    | none => rfl
    | some o => rw [h2 i o x] at hi; exact absurd hi (by simp)
  · cases x : T d with
    | none => exact absurd x d3
    | some o => rfl
  · show (A d).isNone = true
    rw [d2]; rfl
theorem ps_f {P : Nat → Nat → Nat} {T : Nat → Option ou_O} (h : ps_s P T) (hc : ∀ c, ou_uc P c → T c = none → ou_rl P T c = none) : T = ou_E P := by
  funext c
  cases x : ou_E P c with
  | none =>
    cases y : T c with
    | none => rfl
    | some o => have := ou_E_s.mpr (h c o y); rw [x] at this; exact absurd this (by simp)
  | some o => exact ou_full h hc c o (ou_E_s.mp x)
