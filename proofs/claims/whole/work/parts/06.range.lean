-- RANGES OF TOKENS: nesting, levels, where a range is cut
def rg_c (g : Nat → Int) : Nat → Int
  | 0 => 0
  | i + 1 => rg_c g i + g i
def rg_d (tk : Nat → Nat) (i : Nat) : Int := if tk i = 26 then 1 else if tk i = 27 then -1 else 0
def rg_t (tk : Nat → Nat) (i : Nat) : Int := if tk i = 3 then 1 else if tk i = 4 then -1 else 0
def rg_e (tk : Nat → Nat) (i : Nat) : Int := if tk i = 3 ∨ tk i = 6 then 1 else if tk i = 5 then -1 else 0
def rg_D (tk : Nat → Nat) (i : Nat) : Int := rg_c (rg_d tk) i
def rg_T (tk : Nat → Nat) (i : Nat) : Int := rg_c (rg_t tk) i
def rg_E (tk : Nat → Nat) (i : Nat) : Int := rg_c (rg_e tk) i
theorem rg_D_o {tk : Nat → Nat} {i : Nat} (h : tk i = 26) : rg_D tk (i + 1) = rg_D tk i + 1 := by
  show rg_c _ i + rg_d tk i = _; unfold rg_d; rw [if_pos h]; rfl
theorem rg_D_c {tk : Nat → Nat} {i : Nat} (h : tk i = 27) : rg_D tk (i + 1) = rg_D tk i - 1 := by
  show rg_c _ i + rg_d tk i = _; unfold rg_d; rw [if_neg (by omega), if_pos h]; rfl
theorem rg_D_n {tk : Nat → Nat} {i : Nat} (h : tk i ≠ 26) (g : tk i ≠ 27) : rg_D tk (i + 1) = rg_D tk i := by
  show rg_c _ i + rg_d tk i = _; unfold rg_d; rw [if_neg h, if_neg g, Int.add_zero]; rfl
theorem rg_T_o {tk : Nat → Nat} {i : Nat} (h : tk i = 3) : rg_T tk (i + 1) = rg_T tk i + 1 := by
  show rg_c _ i + rg_t tk i = _; unfold rg_t; rw [if_pos h]; rfl
theorem rg_T_c {tk : Nat → Nat} {i : Nat} (h : tk i = 4) : rg_T tk (i + 1) = rg_T tk i - 1 := by
  show rg_c _ i + rg_t tk i = _; unfold rg_t; rw [if_neg (by omega), if_pos h]; rfl
theorem rg_T_n {tk : Nat → Nat} {i : Nat} (h : tk i ≠ 3) (g : tk i ≠ 4) : rg_T tk (i + 1) = rg_T tk i := by
  show rg_c _ i + rg_t tk i = _; unfold rg_t; rw [if_neg h, if_neg g, Int.add_zero]; rfl
theorem rg_E_o {tk : Nat → Nat} {i : Nat} (h : tk i = 3 ∨ tk i = 6) : rg_E tk (i + 1) = rg_E tk i + 1 := by
  show rg_c _ i + rg_e tk i = _; unfold rg_e; rw [if_pos h]; rfl
theorem rg_E_c {tk : Nat → Nat} {i : Nat} (h : tk i = 5) : rg_E tk (i + 1) = rg_E tk i - 1 := by
  show rg_c _ i + rg_e tk i = _; unfold rg_e; rw [if_neg (by omega), if_pos h]; rfl
theorem rg_E_n {tk : Nat → Nat} {i : Nat} (h : tk i ≠ 3) (h6 : tk i ≠ 6) (g : tk i ≠ 5) : rg_E tk (i + 1) = rg_E tk i := by
  show rg_c _ i + rg_e tk i = _; unfold rg_e; rw [if_neg (by omega), if_neg g, Int.add_zero]; rfl
def rg_N (C : Nat → Int) (lo hi : Nat) : Prop := C hi = C lo ∧ ∀ i, lo ≤ i → i ≤ hi → C lo ≤ C i
theorem rg_Nc {C : Nat → Int} {a b c : Nat} (h : rg_N C a b) (g : rg_N C b c) : rg_N C a c := by
  refine ⟨by rw [g.1, h.1], fun i h1 h2 => ?_⟩
  by_cases e : i ≤ b
  · exact h.2 i h1 e
  · have := g.2 i (by omega) h2
    have := h.1
    omega
theorem rg_N1 {C : Nat → Int} {a : Nat} (h : C (a + 1) = C a) : rg_N C a (a + 1) := by
  refine ⟨h, fun i h1 h2 => ?_⟩
  have : i = a ∨ i = a + 1 := by omega
  rcases this with e | e
  · rw [e]; exact Int.le_refl _
  · rw [e, h]; exact Int.le_refl _
theorem rg_Nw {C : Nat → Int} {a b : Nat} (h : C (a + 1) = C a + 1) (g : rg_N C (a + 1) b) (e : C (b + 1) = C b - 1) : rg_N C a (b + 1) := by
  have g1 := g.1
  refine ⟨by omega, fun i h1 h2 => ?_⟩
  by_cases e1 : i = a
  · rw [e1]; exact Int.le_refl _
  · by_cases e2 : i = b + 1
    · rw [e2]; omega
    · have := g.2 i (by omega) (by omega)
      omega
abbrev rg_en (b : Nat) : Prop := b = 27 ∨ b = 1 ∨ b = 2 ∨ b = 10 ∨ b = 11 ∨ b = 12
abbrev rg_s (t : Nat) : Prop := t = 1 ∨ t = 2 ∨ t = 10 ∨ t = 11 ∨ t = 12 ∨ t = 15 ∨ t = 23 ∨ t = 26 ∨ t = 7 ∨ t = 8 ∨ t = 9 ∨ t = 13 ∨ t = 3 ∨ t = 6
def rg_w (t b : Nat) : Nat :=
  if t = 24 then 1 else if t = 22 then 2 else if t = 21 then 3 else if t = 19 ∨ t = 20 then 4 else
  if t = 14 ∨ (t = 15 ∧ rg_en b) then 5 else if 16 ≤ t ∧ t ≤ 18 then 6 else 9
theorem rg_ws {t b : Nat} (h : rg_s t) (g : ¬ rg_en b) : rg_w t b = 9 := by
  unfold rg_w
  rw [if_neg (by omega), if_neg (by omega), if_neg (by omega), if_neg (by omega), if_neg (by omega), if_neg (by omega)]
def rg_z (tk : Nat → Nat) (lo i : Nat) : Prop := rg_D tk (i + 1) = rg_D tk lo ∧ tk i ≠ 27
def rg_C (tk : Nat → Nat) (lo hi p W : Nat) : Prop :=
  lo ≤ p ∧ p < hi ∧ (∀ i, lo ≤ i → i ≤ hi → rg_D tk lo ≤ rg_D tk i) ∧ (p = lo → W = 9) ∧
  (p ≠ lo → rg_z tk lo p ∧ rg_w (tk p) (tk (p - 1)) = W ∧ 1 ≤ W ∧ W ≤ 6) ∧
  (∀ i, lo < i → i < p → rg_z tk lo i → W ≤ rg_w (tk i) (tk (i - 1)) ∧ rg_w (tk i) (tk (i - 1)) ≠ 1) ∧
  (∀ i, p < i → i < hi → rg_z tk lo i → W ≠ 1 → (W < rg_w (tk i) (tk (i - 1)) ∨ rg_w (tk i) (tk (i - 1)) = 9) ∧ rg_w (tk i) (tk (i - 1)) ≠ 1)
def rg_L (tk : Nat → Nat) (l lo hi : Nat) : Prop := 2 ≤ l → tk lo ≠ 3 ∧ tk lo ≠ 6 ∧ ∀ i, lo < i → i < hi → rg_z tk lo i → l ≤ rg_w (tk i) (tk (i - 1))
theorem rg_Lm {tk : Nat → Nat} {l m lo hi : Nat} (h : rg_L tk l lo hi) (e : m ≤ l) : rg_L tk m lo hi := by
  intro h2
  obtain ⟨a, b, c⟩ := h (by omega)
  exact ⟨a, b, fun i h1 h2 h3 => Nat.le_trans e (c i h1 h2 h3)⟩
def rg_o (tk : Nat → Nat) (l h : Nat) : Prop :=
  l < h ∧ rg_N (rg_D tk) l h ∧ rg_N (rg_T tk) l h ∧ rg_N (rg_E tk) l h ∧ rg_s (tk l) ∧ rg_en (tk (h - 1))
-- a leaf
theorem rg_leaf {tk : Nat → Nat} {l : Nat} (h : tk l = 1 ∨ tk l = 2 ∨ tk l = 10 ∨ tk l = 11 ∨ tk l = 12) : rg_C tk l (l + 1) l 9 ∧ rg_o tk l (l + 1) ∧ rg_L tk 7 l (l + 1) := by
  have d := rg_D_n (tk := tk) (i := l) (by omega) (by omega)
  have nd := rg_N1 d
  refine ⟨⟨Nat.le_refl _, by omega, nd.2, fun _ => rfl, fun q => absurd rfl q, fun i _ _ => by omega, fun i _ _ => by omega⟩,
    ⟨by omega, nd, rg_N1 (rg_T_n (by omega) (by omega)), rg_N1 (rg_E_n (by omega) (by omega) (by omega)), by omega, ?_⟩, fun _ => ⟨by omega, by omega, fun i _ _ => by omega⟩⟩
  rw [Nat.add_sub_cancel]; omega
-- in brackets
theorem rg_wrap {tk : Nat → Nat} {l h : Nat} (ho : tk l = 26) (hr : rg_o tk (l + 1) h) (hc : tk h = 27) : rg_C tk l (h + 1) l 9 ∧ rg_o tk l (h + 1) ∧ rg_L tk 7 l (h + 1) := by
  obtain ⟨hl, hD, hT, hE, hs, he⟩ := hr
  have d0 := rg_D_o ho
  have d1 := rg_D_c hc
  have nd := rg_Nw d0 hD d1
  have nz : ∀ i, l < i → i < h + 1 → ¬ rg_z tk l i := by
    intro i h1 h2 ⟨z, z2⟩
    by_cases e : i = h
    · rw [e] at z2; exact z2 hc
    · have := hD.2 (i + 1) (by omega) (by omega)
      omega
  refine ⟨⟨Nat.le_refl _, by omega, nd.2, fun _ => rfl, fun q => absurd rfl q, fun i _ _ => by omega, fun i h1 h2 h3 => absurd h3 (nz i h1 h2)⟩,
    ⟨by omega, nd, ?_, ?_, by omega, ?_⟩, fun _ => ⟨by omega, by omega, fun i h1 h2 h3 => absurd h3 (nz i h1 h2)⟩⟩
  · exact rg_Nc (rg_N1 (rg_T_n (by omega) (by omega))) (rg_Nc hT (rg_N1 (rg_T_n (by omega) (by omega))))
  · exact rg_Nc (rg_N1 (rg_E_n (by omega) (by omega) (by omega))) (rg_Nc hE (rg_N1 (rg_E_n (by omega) (by omega) (by omega))))
  · rw [Nat.add_sub_cancel]; omega
-- hd, tl, nul, a call
theorem rg_call {tk : Nat → Nat} {l h : Nat} (ht : tk l = 7 ∨ tk l = 8 ∨ tk l = 9 ∨ tk l = 13) (ho : tk (l + 1) = 26) (hr : rg_o tk (l + 2) h) (hc : tk h = 27) : rg_C tk l (h + 1) l 9 ∧ rg_o tk l (h + 1) ∧ rg_L tk 7 l (h + 1) := by
  obtain ⟨hw1, hw2, hw3⟩ := rg_wrap ho hr hc
  obtain ⟨hl, hD, hT, hE, hs, he⟩ := hw2
  obtain ⟨_, hD0, _, _, _, _⟩ := hr
  have d := rg_D_n (tk := tk) (i := l) (by omega) (by omega)
  have dd := rg_D_o ho
  have nd := rg_Nc (rg_N1 d) hD
  have nz : ∀ i, l < i → i < h + 1 → ¬ rg_z tk l i := by
    intro i h1 h2 ⟨z, z2⟩
    by_cases e : i = h
    · rw [e] at z2; exact z2 hc
    · by_cases e2 : i = l + 1
      · rw [e2] at z; omega
      · have := hD0.2 (i + 1) (by omega) (by omega)
        have e3 : rg_D tk (l + 2) = rg_D tk (l + 1 + 1) := rfl
        omega
  refine ⟨⟨Nat.le_refl _, by omega, nd.2, fun _ => rfl, fun q => absurd rfl q, fun i _ _ => by omega, fun i h1 h2 h3 => absurd h3 (nz i h1 h2)⟩,
    ⟨by omega, nd, ?_, ?_, by omega, he⟩, fun _ => ⟨by omega, by omega, fun i h1 h2 h3 => absurd h3 (nz i h1 h2)⟩⟩
  · exact rg_Nc (rg_N1 (rg_T_n (by omega) (by omega))) hT
  · exact rg_Nc (rg_N1 (rg_E_n (by omega) (by omega) (by omega))) hE
-- a sign before
theorem rg_unary {tk : Nat → Nat} {l h : Nat} (ht : tk l = 15 ∨ tk l = 23) (hr : rg_o tk (l + 1) h) (hL : rg_L tk 7 (l + 1) h) : rg_C tk l h l 9 ∧ rg_o tk l h ∧ rg_L tk 7 l h := by
  obtain ⟨hl, hD, hT, hE, hs, he⟩ := hr
  obtain ⟨_, _, hw⟩ := hL (by omega)
  have d := rg_D_n (tk := tk) (i := l) (by omega) (by omega)
  have nd := rg_Nc (rg_N1 d) hD
  have wz : ∀ i, l < i → i < h → rg_z tk l i → 7 ≤ rg_w (tk i) (tk (i - 1)) := by
    intro i h1 h2 h3
    by_cases e : i = l + 1
    · rw [e, Nat.add_sub_cancel, rg_ws hs (by omega)]; decide
    · exact hw i (by omega) h2 ⟨by rw [h3.1, d], h3.2⟩
  have w9 : ∀ t b, 7 ≤ rg_w t b → rg_w t b = 9 := by
    intro t b
    unfold rg_w
    repeat' split
    all_goals omega
  refine ⟨⟨Nat.le_refl _, by omega, nd.2, fun _ => rfl, fun q => absurd rfl q, fun i _ _ => by omega, fun i h1 h2 h3 _ => ?_⟩,
    ⟨by omega, nd, ?_, ?_, by omega, he⟩, fun _ => ⟨by omega, by omega, wz⟩⟩
  · have := w9 _ _ (wz i h1 h2 h3)
    omega
  · exact rg_Nc (rg_N1 (rg_T_n (by omega) (by omega))) hT
  · exact rg_Nc (rg_N1 (rg_E_n (by omega) (by omega) (by omega))) hE
-- two sides
theorem rg_bin {tk : Nat → Nat} {l p h W : Nat} (ht : 14 ≤ tk p ∧ tk p ≤ 22) (hW : rg_w (tk p) (tk (p - 1)) = W) (h2 : 2 ≤ W) (h6 : W ≤ 6)
    (hl : rg_o tk l p) (hLl : rg_L tk W l p) (hr : rg_o tk (p + 1) h) (hLr : rg_L tk (W + 1) (p + 1) h) : rg_C tk l h p W ∧ rg_o tk l h ∧ rg_L tk W l h := by
  obtain ⟨hl0, hlD, hlT, hlE, hls, hle⟩ := hl
  obtain ⟨hr0, hrD, hrT, hrE, hrs, hre⟩ := hr
  obtain ⟨n3, n6, hlw⟩ := hLl h2
  obtain ⟨_, _, hrw⟩ := hLr (by omega)
  have d := rg_D_n (tk := tk) (i := p) (by omega) (by omega)
  have nd := rg_Nc hlD (rg_Nc (rg_N1 d) hrD)
  have e1 := hlD.1
  have wr : ∀ i, p < i → i < h → rg_z tk l i → W < rg_w (tk i) (tk (i - 1)) := by
    intro i h1 h3 h4
    by_cases e : i = p + 1
    · rw [e, Nat.add_sub_cancel, rg_ws hrs (by omega)]; omega
    · exact hrw i (by omega) h3 ⟨by rw [h4.1, d, e1], h4.2⟩
  refine ⟨⟨by omega, by omega, nd.2, by omega, fun _ => ⟨⟨by omega, by omega⟩, hW, by omega, h6⟩, fun i h1 h3 h4 => ?_, fun i h1 h3 h4 _ => ?_⟩,
    ⟨by omega, nd, ?_, ?_, hls, hre⟩, fun _ => ⟨n3, n6, fun i h1 h3 h4 => ?_⟩⟩
  · have := hlw i h1 h3 h4; omega
  · have := wr i h1 h3 h4; omega
  · exact rg_Nc hlT (rg_Nc (rg_N1 (rg_T_n (by omega) (by omega))) hrT)
  · exact rg_Nc hlE (rg_Nc (rg_N1 (rg_E_n (by omega) (by omega) (by omega))) hrE)
  · by_cases e : i < p
    · exact hlw i h1 e h4
    · by_cases e2 : i = p
      · rw [e2, hW]; omega
      · have := wr i (by omega) h3 h4; omega
theorem rg_cons {tk : Nat → Nat} {l p h : Nat} (ht : tk p = 24) (hl : rg_o tk l p) (hLl : rg_L tk 2 l p) (hr : rg_o tk (p + 1) h) : rg_C tk l h p 1 ∧ rg_o tk l h := by
  obtain ⟨hl0, hlD, hlT, hlE, hls, hle⟩ := hl
  obtain ⟨hr0, hrD, hrT, hrE, hrs, hre⟩ := hr
  obtain ⟨n3, n6, hlw⟩ := hLl (by omega)
  have d := rg_D_n (tk := tk) (i := p) (by omega) (by omega)
  have nd := rg_Nc hlD (rg_Nc (rg_N1 d) hrD)
  have e1 := hlD.1
  refine ⟨⟨by omega, by omega, nd.2, by omega, fun _ => ⟨⟨by omega, by omega⟩, by rw [ht]; rfl, by omega, by omega⟩, fun i h1 h3 h4 => ?_, fun i h1 h3 h4 q => absurd rfl q⟩,
    ⟨by omega, nd, ?_, ?_, hls, hre⟩⟩
  · have := hlw i h1 h3 h4; omega
  · exact rg_Nc hlT (rg_Nc (rg_N1 (rg_T_n (by omega) (by omega))) hrT)
  · exact rg_Nc hlE (rg_Nc (rg_N1 (rg_E_n (by omega) (by omega) (by omega))) hrE)
-- if and try
theorem rg_if {tk : Nat → Nat} {l p q h : Nat} (ht : tk l = 3) (h1 : rg_o tk (l + 1) p) (hp : tk p = 4) (h2 : rg_o tk (p + 1) q) (hq : tk q = 5) (h3 : rg_o tk (q + 1) h) : rg_o tk l h := by
  obtain ⟨a0, aD, aT, aE, as, ae⟩ := h1
  obtain ⟨b0, bD, bT, bE, bs, be⟩ := h2
  obtain ⟨c0, cD, cT, cE, cs, ce⟩ := h3
  refine ⟨by omega, ?_, ?_, ?_, by omega, ce⟩
  · exact rg_Nc (rg_N1 (rg_D_n (by omega) (by omega))) (rg_Nc aD (rg_Nc (rg_N1 (rg_D_n (by omega) (by omega))) (rg_Nc bD (rg_Nc (rg_N1 (rg_D_n (by omega) (by omega))) cD))))
  · exact rg_Nc (rg_Nw (rg_T_o ht) aT (rg_T_c hp)) (rg_Nc bT (rg_Nc (rg_N1 (rg_T_n (by omega) (by omega))) cT))
  · refine rg_Nc (rg_Nw (rg_E_o (Or.inl ht)) (rg_Nc aE (rg_Nc (rg_N1 (rg_E_n (by omega) (by omega) (by omega))) bE)) (rg_E_c hq)) cE
theorem rg_try {tk : Nat → Nat} {l q h : Nat} (ht : tk l = 6) (h2 : rg_o tk (l + 1) q) (hq : tk q = 5) (h3 : rg_o tk (q + 1) h) : rg_o tk l h := by
  obtain ⟨b0, bD, bT, bE, bs, be⟩ := h2
  obtain ⟨c0, cD, cT, cE, cs, ce⟩ := h3
  refine ⟨by omega, ?_, ?_, ?_, by omega, ce⟩
  · exact rg_Nc (rg_N1 (rg_D_n (by omega) (by omega))) (rg_Nc bD (rg_Nc (rg_N1 (rg_D_n (by omega) (by omega))) cD))
  · exact rg_Nc (rg_N1 (rg_T_n (by omega) (by omega))) (rg_Nc bT (rg_Nc (rg_N1 (rg_T_n (by omega) (by omega))) cT))
  · exact rg_Nc (rg_Nw (rg_E_o (Or.inr ht)) bE (rg_E_c hq)) cE
