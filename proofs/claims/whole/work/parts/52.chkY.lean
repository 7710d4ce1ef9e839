-- Y checks the defs and the names
def ym_I (Tk : List tz_T) (Q : Nat → Nat → Nat) (ds : List df_D) (e : Nat) (g : Nat → Nat) (tc tn tp dn dpl drt nop nnm npl nA nB nC nLo nHi nLv : Nat → Int32) : Prop :=
  Tk.length ≤ 200 ∧ (∀ i, i < Tk.length → tt_k Tk i ≤ 27 ∧ tt_p Tk i < 200 ∧ (tt_k Tk i = 13 → tt_n Tk i < 5)) ∧ tx_TY Tk Tk.length tc tn tp ∧ md_F (tt_k Tk) Q ds 0 120 Tk.length e ∧ e ≤ 320 ∧
  (∀ u, 120 ≤ u → u < e → nd_ok (tt_k Tk) (tt_n Tk) Q u ∧ Q 11 u < 2 ^ 30 ∧ Q 9 u < Tk.length) ∧ rd_P (tt_n Tk) (tt_p Tk) ds ds.length dn dpl drt ∧ drt ds.length = nI e ∧ rd_B (tt_k Tk) (tt_p Tk) Q Tk.length ds ds.length e g nop nnm npl nA nB nC nLo nHi nLv
section
variable {f_width f_length f_place f_toks f_nodes f_defs : Int32} {a_text a_tok a_tokNum a_tokPlace a_opened a_nOp a_nNum a_nPlace a_nA a_nB a_nC a_nLo a_nHi a_nLevel a_defName a_defPlace a_defRoot a_loaded a_count a_status : Nat → Int32} {a_number : Nat → Int64} {a_origin a_choice a_slotF a_slotX a_slotHeld : Nat → Int32} {Tk : List tz_T} {Q : Nat → Nat → Nat} {ds : List df_D} {e : Nat} {g : Nat → Nat}
theorem ym_d (I : ym_I Tk Q ds e g a_tok a_tokNum a_tokPlace a_defName a_defPlace a_defRoot a_nOp a_nNum a_nPlace a_nA a_nB a_nC a_nLo a_nHi a_nLevel) {i : Nat} (hi : i < ds.length) :
    ∃ d, ds[i]? = some d ∧ md_D (tt_k Tk) Q d ∧ d.1 < Tk.length ∧ d.2.2.2 < Tk.length ∧ 120 ≤ d.2.1 ∧ d.2.2.1 ≤ e ∧ mn_f Tk ds i = tt_n Tk d.1 ∧ a_defName i = nI (mn_f Tk ds i) ∧ a_defPlace i = nI (tt_p Tk d.1) ∧ a_defRoot i = nI d.2.1 ∧ a_defRoot (i + 1) = nI d.2.2.1 ∧ mn_f Tk ds i < 5 ∧
      yb_I (tt_k Tk) (tt_p Tk) Q Tk.length d.2.1 d.2.2.1 (Q 11 (d.2.2.1 - 1)) d.2.2.1 d.2.2.1 g a_nOp a_nNum a_nPlace a_nA a_nB a_nC a_nLo a_nHi a_nLevel := by
  obtain ⟨i1, i2, i3, i4, i5, i6, i7, i8, i9⟩ := I
  have hs : ds[i]? = some ds[i] := List.getElem?_eq_getElem hi
  obtain ⟨q1, q2, q3, q4, q5⟩ := md_i ds _ _ _ _ i4 i _ hs
  have := q1.2.2.2.2.2.1.1
  obtain ⟨w1, w2, w3⟩ := i7 i _ hi hs
  obtain ⟨z1, z2, z3⟩ := i9 i _ hi hs
  refine ⟨ds[i], hs, q1, by omega, q3, q4, q5, mn_s hs, by rw [mn_s hs]; exact w1, w2, w3, ?_, by rw [mn_s hs]; exact (i2 _ (by omega)).2.2 q1.1, z3⟩
  -- the next root
  have nx : ∀ (r : List df_D) (t e0 : Nat), md_F (tt_k Tk) Q r t e0 Tk.length e → ∀ (j : Nat) (d : df_D), r[j]? = some d → (∃ c, r[j + 1]? = some c ∧ c.2.1 = d.2.2.1) ∨ (j + 1 = r.length ∧ e = d.2.2.1) := by
    intro r
    induction r with
    | nil => intro t e0 _ j d h; simp at h
    | cons a r ih =>
      intro t e0 h j d hj
      obtain ⟨h1, h2, h3, h4⟩ := h
      cases j with
      | zero =>
        simp at hj
        subst hj
        cases r with
        | nil => obtain ⟨_, h5⟩ := h4; exact Or.inr ⟨rfl, h5.symm⟩
        | cons b r => exact Or.inl ⟨b, rfl, h4.2.1⟩
      | succ j =>
        simp at hj
        rcases ih _ _ h4 j d hj with q | q
        · exact Or.inl q
        · exact Or.inr ⟨by rw [List.length_cons]; omega, q.2⟩
  rcases nx ds 0 120 i4 i _ hs with ⟨c, c1, c2⟩ | ⟨c1, c2⟩
  · have cl : i + 1 < ds.length := by
      rcases Nat.lt_or_ge (i + 1) ds.length with q | q
      · exact q
      · rw [List.getElem?_eq_none q] at c1; exact absurd c1 (by simp)
    rw [(i7 (i + 1) c cl c1).2.2, c2]
  · rw [c1, i8, c2]
theorem ym_sz (I : ym_I Tk Q ds e g a_tok a_tokNum a_tokPlace a_defName a_defPlace a_defRoot a_nOp a_nNum a_nPlace a_nA a_nB a_nC a_nLo a_nHi a_nLevel) {i r : Nat} (hi : i < ds.length) (hc : ck_f Q (mn_f Tk ds) ds i r) {post : Int32 → Prop} (h : post (nI r)) : wpY_sizes post (f_width, f_length, f_place, f_toks, f_nodes, nI ds.length, a_text, a_tok, a_tokNum, a_tokPlace, a_opened, a_nOp, a_nNum, a_nPlace, a_nA, a_nB, a_nC, a_nLo, a_nHi, a_nLevel, a_defName, a_defPlace, a_defRoot, a_loaded, a_count, a_status, a_number, a_origin, a_choice, a_slotF, a_slotX, a_slotHeld) (nI i) := by
  have I0 := I
  obtain ⟨d, hs, hD, dT, sT, d120, de, fe, dN, dP, dR, dR2, f5, yb⟩ := ym_d I hi
  obtain ⟨i1, i2, i3, i4, i5, i6, i7, i8, i9⟩ := I
  have b50 := xm_50 i4 i1
  obtain ⟨d2, hs2, hc⟩ := hc
  rw [hs] at hs2
  have := Option.some.inj hs2
  subst this
  have FE := hD.2.2.2.2.2.2.2.1
  obtain ⟨y1, y2, y3, y4, y5, y6, y7⟩ := yb
  -- the sums
  have cnt : ct_n (fun j => Q 0 (g j) == 24) d.2.2.1 - ct_n (fun j => Q 0 (g j) == 24) d.2.1 = ck_n Q d.2.2.1 - ck_n Q d.2.1 := by
    have b := bf_n y3 (fun n => (ck_n Q n : Int))
    have e1 : ∀ n, rg_c (bf_p (fun n => (ck_n Q n : Int)) g) n = (ct_n (fun j => Q 0 (g j) == 24) n : Int) := by
      intro n
      induction n with
      | zero => rfl
      | succ n ih =>
        rw [bf_s1, ih]
        have a : ck_n Q (g n + 1) = ck_n Q (g n) + (if (Q 0 (g n) == 24) = true then 1 else 0) := rfl
        have c : ct_n (fun j => Q 0 (g j) == 24) (n + 1) = ct_n (fun j => Q 0 (g j) == 24) n + (if (Q 0 (g n) == 24) = true then 1 else 0) := rfl
        show _ + ((ck_n Q (g n + 1) : Int) - (ck_n Q (g n) : Int)) = _
        rw [a, c]
        split <;> omega
    rw [e1, e1] at b
    omega
  have loop2 : ¬ (∃ j, j < i ∧ mn_f Tk ds j = mn_f Tk ds i) → ∃ n, wY_sizes_42 post (nI i) f_width f_length f_place f_toks f_nodes (nI ds.length) a_text a_tok a_tokNum a_tokPlace a_opened a_nOp a_nNum a_nPlace a_nA a_nB a_nC a_nLo a_nHi a_nLevel a_defName a_defPlace a_defRoot a_loaded a_count a_status a_number a_origin a_choice a_slotF a_slotX a_slotHeld n 0 0 (nI d.2.1) := by
    intro nd
    have key : ∀ dd k x m, k + dd = d.2.2.1 → d.2.1 ≤ k → x + ct_n (fun j => Q 0 (g j) == 24) d.2.1 = ct_n (fun j => Q 0 (g j) == 24) k → m ≤ Q 11 (d.2.2.1 - 1) →
        (∀ j lv, d.2.1 ≤ j → j < k → a_nLevel j = nI lv → lv < 2 ^ 30 → lv + 1 ≤ m) → ∀ n, dd < n → wY_sizes_42 post (nI i) f_width f_length f_place f_toks f_nodes (nI ds.length) a_text a_tok a_tokNum a_tokPlace a_opened a_nOp a_nNum a_nPlace a_nA a_nB a_nC a_nLo a_nHi a_nLevel a_defName a_defPlace a_defRoot a_loaded a_count a_status a_number a_origin a_choice a_slotF a_slotX a_slotHeld n (nI x) (nI m) (nI k) := by
      intro dd
      induction dd with
      | zero =>
        intro k x m hk hF hx hm hlv n hn
        obtain ⟨n, rfl⟩ : ∃ q, n = q + 1 := ⟨n - 1, by omega⟩
        have ek : k = d.2.2.1 := by omega
        subst ek
        have e1 : nI i + 1 = nI (i + 1) := nI_1 i
        have r11 := (i6 (d.2.2.1 - 1) (by omega) (by omega)).2.1
        have xb := ct_le (fun j => Q 0 (g j) == 24) d.2.2.1
        have mR : m = Q 11 (d.2.2.1 - 1) := by
          obtain ⟨j, j1, j2, lv, j3, j4⟩ := y6
          have : lv + 1 = Q 11 (d.2.2.1 - 1) := by omega
          have := hlv j lv j1 j2 j3 (by omega)
          omega
        refine ⟨by rw [e1]; exact vp_in_nI (by omega) (by decide), ?_⟩
        rw [e1, nI_clamp (by omega), dR2]
        refine br_t (nI_le (Nat.le_refl _) (by omega)) ⟨vp_in_nI (by omega) (by decide), vp_in_nI (by omega) (by decide), ?_⟩
        rw [nI_clamp (by omega), dR]
        have es : nI d.2.2.1 - nI d.2.1 = nI (d.2.2.1 - d.2.1) := pk_sub (by omega)
        rw [es]
        have h5 : (24 < d.2.2.1 - d.2.1 ∨ 3 < ck_n Q d.2.2.1 - ck_n Q d.2.1) → post 5 := by
          intro q
          rcases hc with ⟨a, _⟩ | ⟨_, ⟨_, rfl⟩ | ⟨a, _⟩⟩
          · exact absurd a nd
          · exact h
          · exact absurd q a
        refine pk_lt 24 (d.2.2.1 - d.2.1) (fun c => h5 (Or.inl c)) (fun c => pk_le x 3 (fun c2 => pk_le m 8 (fun c3 => ?_) (fun c3 => ?_)) (fun c2 => h5 (Or.inr (by omega))))
        · rcases hc with ⟨a, _⟩ | ⟨_, ⟨a, _⟩ | ⟨_, ⟨a, _⟩ | ⟨_, rfl⟩⟩⟩
          · exact absurd a nd
          · omega
          · omega
          · exact h
        · rcases hc with ⟨a, _⟩ | ⟨_, ⟨a, _⟩ | ⟨_, ⟨_, rfl⟩ | ⟨a, _⟩⟩⟩
          · exact absurd a nd
          · omega
          · exact h
          · omega
      | succ dd ih =>
        intro k x m hk hF hx hm hlv n hn
        obtain ⟨n, rfl⟩ : ∃ q, n = q + 1 := ⟨n - 1, by omega⟩
        have e1 : nI i + 1 = nI (i + 1) := nI_1 i
        have r11 := (i6 (d.2.2.1 - 1) (by omega) (by omega)).2.1
        obtain ⟨z1, z2, z3, l0, h0, lv, z4, z5, z6, z7, z8, z9, z10⟩ := y4 k hF (by omega)
        have lb := z10 (by omega)
        obtain ⟨w1, _⟩ := y5 k hF (by omega)
        have okg := (i6 (g k) (by omega) (by omega)).1
        have bd : Q 0 (g k) < 34 := by
          rcases okg.1 with q | ⟨q, _⟩ | ⟨q, _⟩ | ⟨q, _⟩ | ⟨q, _⟩ | ⟨q, _⟩ <;> omega
        have hin : vp_in (nI k) 320 := vp_in_nI (by omega) (by decide)
        have st : ct_n (fun j => Q 0 (g j) == 24) (k + 1) = ct_n (fun j => Q 0 (g j) == 24) k + (if (Q 0 (g k) == 24) = true then 1 else 0) := rfl
        have fin : ∀ x2, x2 + ct_n (fun j => Q 0 (g j) == 24) d.2.1 = ct_n (fun j => Q 0 (g j) == 24) (k + 1) → wY_sizes_70 post (wY_sizes_42 post (nI i) f_width f_length f_place f_toks f_nodes (nI ds.length) a_text a_tok a_tokNum a_tokPlace a_opened a_nOp a_nNum a_nPlace a_nA a_nB a_nC a_nLo a_nHi a_nLevel a_defName a_defPlace a_defRoot a_loaded a_count a_status a_number a_origin a_choice a_slotF a_slotX a_slotHeld n) (nI i) (nI x2) (nI m) (nI k) f_width f_length f_place f_toks f_nodes (nI ds.length) a_text a_tok a_tokNum a_tokPlace a_opened a_nOp a_nNum a_nPlace a_nA a_nB a_nC a_nLo a_nHi a_nLevel a_defName a_defPlace a_defRoot a_loaded a_count a_status a_number a_origin a_choice a_slotF a_slotX a_slotHeld := by
          intro x2 hx2
          refine ⟨hin, ?_⟩
          rw [nI_clamp (by omega), z6, nI_1]
          have up : ∀ m2, m ≤ m2 → lv + 1 ≤ m2 → ∀ j lv2, d.2.1 ≤ j → j < k + 1 → a_nLevel j = nI lv2 → lv2 < 2 ^ 30 → lv2 + 1 ≤ m2 := by
            intro m2 a b j lv2 h1 h2 h3 h4
            by_cases q : j = k
            · subst q
              rw [z6] at h3
              have := (nI_eq (by omega) (by omega)).mp h3
              omega
            · have := hlv j lv2 h1 (by omega) h3 h4
              omega
          refine pk_le (lv + 1) m (fun c => fun y ey => ?_) (fun c => ⟨hin, fun y ey z ez => ?_⟩)
          · rw [ey, nI_1]
            exact ih (k + 1) x2 m (by omega) (by omega) hx2 hm (up m (Nat.le_refl _) c) n (by omega)
          · rw [nI_1] at ez
            subst ey ez
            exact ih (k + 1) x2 (lv + 1) (by omega) (by omega) hx2 lb (up (lv + 1) (by omega) (Nat.le_refl _)) n (by omega)
        refine ⟨by rw [e1]; exact vp_in_nI (by omega) (by decide), ?_⟩
        rw [e1, nI_clamp (by omega), dR2]
        refine br_f (nI_ge (by omega) (by omega)) ⟨hin, ?_⟩
        rw [nI_clamp (by omega), w1]
        refine pk_eq (Q 0 (g k)) 24 (fun c => fun y ey => ?_) (fun c => fin x ?_)
        · rw [nI_1] at ey
          subst ey
          refine fin (x + 1) ?_
          rw [if_pos (by rw [c]; rfl)] at st
          omega
        · rw [if_neg (by simpa using c)] at st
          omega
    exact ⟨_, key (d.2.2.1 - d.2.1) d.2.1 0 0 (by omega) (Nat.le_refl _) (by omega) (by omega) (fun j lv h1 h2 => by omega) _ (Nat.lt_succ_self _)⟩
  have key : ∀ dd j, j + dd = i → (∀ q, q < j → mn_f Tk ds q ≠ mn_f Tk ds i) → ∀ n, dd < n → wY_sizes_2 post (nI i) f_width f_length f_place f_toks f_nodes (nI ds.length) a_text a_tok a_tokNum a_tokPlace a_opened a_nOp a_nNum a_nPlace a_nA a_nB a_nC a_nLo a_nHi a_nLevel a_defName a_defPlace a_defRoot a_loaded a_count a_status a_number a_origin a_choice a_slotF a_slotX a_slotHeld n (nI j) := by
    intro dd
    induction dd with
    | zero =>
      intro j hj hq n hn
      obtain ⟨n, rfl⟩ : ∃ q, n = q + 1 := ⟨n - 1, by omega⟩
      have ej : j = i := by omega
      subst ej
      refine br_t (nI_le (Nat.le_refl _) (by omega)) ⟨vp_in_nI (by omega) (by decide), fun y ey => ?_⟩
      rw [nI_clamp (by omega), dR] at ey
      subst ey
      exact loop2 (fun ⟨q, q1, q2⟩ => hq q q1 q2)
    | succ dd ih =>
      intro j hj hq n hn
      obtain ⟨n, rfl⟩ : ∃ q, n = q + 1 := ⟨n - 1, by omega⟩
      obtain ⟨d3, _, _, _, _, _, _, _, dN3, _, _, _, f53, _⟩ := ym_d I0 (i := j) (by omega)
      refine br_f (nI_ge (by omega) (by omega)) ⟨vp_in_nI (by omega) (by decide), vp_in_nI (by omega) (by decide), ?_⟩
      rw [nI_clamp (by omega), nI_clamp (by omega), dN3, dN]
      refine pk_eq (mn_f Tk ds j) (mn_f Tk ds i) (fun c => ?_) (fun c => fun y ey => ?_)
      · rcases hc with ⟨_, rfl⟩ | ⟨a, _⟩
        · exact h
        · exact absurd ⟨j, by omega, c⟩ a
      · rw [ey, nI_1]
        refine ih (j + 1) (by omega) (fun q hq2 => ?_) n (by omega)
        by_cases w : q = j
        · rw [w]; exact c
        · exact hq q (by omega)
  exact ⟨_, key i 0 (by omega) (fun q hq => by omega) _ (Nat.lt_succ_self _)⟩
theorem ym_of (I : ym_I Tk Q ds e g a_tok a_tokNum a_tokPlace a_defName a_defPlace a_defRoot a_nOp a_nNum a_nPlace a_nA a_nB a_nC a_nLo a_nHi a_nLevel) {f : Nat} (hf : f < 5) {post : Int32 → Prop}
    (h1 : ∀ i, i < ds.length → mn_f Tk ds i = f → post (nI i)) (h0 : (¬ ∃ i, i < ds.length ∧ mn_f Tk ds i = f) → post (-1)) : wpY_defOf post (f_width, f_length, f_place, f_toks, f_nodes, nI ds.length, a_text, a_tok, a_tokNum, a_tokPlace, a_opened, a_nOp, a_nNum, a_nPlace, a_nA, a_nB, a_nC, a_nLo, a_nHi, a_nLevel, a_defName, a_defPlace, a_defRoot, a_loaded, a_count, a_status, a_number, a_origin, a_choice, a_slotF, a_slotX, a_slotHeld) (nI f) := by
  have b50 := xm_50 I.2.2.2.1 I.1
  have key : ∀ dd j, j + dd = ds.length → (∀ q, q < j → mn_f Tk ds q ≠ f) → ∀ n, dd < n → wY_defOf_2 post (nI f) f_width f_length f_place f_toks f_nodes (nI ds.length) a_text a_tok a_tokNum a_tokPlace a_opened a_nOp a_nNum a_nPlace a_nA a_nB a_nC a_nLo a_nHi a_nLevel a_defName a_defPlace a_defRoot a_loaded a_count a_status a_number a_origin a_choice a_slotF a_slotX a_slotHeld n (nI j) := by
    intro dd
    induction dd with
    | zero =>
      intro j hj hq n hn
      obtain ⟨n, rfl⟩ : ∃ q, n = q + 1 := ⟨n - 1, by omega⟩
      have ej : j = ds.length := by omega
      subst ej
      exact br_t (nI_le (Nat.le_refl _) (by omega)) (h0 (fun ⟨q, q1, q2⟩ => hq q q1 q2))
    | succ dd ih =>
      intro j hj hq n hn
      obtain ⟨n, rfl⟩ : ∃ q, n = q + 1 := ⟨n - 1, by omega⟩
      obtain ⟨d3, _, _, _, _, _, _, _, dN3, _, _, _, f53, _⟩ := ym_d I (i := j) (by omega)
      refine br_f (nI_ge (by omega) (by omega)) ⟨vp_in_nI (by omega) (by decide), ?_⟩
      rw [nI_clamp (by omega), dN3]
      refine pk_eq (mn_f Tk ds j) f (fun c => h1 j (by omega) c) (fun c => fun y ey => ?_)
      rw [ey, nI_1]
      refine ih (j + 1) (by omega) (fun q hq2 => ?_) n (by omega)
      by_cases w : q = j
      · rw [w]; exact c
      · exact hq q (by omega)
  exact ⟨_, key ds.length 0 (by omega) (fun q hq => by omega) _ (Nat.lt_succ_self _)⟩
end
