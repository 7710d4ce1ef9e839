-- X parses
section
variable {f_width f_textLength f_foundPlace f_tokenCount f_frameCount f_operandCount f_defCount f_nodeEnd : Int32} {a_text a_tokenCode a_tokenPlace a_frameCode a_framePlace a_operand a_defPlace a_defFirst a_defEnd a_nodeOp a_nodeNumber a_nodePlace a_nodeDepth a_nodeKind a_part a_size a_kindFound a_choice a_status : Nat → Int32} {a_result : Nat → Int64} {a_slotFunction a_slotArgument : Nat → Int32} {L : Nat} {tx : Nat → Nat} {Tk : List tz_T} {no0 nn0 np0 pt0 : Nat → Int32} {t : Nat} {fcn ocn dcn nen : Int32} {fc fp op dp df de no nn np nd pt : Nat → Int32} {Q : Nat → Nat → Nat} {e F fr : Nat} {fs : List fr_F} {ops : List Nat} {dl : List df_D} {post : Int32 → SX → Prop}
theorem go_X (hT : tx_P L tx a_text) (hK : xp_T L tx Tk) (htT : t < Tk.length)
    (hB : pa_B Tk no0 nn0 np0 pt0 6 t Q e fs ops dl fcn ocn dcn nen dp df de no nn np nd pt) (hD : pa_D Tk t Q F fr fs dl dp df) (hF : xp_F Tk t fs fc fp) (ho : ar_L op ops)
    (hS : pa_S (tt_k Tk) Q F 6 t e fs ops)
    (hk : ∀ st2 fcn ocn dcn nen fc fp op dp df de no nn np nd pt, 1 ≤ st2 → st2 ≤ 6 → pa_I Tk no0 nn0 np0 pt0 st2 (t + 1) fcn ocn dcn nen fc fp op dp df de no nn np nd pt → post (nI st2) (f_width, nI L, f_foundPlace, f_tokenCount, fcn, ocn, dcn, nen, a_text, a_tokenCode, a_tokenPlace, fc, fp, op, dp, df, de, no, nn, np, nd, a_nodeKind, pt, a_size, a_kindFound, a_choice, a_status, a_result, a_slotFunction, a_slotArgument))
    (hs : ms_f (tt_k Tk) (t + 1) = none → ∀ fcn ocn dcn nen fc fp op dp df de no nn np nd pt, xp_K no0 nn0 np0 pt0 no nn np pt → post 0 (f_width, nI L, f_foundPlace, f_tokenCount, fcn, ocn, dcn, nen, a_text, a_tokenCode, a_tokenPlace, fc, fp, op, dp, df, de, no, nn, np, nd, a_nodeKind, pt, a_size, a_kindFound, a_choice, a_status, a_result, a_slotFunction, a_slotArgument)) :
    wpX_goOn post (f_width, nI L, f_foundPlace, f_tokenCount, fcn, ocn, dcn, nen, a_text, a_tokenCode, a_tokenPlace, fc, fp, op, dp, df, de, no, nn, np, nd, a_nodeKind, pt, a_size, a_kindFound, a_choice, a_status, a_result, a_slotFunction, a_slotArgument) (nI (xc_k (tt_k Tk t) (tt_n Tk t))) (nI (tt_p Tk t)) := by
  obtain ⟨b1, b2, b3, b4, b5, b6, b7, b8, b9, b10, b11⟩ := hB
  subst b1 b2 b3 b4
  obtain ⟨h1, h2, hS⟩ := hS
  have hS : ∃ v rest at0, ops = v :: rest ∧ fr_S (tt_k Tk) Q fs rest at0 ∧ fr_o (tt_k Tk) Q at0 t v ∧ rg_L (tt_k Tk) 7 at0 t ∧ ∃ f r, fs = f :: r := by
    rcases hS with q | q | q | q
    · exact absurd q.1 (by decide)
    · exact absurd q.1 (by decide)
    · exact absurd q.1 (by decide)
    · exact q.2
  obtain ⟨v, rest, at0, rfl, s1, s2, s3, f, r, rfl⟩ := hS
  obtain ⟨tpL, _, _, k0, k27⟩ := hK.2.2 t htT
  have n5 : tt_k Tk t = 13 → tt_n Tk t < 5 := xp_n5 hT hK htT
  have Tl := hK.1
  have hL := hT.1
  have b11 : ms_f (tt_k Tk) t = some (4, ms_o (f :: r)) := b11
  have I : cl_I Tk F t no0 nn0 np0 pt0 Q Q e at0 7 (f :: r) rest v no nn np nd pt fc fp op := by
    rw [List.length_cons] at h2
    refine ⟨s1, s2, s3, fun g hg => (pa_n7 g.1).1, h1, hD.2.1, b5, b6, hF, ho, b9, by omega, by omega, fun _ _ _ => rfl⟩
  have hZ : ∀ g gs, (ms_o (g :: gs) = ms_o (f :: r) ∧ fr_B fr (g :: gs)) → 1 ≤ fr_l g.1 → (ms_o gs = ms_o (f :: r) ∧ fr_B fr gs) := by
    intro g gs h1 h2
    exact ⟨by rw [← ms_op h2]; exact h1.1, h1.2.2⟩
  have z0 : ms_o (f :: r) = ms_o (f :: r) ∧ fr_B fr (f :: r) := ⟨rfl, hD.2.2.2.2.1⟩
  have xb := xk_b k27 n5
  have j24 := xk_i (C := 58) (K := 24) k27 n5 (by decide) (by decide) (by decide)
  have gl := go_l (tt_k Tk t) (by omega)
  have rest1 : tt_k Tk t ≠ 24 → ¬ (14 ≤ tt_k Tk t ∧ tt_k Tk t ≤ 22) → wX_goOn_48 post (nI (xc_k (tt_k Tk t) (tt_n Tk t))) f_width (nI L) f_foundPlace f_tokenCount (nI (f :: r).length) (nI (v :: rest).length) (nI dl.length) (nI e) a_text a_tokenCode a_tokenPlace fc fp op dp df de no nn np nd a_nodeKind pt a_size a_kindFound a_choice a_status a_result a_slotFunction a_slotArgument := by
    intro n24 nb
    refine cl_X hT hK (level := 1) (by decide) (by decide) (fun gs => ms_o gs = ms_o (f :: r) ∧ fr_B fr gs) hZ I (by decide) z0 ?_
    intro Q1 e1 at1 lev1 f1 fs1 ops1 v1 no1 nn1 np1 nd1 pt1 op1 I1 hlev1 hf1 hz1
    exact op_X hT hK htT I1 hf1 hz1 hD b7 b11 n24 nb hk hs
  refine pk_eq (xc_k (tt_k Tk t) (tt_n Tk t)) 58 (fun q => ?_) (fun q => ?_)
  · have k24 := j24.mp q
    refine cl_X hT hK (level := 2) (by decide) (by decide) (fun gs => ms_o gs = ms_o (f :: r) ∧ fr_B fr gs) hZ I (by decide) z0 ?_
    intro Q1 e1 at1 lev1 f1 fs1 ops1 v1 no1 nn1 np1 nd1 pt1 op1 I1 hlev1 hf1 hz1
    have i11 := I1.2.2.2.2.2.2.2.2.2.2.1
    have i120 := I1.2.2.2.2.2.2.1.1
    rw [List.length_cons] at i11
    have l24 : fr_l (tt_k Tk t) = 1 := by rw [k24]; rfl
    refine of_X (m := fs1.length + 1) (by omega) ?_
    have xe : xc_k (tt_k Tk t) (tt_n Tk t) = xc_t (tt_k Tk t) := by unfold xc_k; rw [if_neg (by omega)]
    rw [xe]
    exact hk 3 _ _ _ _ _ _ _ _ _ _ _ _ _ _ _ (by decide) (by decide) (go_p htT k27 I1 (by omega) (by omega) (Or.inl ⟨k24, hf1⟩) hz1 hD b7 b11 (by rw [if_pos k24]))
  · have n24 : tt_k Tk t ≠ 24 := fun z => q (j24.mpr z)
    refine lv_X xb ?_
    rw [go_k k27 n5]
    have l7 : fr_l (tt_k Tk t) ≤ 7 := by unfold fr_l; repeat' split
                                         all_goals omega
    refine pk_lt (fr_l (tt_k Tk t)) 2 (fun c => rest1 n24 (by omega)) (fun c => pk_lt 6 (fr_l (tt_k Tk t)) (fun c2 => rest1 n24 (by omega)) (fun c2 => ?_))
    have kb := gl.mp ⟨c, c2⟩
    refine cl_X hT hK (level := fr_l (tt_k Tk t)) (by omega) (by omega) (fun gs => ms_o gs = ms_o (f :: r) ∧ fr_B fr gs) hZ I (by omega) z0 ?_
    intro Q1 e1 at1 lev1 f1 fs1 ops1 v1 no1 nn1 np1 nd1 pt1 op1 I1 hlev1 hf1 hz1
    have i11 := I1.2.2.2.2.2.2.2.2.2.2.1
    have i120 := I1.2.2.2.2.2.2.1.1
    rw [List.length_cons] at i11
    refine of_X (m := fs1.length + 1) (by omega) ?_
    have xe : xc_k (tt_k Tk t) (tt_n Tk t) = xc_t (tt_k Tk t) := by unfold xc_k; rw [if_neg (by omega)]
    rw [xe]
    exact hk 4 _ _ _ _ _ _ _ _ _ _ _ _ _ _ _ (by decide) (by decide) (go_p htT k27 I1 hlev1 (by omega) (Or.inr ⟨kb.1, kb.2, hf1⟩) hz1 hD b7 b11 (by rw [if_neg n24]))
end
-- where the text fails: none, the index of a token, or the count of tokens
def ms_R (tk : Nat → Nat) (T : Nat) (r : Option Nat) : Prop :=
  (r = none ∧ 0 < T ∧ ∃ o, ms_f tk T = some (0, o)) ∨
  (∃ i, r = some i ∧ i < T ∧ ms_f tk i ≠ none ∧ ms_f tk (i + 1) = none) ∨
  (r = some T ∧ ∃ w o, ms_f tk T = some (w, o) ∧ ¬ (w = 0 ∧ 0 < T))
theorem ms_up {tk : Nat → Nat} {i : Nat} (h : ms_f tk i = none) : ∀ d, ms_f tk (i + d) = none := by
  intro d
  induction d with
  | zero => exact h
  | succ d ih => show (ms_f tk (i + d)).bind _ = none; rw [ih]; rfl
theorem ms_ex (tk : Nat → Nat) (T : Nat) : ∃ r, ms_R tk T r := by
  by_cases h : ms_f tk T = none
  · obtain ⟨k, hk, hm⟩ := pk_least (fun k => ms_f tk k = none) ⟨T, h⟩
    have h0 : k ≠ 0 := by
      intro q
      rw [q] at hk
      exact absurd hk (by simp [ms_f])
    have hkT : k ≤ T := by
      rcases Nat.lt_or_ge T k with q | q
      · exact absurd h (hm T q)
      · exact q
    exact ⟨some (k - 1), Or.inr (Or.inl ⟨k - 1, rfl, by omega, hm (k - 1) (by omega), by rw [(by omega : k - 1 + 1 = k)]; exact hk⟩)⟩
  · obtain ⟨⟨w, o⟩, hw⟩ : ∃ s, ms_f tk T = some s := by
      cases hh : ms_f tk T with
      | none => exact absurd hh h
      | some s => exact ⟨s, rfl⟩
    by_cases c : w = 0 ∧ 0 < T
    · obtain ⟨rfl, c2⟩ := c
      exact ⟨none, Or.inl ⟨rfl, c2, o, hw⟩⟩
    · exact ⟨some T, Or.inr (Or.inr ⟨rfl, w, o, hw, c⟩)⟩
theorem ms_Ru {tk : Nat → Nat} {T : Nat} {r s : Option Nat} (h : ms_R tk T r) (g : ms_R tk T s) : r = s := by
  have nn : ∀ i, i < T → ms_f tk (i + 1) = none → ms_f tk T ≠ none → False := by
    intro i hi h1 h2
    have := ms_up h1 (T - (i + 1))
    rw [(by omega : i + 1 + (T - (i + 1)) = T)] at this
    exact h2 this
  rcases h with ⟨h1, h2, o, h3⟩ | ⟨i, h1, h2, h3, h4⟩ | ⟨h1, w, o, h2, h3⟩ <;> rcases g with ⟨g1, g2, p, g3⟩ | ⟨j, g1, g2, g3, g4⟩ | ⟨g1, x, p, g2, g3⟩
  · rw [h1, g1]
  · exact (nn j g2 g4 (by rw [h3]; simp)).elim
  · rw [h3] at g2
    simp at g2
    exact absurd ⟨g2.1.symm, h2⟩ g3
  · exact (nn i h2 h4 (by rw [g3]; simp)).elim
  · rcases Nat.lt_trichotomy i j with q | q | q
    · exfalso
      have := ms_up h4 (j - (i + 1))
      rw [(by omega : i + 1 + (j - (i + 1)) = j)] at this
      exact g3 this
    · rw [h1, g1, q]
    · exfalso
      have := ms_up g4 (i - (j + 1))
      rw [(by omega : j + 1 + (i - (j + 1)) = i)] at this
      exact h3 this
  · exact (nn i h2 h4 (by rw [g2]; simp)).elim
  · rw [g3] at h2
    simp at h2
    exact absurd ⟨h2.1.symm, g2⟩ h3
  · exact (nn j g2 g4 (by rw [h2]; simp)).elim
  · rw [h1, g1]
section
variable {f_width f_textLength f_foundPlace f_tokenCount f_frameCount f_operandCount f_defCount f_nodeEnd : Int32} {a_text a_tokenCode a_tokenPlace a_frameCode a_framePlace a_operand a_defPlace a_defFirst a_defEnd a_nodeOp a_nodeNumber a_nodePlace a_nodeDepth a_nodeKind a_part a_size a_kindFound a_choice a_status : Nat → Int32} {a_result : Nat → Int64} {a_slotFunction a_slotArgument : Nat → Int32} {L : Nat} {tx : Nat → Nat} {Tk : List tz_T} {no0 nn0 np0 pt0 : Nat → Int32} {post : Int32 → SX → Prop}
theorem pr_25 (hT : tx_P L tx a_text) (hK : xp_T L tx Tk) (hTX : tx_TX Tk Tk.length a_tokenCode a_tokenPlace) {r : Option Nat} (hR : ms_R (tt_k Tk) Tk.length r)
    (h1 : r = none → ∀ fcn ocn dcn nen fc fp op dp df de no nn np nd pt, pa_I Tk no0 nn0 np0 pt0 1 Tk.length fcn ocn dcn nen fc fp op dp df de no nn np nd pt → post 1 (f_width, nI L, f_foundPlace, nI Tk.length, fcn, ocn, dcn, nen, a_text, a_tokenCode, a_tokenPlace, fc, fp, op, dp, df, de, no, nn, np, nd, a_nodeKind, pt, a_size, a_kindFound, a_choice, a_status, a_result, a_slotFunction, a_slotArgument))
    (h3 : ∀ i, r = some i → ∀ fcn ocn dcn nen fc fp op dp df de no nn np nd pt, xp_K no0 nn0 np0 pt0 no nn np pt → post 3 (f_width, nI L, nI (if i < Tk.length then tt_p Tk i else L), nI Tk.length, fcn, ocn, dcn, nen, a_text, a_tokenCode, a_tokenPlace, fc, fp, op, dp, df, de, no, nn, np, nd, a_nodeKind, pt, a_size, a_kindFound, a_choice, a_status, a_result, a_slotFunction, a_slotArgument)) :
    ∀ d t st fcn ocn dcn nen fc fp op dp df de no nn np nd pt, t + d = Tk.length → 1 ≤ st → st ≤ 6 → pa_I Tk no0 nn0 np0 pt0 st t fcn ocn dcn nen fc fp op dp df de no nn np nd pt → ∀ n, d < n → wX_parse_25 post n (nI st) (nI t) f_width (nI L) f_foundPlace (nI Tk.length) fcn ocn dcn nen a_text a_tokenCode a_tokenPlace fc fp op dp df de no nn np nd a_nodeKind pt a_size a_kindFound a_choice a_status a_result a_slotFunction a_slotArgument := by
  have hL := hT.1
  have Tl := hK.1
  intro d
  induction d with
  | zero =>
    intro t st fcn ocn dcn nen fc fp op dp df de no nn np nd pt ht hs1 hs6 I n hn
    obtain ⟨n, rfl⟩ : ∃ k, n = k + 1 := ⟨n - 1, by omega⟩
    have et : t = Tk.length := by omega
    subst et
    have I0 := I
    obtain ⟨Q, e, F, fr, fs, ops, dl, ⟨b1, b2, b3, b4, b5, b6, b7, b8, b9, b10, b11⟩, hst⟩ := I
    have bad : ¬ (pa_w st = 0 ∧ 0 < Tk.length) → wX_parse_220 post f_width (nI L) f_foundPlace (nI Tk.length) fcn ocn dcn nen a_text a_tokenCode a_tokenPlace fc fp op dp df de no nn np nd a_nodeKind pt a_size a_kindFound a_choice a_status a_result a_slotFunction a_slotArgument := by
      intro nb
      have er := ms_Ru hR (Or.inr (Or.inr ⟨rfl, _, _, b11, nb⟩))
      have := h3 Tk.length er fcn ocn dcn nen fc fp op dp df de no nn np nd pt b6
      rw [if_neg (by omega)] at this
      exact br_t rfl this
    refine br_t (nI_le (Nat.le_refl _) (by omega)) ?_
    refine pk_eq st 1 (fun c => ?_) (fun c => bad ?_)
    · subst c
      have hdf : df_C (tt_k Tk) Q dl Tk.length e := by
        rcases hst with q | q | q
        · exact q.2.2.2
        · exact absurd q.1 (by decide)
        · exact absurd q.1 (by decide)
      subst b3
      refine pk_le dl.length 0 (fun c => bad ?_) (fun c => ?_)
      · have : dl = [] := List.length_eq_zero_iff.mp (by omega)
        subst this
        have := hdf.1
        omega
      · have T0 : 0 < Tk.length := by omega
        have er := ms_Ru hR (Or.inl ⟨rfl, T0, _, b11⟩)
        exact bq_1 (h1 er _ _ _ _ _ _ _ _ _ _ _ _ _ _ _ I0)
    · intro q
      have := q.1
      unfold pa_w at this
      rw [if_neg c] at this
      repeat' split at this
      all_goals omega
  | succ d ih =>
    intro t st fcn ocn dcn nen fc fp op dp df de no nn np nd pt ht hs1 hs6 I n hn
    obtain ⟨n, rfl⟩ : ∃ k, n = k + 1 := ⟨n - 1, by omega⟩
    have htT : t < Tk.length := by omega
    obtain ⟨tpL, _, _, k0, k27⟩ := hK.2.2 t htT
    have n5 : tt_k Tk t = 13 → tt_n Tk t < 5 := xp_n5 hT hK htT
    have I0 := I
    obtain ⟨Q, e, F, fr, fs, ops, dl, hB, hst⟩ := I
    have hB0 := hB
    obtain ⟨b1, b2, b3, b4, b5, b6, b7, b8, b9, b10, b11⟩ := hB
    have hin : vp_in (nI t) 200 := vp_in_nI (by omega) (by decide)
    refine br_f (nI_ge htT (by omega)) ⟨hin, fun x3 e3 => ⟨hin, fun x4 e4 => ?_⟩⟩
    rw [nI_clamp (by omega), (hTX t htT).1] at e3
    rw [nI_clamp (by omega), (hTX t htT).2] at e4
    subst e3 e4
    have hk : ∀ st2 fcn ocn dcn nen fc fp op dp df de no nn np nd pt, 1 ≤ st2 → st2 ≤ 6 → pa_I Tk no0 nn0 np0 pt0 st2 (t + 1) fcn ocn dcn nen fc fp op dp df de no nn np nd pt →
        wX_parse_186 post (wX_parse_25 post n) (nI st2) (nI t) (nI (tt_p Tk t)) f_width (nI L) f_foundPlace (nI Tk.length) fcn ocn dcn nen a_text a_tokenCode a_tokenPlace fc fp op dp df de no nn np nd a_nodeKind pt a_size a_kindFound a_choice a_status a_result a_slotFunction a_slotArgument := by
      intro st2 fcn ocn dcn nen fc fp op dp df de no nn np nd pt q1 q2 q3
      refine br_f (nI_ne0 (by omega) (by omega)) (fun y ey => ?_)
      rw [ey, nI_1]
      exact ih (t + 1) st2 _ _ _ _ _ _ _ _ _ _ _ _ _ _ _ (by omega) q1 q2 q3 n (by omega)
    have hs : ms_f (tt_k Tk) (t + 1) = none → ∀ fcn ocn dcn nen fc fp op dp df de no nn np nd pt, xp_K no0 nn0 np0 pt0 no nn np pt →
        wX_parse_186 post (wX_parse_25 post n) 0 (nI t) (nI (tt_p Tk t)) f_width (nI L) f_foundPlace (nI Tk.length) fcn ocn dcn nen a_text a_tokenCode a_tokenPlace fc fp op dp df de no nn np nd a_nodeKind pt a_size a_kindFound a_choice a_status a_result a_slotFunction a_slotArgument := by
      intro q fcn ocn dcn nen fc fp op dp df de no nn np nd pt q2
      have er := ms_Ru hR (Or.inr (Or.inl ⟨t, rfl, htT, by rw [b11]; simp, q⟩))
      have := h3 t er fcn ocn dcn nen fc fp op dp df de no nn np nd pt q2
      rw [if_pos htT] at this
      exact br_t rfl this
    have xb := xk_b k27 n5
    have j61 := xk_i (C := 61) (K := 20) k27 n5 (by decide) (by decide) (by decide)
    have jif := xk_i (C := 26982) (K := 3) k27 n5 (by decide) (by decide) (by decide)
    have jtr := xk_i (C := 7631481) (K := 6) k27 n5 (by decide) (by decide) (by decide)
    have jop := xk_i (C := 40) (K := 26) k27 n5 (by decide) (by decide) (by decide)
    have jnm := xk_nm k27 n5
    have e120 := b5.1
    refine br_f (nI_nlt (b := 1) (by omega) (by omega)) ?_
    refine pk_lt 5 st (fun c => ?_) (fun c => ?_)
    · -- behind an operand
      have e6 : st = 6 := by omega
      subst e6
      have q : pa_D Tk t Q F fr fs dl dp df ∧ xp_F Tk t fs fc fp ∧ ar_L op ops ∧ pa_S (tt_k Tk) Q F 6 t e fs ops := by
        rcases hst with q | q | q
        · exact absurd q.1 (by decide)
        · exact absurd q.1 (by decide)
        · exact q.2.2
      exact go_X hT hK htT hB0 q.1 q.2.1 q.2.2.1 q.2.2.2 hk hs
    · refine pk_eq st 1 (fun c1 => ?_) (fun c1 => pk_eq st 2 (fun c2 => ?_) (fun c2 => pk_eq st 3 (fun c3 => ?_) (fun c3 => pk_eq st 4 (fun c4 => ?_) (fun c4 => ?_))))
      · -- a def begins
        subst c1
        have q : fs = [] ∧ ops = [] ∧ df_C (tt_k Tk) Q dl t e := by
          rcases hst with q | q | q
          · exact q.2
          · exact absurd q.1 (by decide)
          · exact absurd q.1 (by decide)
        obtain ⟨rfl, rfl, qd⟩ := q
        subst b1 b2 b3 b4
        have msE := pa_ms b11
        have msE : ms_f (tt_k Tk) (t + 1) = if tt_k Tk t = 13 then some (1, []) else none := msE
        have no : ¬ tt_k Tk t = 13 → ms_f (tt_k Tk) (t + 1) = none := fun q => by rw [msE, if_neg q]
        refine pk_lt (xc_k (tt_k Tk t) (tt_n Tk t)) 65 (fun z => hs (no (fun q => by have := jnm.mpr q; omega)) _ _ _ _ _ _ _ _ _ _ _ _ _ _ _ b6) (fun z => pk_lt (xc_k (tt_k Tk t) (tt_n Tk t)) 70 (fun z2 => ?_) (fun z2 => hs (no (fun q => by have := jnm.mpr q; omega)) _ _ _ _ _ _ _ _ _ _ _ _ _ _ _ b6))
        have k13 := jnm.mp ⟨z, by omega⟩
        have hin2 : vp_in (nI dl.length) 200 := vp_in_nI (by omega) (by decide)
        refine ⟨hin2, fun A eA => ⟨hin2, fun B eB => ?_⟩⟩
        rw [nI_clamp (by omega)] at eA eB
        subst eA eB
        refine hk 2 _ _ _ _ _ _ _ _ _ _ _ _ _ _ _ (by decide) (by decide) ⟨Q, e, e, t, [], [], dl, ⟨rfl, rfl, rfl, rfl, b5, b6, df_Au dl (fun i hi => ⟨pk_un (by omega), pk_un (by omega), rfl⟩) b7, by omega, by rw [List.length_nil] at b9 ⊢; omega, by omega, ?_⟩, Or.inr (Or.inl ⟨rfl, rfl, rfl, rfl, k13, qd, b10, pk_us, pk_us⟩)⟩
        rw [msE, if_pos k13]; rfl
      · -- '='
        subst c2
        have q : fs = [] ∧ ops = [] ∧ t = fr + 1 ∧ tt_k Tk fr = 13 ∧ df_C (tt_k Tk) Q dl fr e ∧ dl.length ≤ fr ∧ dp dl.length = nI (tt_p Tk fr) ∧ df dl.length = nI e := by
          rcases hst with q | q | q
          · exact absurd q.1 (by decide)
          · exact q.2
          · exact absurd q.1 (by decide)
        obtain ⟨rfl, rfl, rfl, q1, q2, q3, q4, q5⟩ := q
        subst b1 b2 b3 b4
        have msE := pa_ms b11
        have msE : ms_f (tt_k Tk) (fr + 1 + 1) = if tt_k Tk (fr + 1) = 20 then some (2, []) else none := msE
        refine pk_eq (xc_k (tt_k Tk (fr + 1)) (tt_n Tk (fr + 1))) 61 (fun z => ?_) (fun z => ?_)
        · have k20 := j61.mp z
          refine of_X (m := 0) (by decide) ?_
          refine hk 3 _ _ _ _ _ _ _ _ _ _ _ _ _ _ _ (by decide) (by decide) ⟨Q, e, e, fr, [(30, fr, fr + 1, fr + 2)], [], dl, ⟨rfl, rfl, rfl, rfl, b5, b6, b7, by omega, by rw [List.length_nil] at b9; rw [List.length_cons, List.length_nil]; omega, by omega, ?_⟩,
            Or.inr (Or.inr ⟨by decide, by decide, ⟨q2, b5.1, q1, k20, ⟨fun _ => rfl, trivial⟩, fun i h1 h2 => ?_, by omega, q3, q4, q5⟩, ⟨⟨pk_us, trivial⟩, ⟨pk_us, trivial⟩, fun f hf => ?_⟩, trivial, rfl, by rw [List.length_nil]; omega, Or.inl ⟨rfl, ⟨rfl, rfl, [], [], rfl, Or.inl ⟨rfl, rfl, rfl⟩, rfl⟩, _, _, rfl, rfl⟩⟩)⟩
          · rw [msE, if_pos k20]; rfl
          · have : i = fr ∨ i = fr + 1 := by omega
            rcases this with w | w
            · rw [w, q1]; decide
            · rw [w, k20]; decide
          · simp at hf
            rw [hf]
            exact ⟨by show 30 < 34; omega, by show fr + 1 < fr + 1 + 1; omega⟩
        · exact of_X (m := 0) (by decide) (hs (by rw [msE, if_neg (fun w => z (j61.mpr w))]) _ _ _ _ _ _ _ _ _ _ _ _ _ _ _ b6)
      · -- an expression
        subst c3
        have q : pa_D Tk t Q F fr fs dl dp df ∧ xp_F Tk t fs fc fp ∧ ar_L op ops ∧ pa_S (tt_k Tk) Q F 3 t e fs ops := by
          rcases hst with q | q | q
          · exact absurd q.1 (by decide)
          · exact absurd q.1 (by decide)
          · exact q.2.2
        obtain ⟨qD, qF, qo, qt, ql, qS⟩ := q
        have qS : fr_S (tt_k Tk) Q fs ops t ∧ ∃ f r, fs = f :: r ∧ fr_n f.1 = 1 := by
          rcases qS with q | q | q | q
          · exact q.2
          · exact absurd q.1 (by decide)
          · exact absurd q.1 (by decide)
          · exact absurd q.1 (by decide)
        obtain ⟨S, f, rr, ef, en⟩ := qS
        have op6 : ∀ k, tt_k Tk t = k → (k = 3 ∨ k = 6) → wX_parse_130 post (wX_parse_25 post n) (nI t) (nI (xc_k (tt_k Tk t) (tt_n Tk t))) (nI (tt_p Tk t)) f_width (nI L) f_foundPlace (nI Tk.length) fcn ocn dcn nen a_text a_tokenCode a_tokenPlace fc fp op dp df de no nn np nd a_nodeKind pt a_size a_kindFound a_choice a_status a_result a_slotFunction a_slotArgument := by
          intro k ek hk36
          have xe : xc_k (tt_k Tk t) (tt_n Tk t) = xc_t (tt_k Tk t) := by unfold xc_k; rw [if_neg (by omega)]
          rw [xe]
          subst b1
          refine of_X (m := fs.length) (by omega) ?_
          refine hk 3 _ _ _ _ _ _ _ _ _ _ _ _ _ _ _ (by decide) (by decide) (pa_push (c := tt_k Tk t) (nx := t + 1) hB0 qD qF qo qt ql htT (by omega) (by omega) (by omega) (by decide) rfl ?_ ⟨qt, ql, Or.inl ⟨rfl, ⟨rfl, ?_, [], ops, rfl, Or.inr (Or.inl ⟨by omega, rfl, rfl, rfl, rfl⟩), S⟩, _, _, rfl, ?_⟩⟩)
          · rcases hk36 with w | w <;> rw [w] at ek <;> rw [ek] <;> rfl
          · rw [ef]
            refine ⟨?_, by show tt_k Tk t ≠ 30; omega⟩
            rw [en]
            show 1 ≤ fr_g (tt_k Tk t)
            rcases hk36 with w | w <;> rw [w] at ek <;> rw [ek] <;> decide
          · show fr_n (tt_k Tk t) = 1
            rcases hk36 with w | w <;> rw [w] at ek <;> rw [ek] <;> rfl
        refine pk_eq (xc_k (tt_k Tk t) (tt_n Tk t)) 26982 (fun z => op6 3 (jif.mp z) (Or.inl rfl)) (fun z => pk_eq (xc_k (tt_k Tk t) (tt_n Tk t)) 7631481 (fun z2 => op6 6 (jtr.mp z2) (Or.inr rfl)) (fun z2 => ?_))
        exact su_S hT hK htT (Or.inl rfl) hB0 qD qF qo qt ql S ef (fun _ => ⟨fun w => z (jif.mpr w), fun w => z2 (jtr.mpr w)⟩) hk hs
      · -- a unary
        subst c4
        have q : pa_D Tk t Q F fr fs dl dp df ∧ xp_F Tk t fs fc fp ∧ ar_L op ops ∧ pa_S (tt_k Tk) Q F 4 t e fs ops := by
          rcases hst with q | q | q
          · exact absurd q.1 (by decide)
          · exact absurd q.1 (by decide)
          · exact q.2.2
        obtain ⟨qD, qF, qo, qt, ql, qS⟩ := q
        have qS : fr_S (tt_k Tk) Q fs ops t ∧ ∃ f r, fs = f :: r := by
          rcases qS with q | q | q | q
          · exact absurd q.1 (by decide)
          · exact q.2
          · exact absurd q.1 (by decide)
          · exact absurd q.1 (by decide)
        obtain ⟨S, f, rr, ef⟩ := qS
        exact su_S hT hK htT (Or.inr rfl) hB0 qD qF qo qt ql S ef (fun w => absurd w (by decide)) hk hs
      · -- a bracket
        have e5 : st = 5 := by omega
        subst e5
        refine br_t rfl ?_
        have q : pa_D Tk t Q F fr fs dl dp df ∧ xp_F Tk t fs fc fp ∧ ar_L op ops ∧ pa_S (tt_k Tk) Q F 5 t e fs ops := by
          rcases hst with q | q | q
          · exact absurd q.1 (by decide)
          · exact absurd q.1 (by decide)
          · exact q.2.2
        obtain ⟨qD, qF, qo, qt, ql, qS⟩ := q
        have qS : ∃ c r, fs = (c, t - 1, t - 1, t + 1) :: r ∧ 1 ≤ t ∧ (c = 7 ∨ c = 8 ∨ c = 9 ∨ c = 13) ∧ tt_k Tk (t - 1) = c ∧ fr_S (tt_k Tk) Q r ops (t - 1) ∧ ∃ f q, r = f :: q := by
          rcases qS with q | q | q | q
          · exact absurd q.1 (by decide)
          · exact absurd q.1 (by decide)
          · exact q.2
          · exact absurd q.1 (by decide)
        obtain ⟨c, rr, rfl, t1, hc, tc, S, f, q, ef⟩ := qS
        have msE := pa_ms b11
        have msE : ms_f (tt_k Tk) (t + 1) = if tt_k Tk t = 26 then some (2, 26 :: ms_o rr) else none := msE
        subst b1
        refine pk_eq (xc_k (tt_k Tk t) (tt_n Tk t)) 40 (fun z => ?_) (fun z => ?_)
        · have k26 := jop.mp z
          obtain ⟨d1, d2, d3, d4, d5, d6, d7, d8, d9, d10⟩ := qD
          refine hk 3 _ _ _ _ _ _ _ _ _ _ _ _ _ _ _ (by decide) (by decide) ⟨Q, e, F, fr, (c, t - 1, t - 1, t + 1) :: rr, ops, dl, ⟨rfl, b2, b3, b4, b5, b6, b7, by omega, by omega, by omega, ?_⟩,
            Or.inr (Or.inr ⟨by decide, by decide, ⟨d1, d2, d3, d4, d5, fun i h1 h2 => ?_, by omega, d8, d9, d10⟩, xp_Fm qF (by omega), qo, qt, ql, Or.inl ⟨rfl, ⟨rfl, ?_, [], ops, rfl, Or.inr (Or.inr (Or.inr (Or.inl ⟨hc, tc, ?_, rfl, rfl, ?_⟩))), S⟩, _, _, rfl, ?_⟩⟩)⟩
          · rw [msE, if_pos k26]
            show some (2, 26 :: ms_o rr) = some (2, ms_o ((c, t - 1, t - 1, t + 1) :: rr))
            have : ms_o ((c, t - 1, t - 1, t + 1) :: rr) = 26 :: ms_o rr := by
              show (if c = 26 ∨ c = 7 ∨ c = 8 ∨ c = 9 ∨ c = 13 then _ else _) = _
              rw [if_pos (by omega)]
            rw [this]
          · by_cases w : i = t
            · rw [w]; omega
            · exact d6 i h1 (by omega)
          · rw [ef]
            refine ⟨?_, by show c ≠ 30; omega⟩
            have : fr_g c = 7 := by unfold fr_g; rw [if_pos (by omega)]
            rw [this]
            exact (pa_n7 f.1).1
          · show tt_k Tk (t - 1 + 1) = 26
            rw [(by omega : t - 1 + 1 = t)]; exact k26
          · show t + 1 = t - 1 + 2
            omega
          · show fr_n c = 1
            have : fr_l c = 0 := by rcases hc with w | w | w | w <;> rw [w] <;> rfl
            unfold fr_n; rw [this]; rfl
        · exact hs (by rw [msE, if_neg (fun w => z (jop.mpr w))]) _ _ _ _ _ _ _ _ _ _ _ _ _ _ _ b6
theorem pr_X (hT : tx_P L tx a_text) (hK : xp_T L tx Tk) (hTX : tx_TX Tk Tk.length a_tokenCode a_tokenPlace) {r : Option Nat} (hR : ms_R (tt_k Tk) Tk.length r)
    (h1 : r = none → ∀ fcn ocn dcn nen fc fp op dp df de no nn np nd pt, pa_I Tk a_nodeOp a_nodeNumber a_nodePlace a_part 1 Tk.length fcn ocn dcn nen fc fp op dp df de no nn np nd pt → post 1 (f_width, nI L, f_foundPlace, nI Tk.length, fcn, ocn, dcn, nen, a_text, a_tokenCode, a_tokenPlace, fc, fp, op, dp, df, de, no, nn, np, nd, a_nodeKind, pt, a_size, a_kindFound, a_choice, a_status, a_result, a_slotFunction, a_slotArgument))
    (h3 : ∀ i, r = some i → ∀ fcn ocn dcn nen fc fp op dp df de no nn np nd pt, xp_K a_nodeOp a_nodeNumber a_nodePlace a_part no nn np pt → post 3 (f_width, nI L, nI (if i < Tk.length then tt_p Tk i else L), nI Tk.length, fcn, ocn, dcn, nen, a_text, a_tokenCode, a_tokenPlace, fc, fp, op, dp, df, de, no, nn, np, nd, a_nodeKind, pt, a_size, a_kindFound, a_choice, a_status, a_result, a_slotFunction, a_slotArgument)) :
    wpX_parse post (f_width, nI L, f_foundPlace, nI Tk.length, f_frameCount, f_operandCount, f_defCount, f_nodeEnd, a_text, a_tokenCode, a_tokenPlace, a_frameCode, a_framePlace, a_operand, a_defPlace, a_defFirst, a_defEnd, a_nodeOp, a_nodeNumber, a_nodePlace, a_nodeDepth, a_nodeKind, a_part, a_size, a_kindFound, a_choice, a_status, a_result, a_slotFunction, a_slotArgument) := by
  refine ⟨Tk.length + 1, pr_25 hT hK hTX hR h1 h3 Tk.length 0 1 _ _ _ _ _ _ _ _ _ _ _ _ _ _ _ (by omega) (by decide) (by decide) ?_ _ (Nat.lt_succ_self _)⟩
  exact ⟨fun _ _ => 0, 120, 120, 0, [], [], [], ⟨rfl, rfl, rfl, rfl, ⟨by omega, fun u h1 h2 => by omega⟩, ⟨fun u hu => ⟨rfl, rfl, rfl⟩, fun i hi => rfl⟩, trivial, by omega, by rw [List.length_nil]; omega, by rw [List.length_nil]; omega, rfl⟩, Or.inl ⟨rfl, rfl, rfl, rfl, rfl⟩⟩
end
