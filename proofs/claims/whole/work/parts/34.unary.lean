-- X begins an operand
theorem xk_i {k n C K : Nat} (hk : k ≤ 27) (hn : k = 13 → n < 5) (h : ∀ j, j < 28 → j ≠ 13 → (xc_t j = C ↔ j = K)) (hK : K ≠ 13) (hC : C < 65 ∨ 70 ≤ C) : xc_k k n = C ↔ k = K := by
  unfold xc_k
  by_cases e : k = 13
  · rw [if_pos e]; have := hn e; omega
  · rw [if_neg e]; exact h k (by omega) e
theorem xk_n : ∀ k, k < 28 → k ≠ 13 → ¬ (65 ≤ xc_t k ∧ xc_t k ≤ 69) := by decide
theorem xk_nm {k n : Nat} (hk : k ≤ 27) (hn : k = 13 → n < 5) : (65 ≤ xc_k k n ∧ xc_k k n ≤ 69) ↔ k = 13 := by
  unfold xc_k
  by_cases e : k = 13
  · rw [if_pos e]; have := hn e; omega
  · rw [if_neg e]; exact ⟨fun q => absurd q (xk_n k (by omega) e), fun q => absurd q e⟩
theorem xk_b {k n : Nat} (hk : k ≤ 27) (hn : k = 13 → n < 5) : xc_k k n < 2 ^ 31 := by
  unfold xc_k
  by_cases e : k = 13
  · rw [if_pos e]; have := hn e; omega
  · rw [if_neg e]; exact ad_tb k (by omega)
theorem xp_n5 {L : Nat} {tx : Nat → Nat} {Tk : List tz_T} {a : Nat → Int32} (hT : tx_P L tx a) (hK : xp_T L tx Tk) {i : Nat} (hi : i < Tk.length) (h : tt_k Tk i = 13) : tt_n Tk i < 5 := by
  obtain ⟨h1, h2, h3, _⟩ := hK.2.2 i hi
  rw [h3]
  rw [h2] at h
  have hc := (hT.2 _ h1).2.2
  have k12 : ∀ w, tz_k w ≤ 12 := by
    intro w
    by_cases z : tz_k w = 0
    · omega
    · exact (tx_kx z).2.1
  unfold tz_kd at h
  unfold tz_nm
  by_cases q : tz_dg (tx (tt_p Tk i)) = true
  · rw [if_pos q] at h; split at h <;> omega
  · rw [if_neg q] at h ⊢
    by_cases q2 : tz_sm (tx (tt_p Tk i)) = true
    · rw [if_pos q2] at h
      split at h
      · have := k12 (tz_w tx (tt_p Tk i) (tz_end tx L (tt_p Tk i) - tt_p Tk i)); omega
      · omega
    · split <;> omega
section
variable {f_width f_textLength f_foundPlace f_tokenCount f_frameCount f_operandCount f_defCount f_nodeEnd : Int32} {a_text a_tokenCode a_tokenPlace a_frameCode a_framePlace a_operand a_defPlace a_defFirst a_defEnd a_nodeOp a_nodeNumber a_nodePlace a_nodeDepth a_nodeKind a_part a_size a_kindFound a_choice a_status : Nat → Int32} {a_result : Nat → Int64} {a_slotFunction a_slotArgument : Nat → Int32}
theorem of_X {m : Nat} (hm : m < 200) {p0 p1 p2 : Int32} {post : Int32 → SX → Prop} (h : post p2 (f_width, f_textLength, f_foundPlace, f_tokenCount, nI (m + 1), f_operandCount, f_defCount, f_nodeEnd, a_text, a_tokenCode, a_tokenPlace, upd a_frameCode m p0, upd a_framePlace m p1, a_operand, a_defPlace, a_defFirst, a_defEnd, a_nodeOp, a_nodeNumber, a_nodePlace, a_nodeDepth, a_nodeKind, a_part, a_size, a_kindFound, a_choice, a_status, a_result, a_slotFunction, a_slotArgument)) : wpX_openFrame post (f_width, f_textLength, f_foundPlace, f_tokenCount, nI m, f_operandCount, f_defCount, f_nodeEnd, a_text, a_tokenCode, a_tokenPlace, a_frameCode, a_framePlace, a_operand, a_defPlace, a_defFirst, a_defEnd, a_nodeOp, a_nodeNumber, a_nodePlace, a_nodeDepth, a_nodeKind, a_part, a_size, a_kindFound, a_choice, a_status, a_result, a_slotFunction, a_slotArgument) p0 p1 p2 := by
  refine ⟨vp_in_nI hm (by decide), fun A eA => ⟨vp_in_nI hm (by decide), fun B eB C eC => ?_⟩⟩
  rw [nI_clamp (by omega)] at eA eB
  rw [nI_1] at eC
  subst eA eB eC
  exact h
theorem su_X {m x : Nat} (hm : m < 200) (hx : x < 2 ^ 31) {y : Int32} {post : Int32 → SX → Prop}
    (h1 : (x = 1 ∨ x = 120 ∨ x = 28271 ∨ x = 7235948 ∨ x = 7955827) → wX_startUnary_140 post (nI x) y f_width f_textLength f_foundPlace f_tokenCount (nI m) f_operandCount f_defCount f_nodeEnd a_text a_tokenCode a_tokenPlace a_frameCode a_framePlace a_operand a_defPlace a_defFirst a_defEnd a_nodeOp a_nodeNumber a_nodePlace a_nodeDepth a_nodeKind a_part a_size a_kindFound a_choice a_status a_result a_slotFunction a_slotArgument)
    (hO : ∀ c s, ((x = 33 ∧ c = 23 ∧ s = 4) ∨ (x = 40 ∧ c = 26 ∧ s = 3) ∨ (x = 45 ∧ c = 28 ∧ s = 4) ∨ ((65 ≤ x ∧ x ≤ 69) ∧ c = 13 ∧ s = 5) ∨ (x = 26724 ∧ c = 7 ∧ s = 5) ∨ (x = 29804 ∧ c = 8 ∧ s = 5) ∨ (x = 7239020 ∧ c = 9 ∧ s = 5)) →
      post (nI s) (f_width, f_textLength, f_foundPlace, f_tokenCount, nI (m + 1), f_operandCount, f_defCount, f_nodeEnd, a_text, a_tokenCode, a_tokenPlace, upd a_frameCode m (nI (xc_t c)), upd a_framePlace m y, a_operand, a_defPlace, a_defFirst, a_defEnd, a_nodeOp, a_nodeNumber, a_nodePlace, a_nodeDepth, a_nodeKind, a_part, a_size, a_kindFound, a_choice, a_status, a_result, a_slotFunction, a_slotArgument))
    (h0 : ¬ (x = 1 ∨ x = 120 ∨ x = 28271 ∨ x = 7235948 ∨ x = 7955827) → ¬ (x = 33 ∨ x = 40 ∨ x = 45 ∨ (65 ≤ x ∧ x ≤ 69) ∨ x = 26724 ∨ x = 29804 ∨ x = 7239020) → post 0 (f_width, f_textLength, f_foundPlace, f_tokenCount, nI m, f_operandCount, f_defCount, f_nodeEnd, a_text, a_tokenCode, a_tokenPlace, a_frameCode, a_framePlace, a_operand, a_defPlace, a_defFirst, a_defEnd, a_nodeOp, a_nodeNumber, a_nodePlace, a_nodeDepth, a_nodeKind, a_part, a_size, a_kindFound, a_choice, a_status, a_result, a_slotFunction, a_slotArgument)) :
    wpX_startUnary post (f_width, f_textLength, f_foundPlace, f_tokenCount, nI m, f_operandCount, f_defCount, f_nodeEnd, a_text, a_tokenCode, a_tokenPlace, a_frameCode, a_framePlace, a_operand, a_defPlace, a_defFirst, a_defEnd, a_nodeOp, a_nodeNumber, a_nodePlace, a_nodeDepth, a_nodeKind, a_part, a_size, a_kindFound, a_choice, a_status, a_result, a_slotFunction, a_slotArgument) (nI x) y := by
  have call : 65 ≤ x ∧ x ≤ 69 → wX_startUnary_182 post y f_width f_textLength f_foundPlace f_tokenCount (nI m) f_operandCount f_defCount f_nodeEnd a_text a_tokenCode a_tokenPlace a_frameCode a_framePlace a_operand a_defPlace a_defFirst a_defEnd a_nodeOp a_nodeNumber a_nodePlace a_nodeDepth a_nodeKind a_part a_size a_kindFound a_choice a_status a_result a_slotFunction a_slotArgument := fun q => of_X hm (hO 13 5 (Or.inr (Or.inr (Or.inr (Or.inl ⟨q, rfl, rfl⟩)))))
  refine pk_eq x 1 (fun c1 => h1 (Or.inl c1)) (fun c1 => pk_eq x 33 (fun c2 => of_X hm (by rw [c2]; exact hO 23 4 (Or.inl ⟨c2, rfl, rfl⟩))) (fun c2 =>
    pk_eq x 40 (fun c3 => of_X hm (by rw [c3]; exact hO 26 3 (Or.inr (Or.inl ⟨c3, rfl, rfl⟩)))) (fun c3 => pk_eq x 45 (fun c4 => of_X hm (hO 28 4 (Or.inr (Or.inr (Or.inl ⟨c4, rfl, rfl⟩))))) (fun c4 =>
    pk_eq x 65 (fun c5 => call (by omega)) (fun c5 => pk_eq x 66 (fun c6 => call (by omega)) (fun c6 => pk_eq x 67 (fun c7 => call (by omega)) (fun c7 => pk_eq x 68 (fun c8 => call (by omega)) (fun c8 => pk_eq x 69 (fun c9 => call (by omega)) (fun c9 =>
    pk_eq x 120 (fun c10 => h1 (by omega)) (fun c10 => pk_eq x 26724 (fun c11 => of_X hm (by rw [c11]; exact hO 7 5 (Or.inr (Or.inr (Or.inr (Or.inr (Or.inl ⟨c11, rfl, rfl⟩)))))))
    (fun c11 => pk_eq x 28271 (fun c12 => h1 (by omega)) (fun c12 => pk_eq x 29804 (fun c13 => of_X hm (by rw [c13]; exact hO 8 5 (Or.inr (Or.inr (Or.inr (Or.inr (Or.inr (Or.inl ⟨c13, rfl, rfl⟩))))))))
    (fun c13 => pk_eq x 7235948 (fun c14 => h1 (by omega)) (fun c14 => pk_eq x 7239020 (fun c15 => of_X hm (by rw [c15]; exact hO 9 5 (Or.inr (Or.inr (Or.inr (Or.inr (Or.inr (Or.inr ⟨c15, rfl, rfl⟩))))))))
    (fun c15 => pk_eq x 7955827 (fun c16 => h1 (by omega)) (fun c16 => h0 (by omega) (by omega)))))))))))))))))
variable {L : Nat} {tx : Nat → Nat} {Tk : List tz_T} {no0 nn0 np0 pt0 : Nat → Int32} {st t : Nat} {fcn ocn dcn nen : Int32} {fc fp op dp df de no nn np nd pt : Nat → Int32} {Q : Nat → Nat → Nat} {e F fr : Nat} {fs : List fr_F} {ops : List Nat} {dl : List df_D} {post : Int32 → SX → Prop}
theorem su_S (hT : tx_P L tx a_text) (hK : xp_T L tx Tk) (htT : t < Tk.length) (hst : st = 3 ∨ st = 4)
    (hB : pa_B Tk no0 nn0 np0 pt0 st t Q e fs ops dl fcn ocn dcn nen dp df de no nn np nd pt) (hD : pa_D Tk t Q F fr fs dl dp df) (hF : xp_F Tk t fs fc fp) (ho : ar_L op ops)
    (ht : fr_t Q F ops e) (hl : ops.length + 120 ≤ e) (hS : fr_S (tt_k Tk) Q fs ops t) {f : fr_F} {r : List fr_F} (hfs : fs = f :: r) (hif : st = 3 → tt_k Tk t ≠ 3 ∧ tt_k Tk t ≠ 6)
    (hk : ∀ st2 fcn ocn dcn nen fc fp op dp df de no nn np nd pt, 1 ≤ st2 → st2 ≤ 6 → pa_I Tk no0 nn0 np0 pt0 st2 (t + 1) fcn ocn dcn nen fc fp op dp df de no nn np nd pt → post (nI st2) (f_width, nI L, f_foundPlace, f_tokenCount, fcn, ocn, dcn, nen, a_text, a_tokenCode, a_tokenPlace, fc, fp, op, dp, df, de, no, nn, np, nd, a_nodeKind, pt, a_size, a_kindFound, a_choice, a_status, a_result, a_slotFunction, a_slotArgument))
    (hs : ms_f (tt_k Tk) (t + 1) = none → ∀ fcn ocn dcn nen fc fp op dp df de no nn np nd pt, xp_K no0 nn0 np0 pt0 no nn np pt → post 0 (f_width, nI L, f_foundPlace, f_tokenCount, fcn, ocn, dcn, nen, a_text, a_tokenCode, a_tokenPlace, fc, fp, op, dp, df, de, no, nn, np, nd, a_nodeKind, pt, a_size, a_kindFound, a_choice, a_status, a_result, a_slotFunction, a_slotArgument)) :
    wpX_startUnary post (f_width, nI L, f_foundPlace, f_tokenCount, fcn, ocn, dcn, nen, a_text, a_tokenCode, a_tokenPlace, fc, fp, op, dp, df, de, no, nn, np, nd, a_nodeKind, pt, a_size, a_kindFound, a_choice, a_status, a_result, a_slotFunction, a_slotArgument) (nI (xc_k (tt_k Tk t) (tt_n Tk t))) (nI (tt_p Tk t)) := by
  have hL := hT.1
  have hB0 := hB
  obtain ⟨b1, b2, b3, b4, b5, b6, b7, b8, b9, b10, b11⟩ := hB
  subst b1 b2 b3 b4
  obtain ⟨tpL, _, _, k0, k27⟩ := hK.2.2 t htT
  have n5 : tt_k Tk t = 13 → tt_n Tk t < 5 := xp_n5 hT hK htT
  have Tl := hK.1
  have e120 := b5.1
  have m200 : fs.length < 200 := by omega
  have msE := pa_ms b11
  have w23 : pa_w st = 2 ∧ pa_o st fs = ms_o fs ∨ pa_w st = 3 ∧ pa_o st fs = ms_o fs := by
    rcases hst with q | q <;> subst q
    · exact Or.inl ⟨rfl, rfl⟩
    · exact Or.inr ⟨rfl, rfl⟩
  have i1 := xk_i (C := 1) (K := 1) k27 n5 (by decide) (by decide) (by decide)
  have i2 := xk_i (C := 120) (K := 2) k27 n5 (by decide) (by decide) (by decide)
  have i3 := xk_i (C := 28271) (K := 12) k27 n5 (by decide) (by decide) (by decide)
  have i4 := xk_i (C := 7235948) (K := 10) k27 n5 (by decide) (by decide) (by decide)
  have i5 := xk_i (C := 7955827) (K := 11) k27 n5 (by decide) (by decide) (by decide)
  have i6 := xk_i (C := 33) (K := 23) k27 n5 (by decide) (by decide) (by decide)
  have i7 := xk_i (C := 40) (K := 26) k27 n5 (by decide) (by decide) (by decide)
  have i8 := xk_i (C := 45) (K := 15) k27 n5 (by decide) (by decide) (by decide)
  have i9 := xk_nm k27 n5
  have i10 := xk_i (C := 26724) (K := 7) k27 n5 (by decide) (by decide) (by decide)
  have i11 := xk_i (C := 29804) (K := 8) k27 n5 (by decide) (by decide) (by decide)
  have i12 := xk_i (C := 7239020) (K := 9) k27 n5 (by decide) (by decide) (by decide)
  have h7 := pa_n7 f.1
  refine su_X m200 (xk_b k27 n5) (fun c => ?_) (fun c s hc => ?_) (fun c1 c2 => ?_)
  · -- a leaf
    rw [i1, i2, i3, i4, i5] at c
    have lf := rg_leaf (tk := tt_k Tk) (l := t) (by omega)
    obtain ⟨r1, r2, r3⟩ := lf
    have xe : xc_k (tt_k Tk t) (tt_n Tk t) = xc_t (tt_k Tk t) := by unfold xc_k; rw [if_neg (by omega)]
    obtain ⟨w1, w2⟩ := xp_nn hK (i := t) (t := tt_k Tk t) htT Iff.rfl
    have no1 : nd_ok (tt_k Tk) (tt_n Tk) (nd_U Q e (nd_w (tt_k Tk t) (tt_n Tk t) e e e t (t + 1) t e 1)) e := by
      refine nd_add (Or.inl ⟨by omega, rfl, rfl, rfl⟩) (Nat.le_refl _) (fun _ => ⟨rfl, rfl, rfl, rfl, rfl⟩) ?_ ?_ ?_
      · intro q; rw [nd_n0 (by omega)] at q; omega
      · intro q; rw [nd_n0 (by omega)] at q; omega
      · intro q; rw [nd_n0 (by omega)] at q; omega
    rw [xe]
    refine ad_X hT (k := 0) (r := ops.length) (t := tt_k Tk t) (v0 := e) (v1 := e) (v2 := e) (d0 := 0) (d1 := 0) (d2 := 0) (D0 := 0) (D1 := 0) (D2 := 0) (by omega) (by omega) (by omega) (by omega) (by omega) tpL w2
      ⟨fun q => absurd q (by omega), fun _ => rfl⟩ ⟨fun q => absurd q (by omega), fun _ => rfl⟩ ⟨fun q => absurd q (by omega), fun _ => rfl⟩ rfl rfl rfl ?_
    rw [w1]
    have ag : ∀ k w, w < e → nd_U Q e (nd_w (tt_k Tk t) (tt_n Tk t) e e e t (t + 1) t e 1) k w = Q k w := fun k w hw => nd_Un (by omega)
    have lt := (fr_t_lt _ _ ht)
    refine hk 6 _ _ _ _ _ _ _ _ _ _ _ _ _ _ _ (by decide) (by decide) ⟨nd_U Q e (nd_w (tt_k Tk t) (tt_n Tk t) e e e t (t + 1) t e 1), e + 1, F, fr, fs, e :: ops, dl,
      ⟨rfl, by rw [List.length_cons], rfl, rfl, xp_Ns b5 no1 (by omega) htT rfl, xp_Ks e120 b6, b7, by omega, by omega, by omega, ?_⟩, Or.inr (Or.inr ⟨by decide, by decide, ?_, xp_Fm hF (by omega), ar_p ho, ?_⟩)⟩
    · rw [msE]
      have : ms_s (pa_w st) (pa_o st fs) (tt_k Tk t) = some (4, ms_o fs) := by
        unfold ms_s
        rcases w23 with ⟨q1, q2⟩ | ⟨q1, q2⟩ <;> rw [q1, q2, if_neg (by decide), if_neg (by decide), if_neg (by decide), if_pos (by decide), if_pos (by omega)]
      rw [this]; rfl
    · obtain ⟨d1, d2, d3, d4, d5, d6, d7, d8, d9, d10⟩ := hD
      refine ⟨df_Cc ag dl fr F (by omega) d1, d2, d3, d4, d5, fun i h1 h2 => ?_, by omega, d8, d9, d10⟩
      by_cases q : i = t
      · rw [q]; omega
      · exact d6 i h1 (by omega)
    · refine ⟨⟨rfl, ?_, ?_⟩, by rw [List.length_cons]; omega, Or.inr (Or.inr (Or.inr ⟨rfl, e, ops, t, rfl, fr_Sc _ _ _ (fun o hoo k => ag k o (by have := lt.2 o hoo; omega)) hS, ⟨nd_W0, r2⟩, r3, f, r, hfs⟩))⟩
      · rw [nd_Us]; exact Nat.le_refl _
      · rw [nd_Us]; exact fr_t_c ag _ _ (Nat.le_refl _) ht
  · -- a frame
    rw [i6, i7, i8, i9, i10, i11, i12] at hc
    have cs : (tt_k Tk t = 23 ∧ c = 23 ∧ s = 4) ∨ (tt_k Tk t = 26 ∧ c = 26 ∧ s = 3) ∨ (tt_k Tk t = 15 ∧ c = 28 ∧ s = 4) ∨ ((tt_k Tk t = 7 ∨ tt_k Tk t = 8 ∨ tt_k Tk t = 9 ∨ tt_k Tk t = 13) ∧ c = tt_k Tk t ∧ s = 5) := by omega
    have nfs : fs ≠ [] := by rw [hfs]; simp
    have hb : ∀ c, fr_g c = 7 → c ≠ 30 → fr_b c fs := by
      intro c h1 h2
      rw [hfs]
      exact ⟨by rw [h1]; exact h7.1, h2⟩
    rcases cs with ⟨q1, rfl, rfl⟩ | ⟨q1, rfl, rfl⟩ | ⟨q1, rfl, rfl⟩ | ⟨q1, rfl, rfl⟩
    · refine hk 4 _ _ _ _ _ _ _ _ _ _ _ _ _ _ _ (by decide) (by decide) (pa_push (c := 23) (nx := t + 1) hB0 hD hF ho ht hl htT (by omega) (by decide) (by decide) (by decide) rfl ?_ ⟨ht, hl, Or.inr (Or.inl ⟨rfl, ?_, _, _, rfl⟩)⟩)
      · unfold ms_s
        rw [q1]
        rcases w23 with ⟨q1, q2⟩ | ⟨q1, q2⟩ <;> rw [q1, q2] <;> rfl
      · exact ⟨rfl, hb 23 rfl (by decide), [], ops, rfl, Or.inr (Or.inr (Or.inl ⟨Or.inr ⟨rfl, q1⟩, rfl, rfl, rfl⟩)), hS⟩
    · refine hk 3 _ _ _ _ _ _ _ _ _ _ _ _ _ _ _ (by decide) (by decide) (pa_push (c := 26) (nx := t + 1) hB0 hD hF ho ht hl htT (by omega) (by decide) (by decide) (by decide) rfl ?_ ⟨ht, hl, Or.inl ⟨rfl, ?_, _, _, rfl, rfl⟩⟩)
      · unfold ms_s
        rw [q1]
        rcases w23 with ⟨q1, q2⟩ | ⟨q1, q2⟩ <;> rw [q1, q2] <;> rfl
      · exact ⟨rfl, hb 26 rfl (by decide), [], ops, rfl, Or.inr (Or.inl ⟨Or.inl rfl, q1, rfl, rfl, rfl⟩), hS⟩
    · refine hk 4 _ _ _ _ _ _ _ _ _ _ _ _ _ _ _ (by decide) (by decide) (pa_push (c := 28) (nx := t + 1) hB0 hD hF ho ht hl htT (by omega) (by decide) (by decide) (by decide) rfl ?_ ⟨ht, hl, Or.inr (Or.inl ⟨rfl, ?_, _, _, rfl⟩)⟩)
      · unfold ms_s
        rw [q1]
        rcases w23 with ⟨q1, q2⟩ | ⟨q1, q2⟩ <;> rw [q1, q2] <;> rfl
      · exact ⟨rfl, hb 28 rfl (by decide), [], ops, rfl, Or.inr (Or.inr (Or.inl ⟨Or.inl ⟨rfl, q1⟩, rfl, rfl, rfl⟩)), hS⟩
    · refine hk 5 _ _ _ _ _ _ _ _ _ _ _ _ _ _ _ (by decide) (by decide) (pa_push (c := tt_k Tk t) (nx := t + 2) hB0 hD hF ho ht hl htT (by omega) (by omega) (by omega) (by decide) rfl ?_ ⟨ht, hl, Or.inr (Or.inr (Or.inl ⟨rfl, tt_k Tk t, fs, rfl, by omega, q1, rfl, hS, f, r, hfs⟩))⟩)
      have z : pa_o 5 ((tt_k Tk t, t, t, t + 2) :: fs) = ms_o fs := rfl
      rw [z]
      have zw : pa_w 5 = 5 := rfl
      rw [zw]
      unfold ms_s
      rcases w23 with ⟨z1, z2⟩ | ⟨z1, z2⟩ <;> rw [z1, z2, if_neg (by decide), if_neg (by decide), if_neg (by decide), if_pos (by decide), if_neg (by omega), if_neg (by omega), if_neg (by omega), if_pos (by omega)]
  · -- stuck
    rw [i1, i2, i3, i4, i5] at c1
    rw [i6, i7, i8, i9, i10, i11, i12] at c2
    refine hs ?_ _ _ _ _ _ _ _ _ _ _ _ _ _ _ _ b6
    rw [msE]
    unfold ms_s
    rcases w23 with ⟨z1, z2⟩ | ⟨z1, z2⟩
    · have : st = 3 := by
        rcases hst with q | q
        · exact q
        · subst q; exact absurd z1 (by decide)
      have := hif this
      rw [z1, z2, if_neg (by decide), if_neg (by decide), if_neg (by decide), if_pos (by decide), if_neg (by omega), if_neg (by omega), if_neg (by omega), if_neg (by omega), if_neg (by omega)]
    · rw [z1, z2, if_neg (by decide), if_neg (by decide), if_neg (by decide), if_pos (by decide), if_neg (by omega), if_neg (by omega), if_neg (by omega), if_neg (by omega), if_neg (by omega)]
end
