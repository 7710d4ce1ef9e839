-- LOAD
theorem lo_X {P : Nat → Nat → Nat} {sz no nn np pt no0 nn0 np0 pt0 : Nat → Int32} (hK : xp_K no0 nn0 np0 pt0 no nn np pt) (h : xl_P P sz no0 nn0 np0 pt0) : xl_P P sz no nn np pt := by
  obtain ⟨h1, h2, h3, h4, h5⟩ := h
  refine ⟨h1, h2, h3, fun u hu => ?_, fun u hu => ?_⟩
  · obtain ⟨k1, k2, k3⟩ := hK.1 u hu.1
    obtain ⟨g1, g2, g3, g4, g5⟩ := h4 u hu
    have u1 := hu.1
    exact ⟨k1.trans g1, k2.trans g2, (hK.2 _ (by omega)).trans g3, (hK.2 _ (by omega)).trans g4, (hK.2 _ (by omega)).trans g5⟩
  · exact (hK.1 u hu).2.2.trans (h5 u hu)
theorem lo_Y {P : Nat → Nat → Nat} {g : Nat → Nat} {ld cn nop nnm npl nA nB nC nLo nHi nLv a_nOp a_nNum a_nPlace a_nA a_nB a_nC a_nLo a_nHi a_nLevel : Nat → Int32} (hL : rd_L 120 a_nOp a_nNum a_nPlace a_nA a_nB a_nC a_nLo a_nHi a_nLevel nop nnm npl nA nB nC nLo nHi nLv) (h : yl_P P g ld cn a_nOp a_nNum a_nA a_nB a_nC) : yl_P P g ld cn nop nnm nA nB nC := by
  obtain ⟨h1, h2, h3, h4, h5⟩ := h
  refine ⟨h1, h2, h3, h4, fun r hr => ?_⟩
  obtain ⟨k1, k2, k3, k4, k5, k6, _⟩ := hL r hr.1
  obtain ⟨g1, g2, g3, g4, g5⟩ := h5 r hr
  exact ⟨k1.trans g1, k2.trans g2, fun n => by rw [k4]; exact g3 n, fun n => by rw [k5]; exact g4 n, fun n => by rw [k6]; exact g5 n⟩
theorem i_vc_load {k : Nat} {u : SX} {v : SY} (I : i_Rel k u v) (hk : k + 4 ≤ 2049) : wpX_load (fun r u' => wpY_load (fun r' v' => r' = r ∧ i_Rel (k + 4) u' v') v) u := by
  obtain ⟨P, L, tx, pl, sl, gl, hG, hX, hY⟩ := I
  obtain ⟨f_width, f_textLength, f_foundPlace, f_tokenCount, f_frameCount, f_operandCount, f_defCount, f_nodeEnd, a_text, a_tokenCode, a_tokenPlace, a_frameCode, a_framePlace, a_operand, a_defPlace, a_defFirst, a_defEnd, a_nodeOp, a_nodeNumber, a_nodePlace, a_nodeDepth, a_nodeKind, a_part, a_size, a_kindFound, a_choice, a_status, a_result, a_slotFunction, a_slotArgument⟩ := u
  obtain ⟨f_width2, f_length2, f_place2, f_toks2, f_nodes2, f_defs2, a_text2, a_tok2, a_tokNum2, a_tokPlace2, a_opened2, a_nOp2, a_nNum2, a_nPlace2, a_nA2, a_nB2, a_nC2, a_nLo2, a_nHi2, a_nLevel2, a_defName2, a_defPlace2, a_defRoot2, a_loaded2, a_count2, a_status2, a_number2, a_origin2, a_choice2, a_slotF2, a_slotX2, a_slotHeld2⟩ := v
  obtain ⟨x1, x2, x3, x4, x5, x6, x7, x8, x9, x10⟩ := hX
  obtain ⟨y1, y2, y3, y4, y5, y6, y7, y8, y9, y10⟩ := hY
  obtain ⟨g1, g2, g3, g4, g5, g6⟩ := hG
  subst x2 y2
  have hTX : tx_P L tx a_text := ⟨g3, fun i hi => ⟨x4 i hi, g4 i hi⟩⟩
  have hTY : tx_P L tx a_text2 := ⟨g3, fun i hi => ⟨y4 i hi, g4 i hi⟩⟩
  have hxl : xl_P P a_size a_nodeOp a_nodeNumber a_nodePlace a_part := ⟨g1, g5, x5, x6, x7⟩
  have hyl : yl_P P gl a_loaded2 a_count2 a_nOp2 a_nNum2 a_nA2 a_nB2 a_nC2 := ⟨g1, y8, y5, y6, y7⟩
  obtain ⟨Tk, e0, hC⟩ := tz_ex tx L L 0 (by omega)
  have hK := xp_Ti hC g3
  have L2 := g3
  have TL := hK.1
  -- what stands in the relation when nothing is taken in
  have relF : ∀ (pl2 : Int32) (no nn np pt nd nk ch : Nat → Int32) (f1 f2 f3 f4 f5 : Int32) (b1 b2 b3 b4 b5 b6 b7 b8 : Nat → Int32) (t1 t2 t3 : Int32) (c1 c2 c3 c4 nop nnm npl nA nB nC nLo nHi nLv c5 c6 c7 c8 : Nat → Int32),
      xp_K a_nodeOp a_nodeNumber a_nodePlace a_part no nn np pt → rd_L 120 a_nOp2 a_nNum2 a_nPlace2 a_nA2 a_nB2 a_nC2 a_nLo2 a_nHi2 a_nLevel2 nop nnm npl nA nB nC nLo nHi nLv →
      i_Rel (k + 4) (f_width, nI L, pl2, f1, f2, f3, f4, f5, a_text, b1, b2, b3, b4, b5, b6, b7, b8, no, nn, np, nd, nk, pt, a_size, a_kindFound, ch, a_status, a_result, a_slotFunction, a_slotArgument)
        (f_width2, nI L, pl2, t1, t2, t3, a_text2, c1, c2, c3, c4, nop, nnm, npl, nA, nB, nC, nLo, nHi, nLv, c5, c6, c7, a_loaded2, a_count2, a_status2, a_number2, a_origin2, c8, a_slotF2, a_slotX2, a_slotHeld2) := by
    intro pl2 no nn np pt nd nk ch f1 f2 f3 f4 f5 b1 b2 b3 b4 b5 b6 b7 b8 t1 t2 t3 c1 c2 c3 c4 nop nnm npl nA nB nC nLo nHi nLv c5 c6 c7 c8 kX kY
    obtain ⟨q1, q2, q3, q4, q5⟩ := lo_X kX hxl
    obtain ⟨r1, r2, r3, r4, r5⟩ := lo_Y kY hyl
    exact ⟨P, L, tx, pl2, sl, gl, ⟨g1, g2, g3, g4, g5, g6⟩, ⟨x1, rfl, rfl, x4, q3, q4, q5, x8, x9, x10⟩, ⟨y1, rfl, rfl, y4, r3, r4, r5, r2, y9, y10⟩⟩
  have kX0 : xp_K a_nodeOp a_nodeNumber a_nodePlace a_part a_nodeOp a_nodeNumber a_nodePlace a_part := ⟨fun u _ => ⟨rfl, rfl, rfl⟩, fun _ _ => rfl⟩
  have kY0 : rd_L 120 a_nOp2 a_nNum2 a_nPlace2 a_nA2 a_nB2 a_nC2 a_nLo2 a_nHi2 a_nLevel2 a_nOp2 a_nNum2 a_nPlace2 a_nA2 a_nB2 a_nC2 a_nLo2 a_nHi2 a_nLevel2 := fun j _ => ⟨rfl, rfl, rfl, rfl, rfl, rfl, rfl, rfl, rfl⟩
  obtain ⟨r, hR⟩ := ms_ex (tt_k Tk) Tk.length
  refine tx_Xc (f_tokenCount := f_tokenCount) hTX hC _ (fun q tc tp hTc => ?_) (fun f q fL m tc tp => ?_)
  · subst q
    refine br_t rfl (pr_X hTX hK hTc hR (fun q fcn ocn dcn nen fc fp op dp df de no nn np nd pt hA => ?_) (fun i q fcn ocn dcn nen fc fp op dp df de no nn np nd pt kX => ?_))
    · subst q
      obtain ⟨Q, e, F, fr, fs, ops, dl, hB, hS⟩ := hA
      obtain ⟨d1, d2, d3, d4, hN, kX, hdA, hle, hee, hdl, hms⟩ := hB
      have hS : fs = [] ∧ ops = [] ∧ df_C (tt_k Tk) Q dl Tk.length e := by
        rcases hS with ⟨_, s1, s2, s3⟩ | ⟨q, _⟩ | ⟨q, _⟩
        · exact ⟨s1, s2, s3⟩
        · omega
        · omega
      obtain ⟨s1, s2, s3⟩ := hS
      subst s1 s2
      have hM := md_of dl _ _ s3 [] _ _ ⟨rfl, rfl⟩
      rw [List.append_nil] at hM
      have e320 : e ≤ 320 := by rw [List.length_nil] at hee; omega
      have hdA2 := df_Af dl hdA
      have dlen : dl.length = dl.reverse.length := (List.length_reverse).symm
      rw [dlen] at d3
      generalize dl.reverse = ds at hM hdA2 d3
      subst d3 d4
      have IX : xm_I L tx Tk Q ds e a_text dp df de no nn np nd pt := ⟨hTX, hK, hM, hN, hdA2, e320⟩
      have hxl2 := lo_X kX hxl
      have hmo : ∀ i j, i < j → j < Tk.length → tt_p Tk i < tt_p Tk j := by
        intro i j hij hj
        have si : Tk[i]? = some Tk[i] := List.getElem?_eq_getElem (by omega)
        have sj : Tk[j]? = some Tk[j] := List.getElem?_eq_getElem hj
        have := tz_Cm Tk 0 none hC i j _ _ hij si sj
        rw [(tt_s si).2.2, (tt_s sj).2.2]
        exact this
      obtain ⟨o, ho⟩ := ck_Rex Q (mn_f Tk ds) ds
      obtain ⟨o2, hu⟩ := uk_ex Tk P (mn_f Tk ds) ds.length
      have h200 : ∀ kc p, tb_b Tk Q ds e kc p → p ≤ 200 := fun kc => tb_200 IX
      obtain ⟨o3, hc⟩ := cl_ex (fun c => la_ok P (fun f => ∃ i, i < ds.length ∧ mn_f Tk ds i = f) (ki_c c)) (fun c => tb_R Tk Q ds e (ki_c c)) (fun c => by
        obtain ⟨m, hm⟩ := tb_ex Tk Q ds e (ki_c c) (h200 (ki_c c))
        exact ⟨m, hm, hm.1, fun y hy => tb_u (h200 (ki_c c)) hy hm⟩)
      have hok : ∀ u, 120 ≤ u → u < e → nd_ok (tt_k Tk) (tt_n Tk) Q u ∧ Q 11 u < 2 ^ 30 ∧ Q 9 u < Tk.length := fun u h1 h2 => by
        obtain ⟨z1, z2, z3, _⟩ := hN.2 u h1 h2
        exact ⟨z1, by omega, z3⟩
      refine ld_15 IX hxl2 x1 hmo ho hu hc (fun i rr q d hs => ?_) (fun q i q2 => ?_) (fun q q2 m q3 nk ch => ?_) (fun q q2 q3 sz no2 nn2 pt2 kf nk ch st re xl hkf ht => ?_)
      · subst q
        refine ld_Y58 hTY hC hK hR hM e320 hok (fun g tc2 tn2 tp2 opd dn dpl drt nop nnm npl nA nB nC nLo nHi nLv IY kY => ld_58f IY ho hs ⟨rfl, ?_⟩)
        exact relF _ _ _ _ _ _ _ _ _ _ _ _ _ _ _ _ _ _ _ _ _ _ _ _ _ _ _ _ _ _ _ _ _ _ _ _ _ _ _ _ _ kX kY
      · subst q q2
        refine ld_Y58 hTY hC hK hR hM e320 hok (fun g tc2 tn2 tp2 opd dn dpl drt nop nnm npl nA nB nC nLo nHi nLv IY kY => ld_58 IY ho (ld_97f IY y5 hu ⟨rfl, ?_⟩))
        exact relF _ _ _ _ _ _ _ _ _ _ _ _ _ _ _ _ _ _ _ _ _ _ _ _ _ _ _ _ _ _ _ _ _ _ _ _ _ _ _ _ _ kX kY
      · subst q q2 q3
        refine ld_Y58 hTY hC hK hR hM e320 hok (fun g tc2 tn2 tp2 opd dn dpl drt nop nnm npl nA nB nC nLo nHi nLv IY kY => ld_58 IY ho (ld_97 IY (lo_Y kY hyl) h200 hu hc (fun m2 q ch2 => ?_) (fun q => absurd q (by simp))))
        have := Option.some.inj q
        subst this
        exact ⟨rfl, relF _ _ _ _ _ _ _ _ _ _ _ _ _ _ _ _ _ _ _ _ _ _ _ _ _ _ _ _ _ _ _ _ _ _ _ _ _ _ _ _ _ kX kY⟩
      · subst q q2 q3
        have H := ld_H IX g1 g5 ho hu
        obtain ⟨c0, c1, c2⟩ := ld_V IX H hc
        refine ld_Y58 hTY hC hK hR hM e320 hok (fun g tc2 tn2 tp2 opd dn dpl drt nop nnm npl nA nB nC nLo nHi nLv IY kY => ld_58 IY ho (ld_97 IY (lo_Y kY hyl) h200 hu hc (fun m2 q => absurd q (by simp)) (fun _ ch2 => ?_)))
        refine sto_l IY H (lo_Y kY hyl) y1 c2 (fun ld cn no3 nn3 na3 nb3 nc3 st3 nu3 og3 yl3 ht3 => ⟨rfl, ?_⟩)
        obtain ⟨q1, q2, q3, q4, q5⟩ := xl
        obtain ⟨r1, r2, r3, r4, r5⟩ := yl3
        refine ⟨np_P P Tk Q ds, 0, tx, -1, sl, np_g Tk ds g gl, ⟨q1, ⟨c0, c1, c2⟩, by omega, fun i hi => absurd hi (Nat.not_lt_zero i), q2, fun s hs f x hsl => ?_⟩, ⟨?_, rfl, rfl, fun i hi => absurd hi (Nat.not_lt_zero i), q3, q4, q5, fun f hf _ => hkf f hf, ht, x10⟩, ⟨?_, rfl, rfl, fun i hi => absurd hi (Nat.not_lt_zero i), r3, r4, r5, r2, ht3, y10⟩⟩
        · obtain ⟨z1, z2, z3⟩ := g6 s hs f x hsl
          exact ⟨z1, np_pos H (Or.inl z2), by rw [np_6]; exact z3⟩
        · rw [np_6]; exact x1
        · rw [np_6]; exact y1
    · subst q
      refine br_f (by decide) (br_f (by decide) (br_f (by decide) (br_f (by decide) ?_)))
      refine ld_Y3 hTY hC hK hR (fun tc2 tn2 tp2 opd => ⟨rfl, ?_⟩)
      exact relF _ _ _ _ _ _ _ _ _ _ _ _ _ _ _ _ _ _ _ _ _ _ _ _ _ _ _ _ _ _ _ _ _ _ _ _ _ _ _ _ _ kX kY0
  · subst q
    refine br_f (by decide) (br_f (by decide) (br_f (by decide) (br_f (by decide) (br_f (by decide) ?_))))
    refine ld_Y2 hTY hC (fun m2 tc2 tn2 tp2 => ⟨rfl, ?_⟩)
    exact relF _ _ _ _ _ _ _ _ _ _ _ _ _ _ _ _ _ _ _ _ _ _ _ _ _ _ _ _ _ _ _ _ _ _ _ _ _ _ _ _ _ kX0 kY0
