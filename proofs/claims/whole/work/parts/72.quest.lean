-- QUESTIONS
section
variable {P : Nat → Nat → Nat} {L : Nat} {tx : Nat → Nat} {pl : Int32} {sl : Nat → Option (Nat × Nat)} {g : Nat → Nat}
theorem qu_xl {f_width f_textLength f_foundPlace f_tokenCount f_frameCount f_operandCount f_defCount f_nodeEnd a_text a_tokenCode a_tokenPlace a_frameCode a_framePlace a_operand a_defPlace a_defFirst a_defEnd a_nodeOp a_nodeNumber a_nodePlace a_nodeDepth a_nodeKind a_part a_size a_kindFound a_choice a_status a_result a_slotFunction a_slotArgument : _} (hG : rl_G P L tx sl) (hX : rl_X P L tx pl sl (f_width, f_textLength, f_foundPlace, f_tokenCount, f_frameCount, f_operandCount, f_defCount, f_nodeEnd, a_text, a_tokenCode, a_tokenPlace, a_frameCode, a_framePlace, a_operand, a_defPlace, a_defFirst, a_defEnd, a_nodeOp, a_nodeNumber, a_nodePlace, a_nodeDepth, a_nodeKind, a_part, a_size, a_kindFound, a_choice, a_status, a_result, a_slotFunction, a_slotArgument)) : xl_P P a_size a_nodeOp a_nodeNumber a_nodePlace a_part := by
  obtain ⟨x1, x2, x3, x4, x5, x6, x7, x8, x9, x10⟩ := hX
  exact ⟨hG.1, hG.2.2.2.2.1, x5, x6, x7⟩
theorem qu_yl {f_width f_length f_place f_toks f_nodes f_defs a_text a_tok a_tokNum a_tokPlace a_opened a_nOp a_nNum a_nPlace a_nA a_nB a_nC a_nLo a_nHi a_nLevel a_defName a_defPlace a_defRoot a_loaded a_count a_status a_number a_origin a_choice a_slotF a_slotX a_slotHeld : _} (hG : rl_G P L tx sl) (hY : rl_Y P L tx pl sl g (f_width, f_length, f_place, f_toks, f_nodes, f_defs, a_text, a_tok, a_tokNum, a_tokPlace, a_opened, a_nOp, a_nNum, a_nPlace, a_nA, a_nB, a_nC, a_nLo, a_nHi, a_nLevel, a_defName, a_defPlace, a_defRoot, a_loaded, a_count, a_status, a_number, a_origin, a_choice, a_slotF, a_slotX, a_slotHeld)) : yl_P P g a_loaded a_count a_nOp a_nNum a_nA a_nB a_nC := by
  obtain ⟨y1, y2, y3, y4, y5, y6, y7, y8, y9, y10⟩ := hY
  exact ⟨hG.1, y8, y5, y6, y7⟩
theorem qu_k3 (hP : pg_ok P) {f x r : Nat} (hf : f < 5) (hs : 0 < P 5 f) (hx : x < P 6 0) (hr : ki_r (rl_V P) 243 f r) (h : r = 3) {c0 : Nat} (hc : c0 < 243) (hv : rl_V P c0) : tt_K P c0 (ou_cf P f x / 6) = 3 := by
  have hw := hP.2.1
  rw [ou_cf_d (by omega)]
  show ki_k P (ki_c c0) _ = 3
  rw [hv.2 f hf hs]
  rcases hr with ⟨q, _⟩ | ⟨c, _, _, _, q⟩ | ⟨q, _⟩
  · omega
  · rw [q c0 hc hv]; exact h
  · omega
-- a cell that is done has the kind that is found
theorem qu_kd (hP : pg_ok P) {f x r : Nat} (hf : f < 5) (hs : 0 < P 5 f) (hx : x < P 6 0) (hr : ki_r (rl_V P) 243 f r) (he : ∃ c, c < 243 ∧ rl_V P c) {o : ou_O} (ho : ou_E P (ou_cf P f x) = some o) (h1 : o.1 = 1) : o.2.1 = r := by
  have hw := hP.2.1
  have all : ∀ c, rl_V P c → o.2.1 = ki_c c f := by
    intro c hv
    have t := ru_t (T := ou_E P) hP hv (fun d p q => ou_E_s.mp q) ho
    rcases t with ⟨_, t2, _⟩ | t
    · rw [t2, ou_cf_d (by omega)]
      exact hv.2 f hf hs
    · have := t.1; omega
  rcases hr with ⟨_, q⟩ | ⟨c, c1, c2, c3, _⟩ | ⟨_, c, c1, c2, d, d1, d2, d3⟩
  · obtain ⟨c, c1, c2⟩ := he
    exact absurd c2 (q c c1)
  · rw [all c c2]; exact c3
  · exact absurd ((all c c2).symm.trans (all d d2)) d3
theorem qu_kY {f_width f_length f_place f_toks f_nodes f_defs a_text a_tok a_tokNum a_tokPlace a_opened a_nOp a_nNum a_nPlace a_nA a_nB a_nC a_nLo a_nHi a_nLevel a_defName a_defPlace a_defRoot a_loaded a_count a_status a_number a_origin a_choice a_slotF a_slotX a_slotHeld : _} (hG : rl_G P L tx sl) (hY : rl_Y P L tx pl sl g (f_width, f_length, f_place, f_toks, f_nodes, f_defs, a_text, a_tok, a_tokNum, a_tokPlace, a_opened, a_nOp, a_nNum, a_nPlace, a_nA, a_nB, a_nC, a_nLo, a_nHi, a_nLevel, a_defName, a_defPlace, a_defRoot, a_loaded, a_count, a_status, a_number, a_origin, a_choice, a_slotF, a_slotX, a_slotHeld)) {p : Int32} {post : Int32 → SY → Prop} (h0 : sl_d P p = none → post 0 (f_width, f_length, f_place, f_toks, f_nodes, f_defs, a_text, a_tok, a_tokNum, a_tokPlace, a_opened, a_nOp, a_nNum, a_nPlace, a_nA, a_nB, a_nC, a_nLo, a_nHi, a_nLevel, a_defName, a_defPlace, a_defRoot, a_loaded, a_count, a_status, a_number, a_origin, a_choice, a_slotF, a_slotX, a_slotHeld))
    (h1 : ∀ f r ch, sl_d P p = some f → ki_r (rl_V P) 243 f r → post (nI r) (f_width, f_length, f_place, f_toks, f_nodes, f_defs, a_text, a_tok, a_tokNum, a_tokPlace, a_opened, a_nOp, a_nNum, a_nPlace, a_nA, a_nB, a_nC, a_nLo, a_nHi, a_nLevel, a_defName, a_defPlace, a_defRoot, a_loaded, a_count, a_status, a_number, a_origin, ch, a_slotF, a_slotX, a_slotHeld)) (hk : ∀ f, sl_d P p = some f → ∃ r, ki_r (rl_V P) 243 f r) : wpY_kind post (f_width, f_length, f_place, f_toks, f_nodes, f_defs, a_text, a_tok, a_tokNum, a_tokPlace, a_opened, a_nOp, a_nNum, a_nPlace, a_nA, a_nB, a_nC, a_nLo, a_nHi, a_nLevel, a_defName, a_defPlace, a_defRoot, a_loaded, a_count, a_status, a_number, a_origin, a_choice, a_slotF, a_slotX, a_slotHeld) p := by
  have yl := qu_yl hG hY
  cases hd : sl_d P p with
  | some f =>
    obtain ⟨f5, rfl, fs⟩ := sl_ds hd
    obtain ⟨r, hr⟩ := hk f hd
    exact kd_Y yl f5 fs hr (fun ch => h1 f r ch hd hr)
  | none =>
    have no := h0 hd
    by_cases a : p < 0
    · exact br_t a no
    · refine br_f a ?_
      by_cases b : 4 < p
      · exact br_t b no
      · refine br_f b ?_
        have nab : ¬ (p < 0 ∨ 5 ≤ p) := fun q => q.elim a b
        obtain ⟨s, hs, e, e2⟩ := sl_in (n := 5) (by decide) nab
        have e3 : sl_d P p = if P 5 s = 0 then none else some s := by unfold sl_d; rw [if_neg nab, e2]
        have z : P 5 s = 0 := by
          by_cases z : P 5 s = 0
          · exact z
          · rw [e3, if_neg z] at hd; exact absurd hd (by simp)
        refine ⟨by rw [e]; exact vp_in_nI hs (by decide), ?_⟩
        rw [e2, yl.2.2.1 s hs, if_neg (by omega)]
        exact br_t rfl no
end
theorem i_vc_kind {k : Nat} {u : SX} {v : SY} (I : i_Rel k u v) (hk : k + 4 ≤ 2049) (v1 : Int32) : wpX_kind (fun r => wpY_kind (fun r' v' => r' = r ∧ i_Rel (k + 4) u v') v v1) u v1 := by
  have I0 := I
  obtain ⟨P, L, tx, pl, sl, g, hG, hX, hY⟩ := I
  have hX0 := hX
  have hY0 := hY
  obtain ⟨f_width, f_textLength, f_foundPlace, f_tokenCount, f_frameCount, f_operandCount, f_defCount, f_nodeEnd, a_text, a_tokenCode, a_tokenPlace, a_frameCode, a_framePlace, a_operand, a_defPlace, a_defFirst, a_defEnd, a_nodeOp, a_nodeNumber, a_nodePlace, a_nodeDepth, a_nodeKind, a_part, a_size, a_kindFound, a_choice, a_status, a_result, a_slotFunction, a_slotArgument⟩ := u
  obtain ⟨f_width2, f_length2, f_place2, f_toks2, f_nodes2, f_defs2, a_text2, a_tok2, a_tokNum2, a_tokPlace2, a_opened2, a_nOp2, a_nNum2, a_nPlace2, a_nA2, a_nB2, a_nC2, a_nLo2, a_nHi2, a_nLevel2, a_defName2, a_defPlace2, a_defRoot2, a_loaded2, a_count2, a_status2, a_number2, a_origin2, a_choice2, a_slotF2, a_slotX2, a_slotHeld2⟩ := v
  obtain ⟨x1, x2, x3, x4, x5, x6, x7, x8, x9, x10⟩ := hX
  obtain ⟨y1, y2, y3, y4, y5, y6, y7, y8, y9, y10⟩ := hY
  unfold wpX_kind
  refine sl_Xd hG hX0 (fun hd => br_t rfl ?_) (fun f hd => bq_1 ?_)
  · refine qu_kY hG hY0 (fun _ => ⟨rfl, I0⟩) (fun f r ch q => ?_) (fun f q => ?_)
    · rw [hd] at q; exact absurd q (by simp)
    · rw [hd] at q; exact absurd q (by simp)
  · obtain ⟨f5, rfl, fs⟩ := sl_ds hd
    obtain ⟨r, kr, hr⟩ := x8 f f5 fs
    refine ⟨vp_in_nI f5 (by decide), ?_⟩
    rw [nI_clamp (by omega), kr]
    refine qu_kY hG hY0 (fun q => ?_) (fun f2 r2 ch q hr2 => ?_) (fun f2 q => ?_)
    · rw [hd] at q; exact absurd q (by simp)
    · rw [hd] at q
      have := Option.some.inj q
      subst this
      rw [ki_r_u hr hr2]
      exact ⟨rfl, P, L, tx, pl, sl, g, hG, hX0, ⟨y1, y2, y3, y4, y5, y6, y7, y8, y9, y10⟩⟩
    · rw [hd] at q
      have := Option.some.inj q
      subst this
      exact ⟨r, hr⟩
theorem i_vc_value {k : Nat} {u : SX} {v : SY} (I : i_Rel k u v) (hk : k + 4 ≤ 2049) (v1 : Int32) (v2 : Int32) : wpX_value (fun r => wpY_value (fun r' => r' = r ∧ i_Rel (k + 4) u v) v v1 v2) u v1 v2 := by
  have I0 := I
  obtain ⟨P, L, tx, pl, sl, g, hG, hX, hY⟩ := I
  have hX0 := hX
  have hY0 := hY
  obtain ⟨f_width, f_textLength, f_foundPlace, f_tokenCount, f_frameCount, f_operandCount, f_defCount, f_nodeEnd, a_text, a_tokenCode, a_tokenPlace, a_frameCode, a_framePlace, a_operand, a_defPlace, a_defFirst, a_defEnd, a_nodeOp, a_nodeNumber, a_nodePlace, a_nodeDepth, a_nodeKind, a_part, a_size, a_kindFound, a_choice, a_status, a_result, a_slotFunction, a_slotArgument⟩ := u
  obtain ⟨f_width2, f_length2, f_place2, f_toks2, f_nodes2, f_defs2, a_text2, a_tok2, a_tokNum2, a_tokPlace2, a_opened2, a_nOp2, a_nNum2, a_nPlace2, a_nA2, a_nB2, a_nC2, a_nLo2, a_nHi2, a_nLevel2, a_defName2, a_defPlace2, a_defRoot2, a_loaded2, a_count2, a_status2, a_number2, a_origin2, a_choice2, a_slotF2, a_slotX2, a_slotHeld2⟩ := v
  obtain ⟨x1, x2, x3, x4, x5, x6, x7, x8, x9, x10⟩ := hX
  obtain ⟨y1, y2, y3, y4, y5, y6, y7, y8, y9, y10⟩ := hY
  unfold wpX_value
  refine sl_Xc hG hX0 (fun hd => br_t rfl ?_) (fun f x hd => bq_1 ?_)
  · unfold wpY_value
    refine sl_Yl hG hY0 (fun _ => br_f (by decide) ⟨rfl, I0⟩) (fun f x q => ?_)
    rw [hd] at q; exact absurd q (by simp)
  · obtain ⟨f5, rfl, fs, fx, rfl⟩ := sl_cs hG.1.2.1 hd
    have hw := hG.1.2.1
    have hu := sl_cfl hG.1 f5 fs fx
    have hl := ou_uc_lt hu
    have hin : vp_in (nI (ou_cf P f x)) 720 := vp_in_nI hl (by decide)
    obtain ⟨gy, ud⟩ := sl_gy hG.1 y8 f5 fs fx
    obtain ⟨t0, t1⟩ := y9 _ ud
    rw [gy] at t0 t1
    have dl := ou_uc_lt ud
    have e144 : nI f * 144 + nI x = nI (f * 144 + x) := by
      have : nI f * 144 = nI (f * 144) := pk_mul _ 144
      rw [this, nI_add]
    have yy : ∀ r : Int64, (sl_k P (ou_cf P f x) = 1 → a_number2 (f * 144 + x) = r) → (sl_k P (ou_cf P f x) ≠ 1 → r = 0) → wpY_value (fun r' => r' = r ∧ i_Rel (k + 4) (f_width, f_textLength, f_foundPlace, f_tokenCount, f_frameCount, f_operandCount, f_defCount, f_nodeEnd, a_text, a_tokenCode, a_tokenPlace, a_frameCode, a_framePlace, a_operand, a_defPlace, a_defFirst, a_defEnd, a_nodeOp, a_nodeNumber, a_nodePlace, a_nodeDepth, a_nodeKind, a_part, a_size, a_kindFound, a_choice, a_status, a_result, a_slotFunction, a_slotArgument) (f_width2, f_length2, f_place2, f_toks2, f_nodes2, f_defs2, a_text2, a_tok2, a_tokNum2, a_tokPlace2, a_opened2, a_nOp2, a_nNum2, a_nPlace2, a_nA2, a_nB2, a_nC2, a_nLo2, a_nHi2, a_nLevel2, a_defName2, a_defPlace2, a_defRoot2, a_loaded2, a_count2, a_status2, a_number2, a_origin2, a_choice2, a_slotF2, a_slotX2, a_slotHeld2)) (f_width2, f_length2, f_place2, f_toks2, f_nodes2, f_defs2, a_text2, a_tok2, a_tokNum2, a_tokPlace2, a_opened2, a_nOp2, a_nNum2, a_nPlace2, a_nA2, a_nB2, a_nC2, a_nLo2, a_nHi2, a_nLevel2, a_defName2, a_defPlace2, a_defRoot2, a_loaded2, a_count2, a_status2, a_number2, a_origin2, a_choice2, a_slotF2, a_slotX2, a_slotHeld2) (nI f) (nI x) := by
      intro r a b
      unfold wpY_value
      refine sl_Yl hG hY0 (fun q => ?_) (fun f2 x2 q => ?_)
      · rw [hd] at q; exact absurd q (by simp)
      · rw [hd] at q
        obtain ⟨rfl, rfl⟩ := Prod.mk.inj (Option.some.inj q)
        by_cases z : sl_k P (ou_cf P f x) = 1
        · refine br_t z ?_
          rw [e144]
          refine ⟨vp_in_nI dl (by decide), ?_⟩
          rw [nI_clamp (by omega)]
          exact ⟨a z, I0⟩
        · exact br_f z ⟨(b z).symm, I0⟩
    refine sl_Xf hG hX0 f5 fs ⟨hin, ?_⟩
    rw [nI_clamp (by omega), sl_k2 hG.1 hu x9]
    by_cases z : sl_k P (ou_cf P f x) = 1
    · obtain ⟨r, kr, hr⟩ := x8 f f5 fs
      refine br_t z ⟨vp_in_nI f5 (by decide), ?_⟩
      rw [nI_clamp (by omega), kr]
      have hE : ∃ o, ou_E P (ou_cf P f x) = some o ∧ o.1 = 1 := by
        unfold sl_k at z
        cases hE : ou_E P (ou_cf P f x) with
        | none => rw [hE] at z; exact absurd z (by decide)
        | some o =>
          rw [hE] at z
          obtain ⟨c0, _, hc0⟩ := hG.2.1
          have t := ru_t (T := ou_E P) hG.1 hc0 (fun d p q => ou_E_s.mp q) hE
          have l : o.1 < 6 := by
            rcases t with t | t
            · have := t.1; omega
            · have := t.1; omega
          exact ⟨o, rfl, (nI_eq (a := o.1) (b := 1) (by omega) (by decide)).mp z⟩
      obtain ⟨o, oE, o1⟩ := hE
      have tag := qu_kd hG.1 f5 fs fx hr hG.2.1 oE o1
      have re : a_result (ou_cf P f x) = o.2.2 := ((x9 _ hu).2 o oE).2 o1
      have nu := (t1 o oE).2 o1
      have r3 := fk_3 hr
      refine pk_eq r 3 (fun c => ⟨hin, ?_⟩) (fun c => ⟨hin, ?_⟩)
      · rw [re]
        have tt : o.2.1 = 3 := tag.trans c
        by_cases w : o.2.2 = 0
        · exact br_t w (yy 0 (fun _ => (nu.2 tt).1 w) (fun n => absurd z n))
        · exact br_f w (yy 1 (fun _ => ((nu.2 tt).2 w).1) (fun n => absurd z n))
      · rw [re]
        exact yy _ (fun _ => nu.1 (by rw [tag]; exact c)) (fun n => absurd z n)
    · exact br_f z (yy 0 (fun n => absurd n z) (fun _ => rfl))
