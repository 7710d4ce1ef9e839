-- the methods of the slots, and look
theorem i_vc_work {k : Nat} {u : SX} {v : SY} (I : i_Rel k u v) (hk : k + 4 ≤ 2049) (v1 : Int32) (v2 : Int32) : wpX_work (fun r => wpY_work (fun r' => r' = r ∧ i_Rel (k + 4) u v) v v1 v2) u v1 v2 := by
  have I0 := I
  obtain ⟨P, L, tx, pl, sl, g, hG, hX, hY⟩ := I
  have hX0 := hX
  have hY0 := hY
  obtain ⟨f_width, f_textLength, f_foundPlace, f_tokenCount, f_frameCount, f_operandCount, f_defCount, f_nodeEnd, a_text, a_tokenCode, a_tokenPlace, a_frameCode, a_framePlace, a_operand, a_defPlace, a_defFirst, a_defEnd, a_nodeOp, a_nodeNumber, a_nodePlace, a_nodeDepth, a_nodeKind, a_part, a_size, a_kindFound, a_choice, a_status, a_result, a_slotFunction, a_slotArgument⟩ := u
  obtain ⟨f_width2, f_length2, f_place2, f_toks2, f_nodes2, f_defs2, a_text2, a_tok2, a_tokNum2, a_tokPlace2, a_opened2, a_nOp2, a_nNum2, a_nPlace2, a_nA2, a_nB2, a_nC2, a_nLo2, a_nHi2, a_nLevel2, a_defName2, a_defPlace2, a_defRoot2, a_loaded2, a_count2, a_status2, a_number2, a_origin2, a_choice2, a_slotF2, a_slotX2, a_slotHeld2⟩ := v
  have yy : ∀ (r : Int32), (sl_p sl v1 = none → r = 0) → (∀ s f x, s < 3 → v1 = nI s → sl s = some (f, x) → sl_p sl v1 = some (f, x) → (v2 < 1 → r = 0) ∧ (¬ v2 < 1 → (60 < v2 → r = 0) ∧ (¬ 60 < v2 → r = 1))) → wpY_work (fun r' => r' = r ∧ i_Rel (k + 4) (f_width, f_textLength, f_foundPlace, f_tokenCount, f_frameCount, f_operandCount, f_defCount, f_nodeEnd, a_text, a_tokenCode, a_tokenPlace, a_frameCode, a_framePlace, a_operand, a_defPlace, a_defFirst, a_defEnd, a_nodeOp, a_nodeNumber, a_nodePlace, a_nodeDepth, a_nodeKind, a_part, a_size, a_kindFound, a_choice, a_status, a_result, a_slotFunction, a_slotArgument) (f_width2, f_length2, f_place2, f_toks2, f_nodes2, f_defs2, a_text2, a_tok2, a_tokNum2, a_tokPlace2, a_opened2, a_nOp2, a_nNum2, a_nPlace2, a_nA2, a_nB2, a_nC2, a_nLo2, a_nHi2, a_nLevel2, a_defName2, a_defPlace2, a_defRoot2, a_loaded2, a_count2, a_status2, a_number2, a_origin2, a_choice2, a_slotF2, a_slotX2, a_slotHeld2)) (f_width2, f_length2, f_place2, f_toks2, f_nodes2, f_defs2, a_text2, a_tok2, a_tokNum2, a_tokPlace2, a_opened2, a_nOp2, a_nNum2, a_nPlace2, a_nA2, a_nB2, a_nC2, a_nLo2, a_nHi2, a_nLevel2, a_defName2, a_defPlace2, a_defRoot2, a_loaded2, a_count2, a_status2, a_number2, a_origin2, a_choice2, a_slotF2, a_slotX2, a_slotHeld2) v1 v2 := by
    intro r a b
    unfold wpY_work
    refine sl_Yt hY0 (fun h => br_t rfl ⟨(a h).symm, I0⟩) (fun s f x h1 h2 h3 h4 => bq_1 ?_)
    obtain ⟨b1, b2⟩ := b s f x h1 h2 h3 h4
    exact br_c (fun c => ⟨(b1 c).symm, I0⟩) (fun c => br_c (fun d => ⟨((b2 c).1 d).symm, I0⟩) (fun d => ⟨((b2 c).2 d).symm, I0⟩))
  unfold wpX_work
  refine sl_Xt hG hX0 (fun h => br_t rfl (yy 0 (fun _ => rfl) (fun s f x h1 h2 h3 h4 => by rw [h] at h4; exact absurd h4 (by simp)))) (fun s f x h1 h2 h3 h4 => bq_1 ?_)
  have n : sl_p sl v1 = none → ∀ r : Int32, r = 0 := fun q => by rw [q] at h4; exact absurd h4 (by simp)
  exact br_c (fun c => yy 0 (fun q => n q _) (fun _ _ _ _ _ _ _ => ⟨fun _ => rfl, fun d => absurd c d⟩))
    (fun c => br_c (fun d => yy 0 (fun q => n q _) (fun _ _ _ _ _ _ _ => ⟨fun e => absurd e c, fun _ => ⟨fun _ => rfl, fun e => absurd d e⟩⟩))
      (fun d => yy 1 (fun q => n q _) (fun _ _ _ _ _ _ _ => ⟨fun e => absurd e c, fun _ => ⟨fun e => absurd e d, fun _ => rfl⟩⟩)))
theorem i_vc_pending {k : Nat} {u : SX} {v : SY} (I : i_Rel k u v) (hk : k + 4 ≤ 2049) (v1 : Int32) : wpX_pending (fun r => wpY_pending (fun r' => r' = r ∧ i_Rel (k + 4) u v) v v1) u v1 := by
  have I0 := I
  obtain ⟨P, L, tx, pl, sl, g, hG, hX, hY⟩ := I
  have hX0 := hX
  have hY0 := hY
  obtain ⟨f_width, f_textLength, f_foundPlace, f_tokenCount, f_frameCount, f_operandCount, f_defCount, f_nodeEnd, a_text, a_tokenCode, a_tokenPlace, a_frameCode, a_framePlace, a_operand, a_defPlace, a_defFirst, a_defEnd, a_nodeOp, a_nodeNumber, a_nodePlace, a_nodeDepth, a_nodeKind, a_part, a_size, a_kindFound, a_choice, a_status, a_result, a_slotFunction, a_slotArgument⟩ := u
  obtain ⟨f_width2, f_length2, f_place2, f_toks2, f_nodes2, f_defs2, a_text2, a_tok2, a_tokNum2, a_tokPlace2, a_opened2, a_nOp2, a_nNum2, a_nPlace2, a_nA2, a_nB2, a_nC2, a_nLo2, a_nHi2, a_nLevel2, a_defName2, a_defPlace2, a_defRoot2, a_loaded2, a_count2, a_status2, a_number2, a_origin2, a_choice2, a_slotF2, a_slotX2, a_slotHeld2⟩ := v
  obtain ⟨x1, x2, x3, x4, x5, x6, x7, x8, x9, x10⟩ := hX
  obtain ⟨y1, y2, y3, y4, y5, y6, y7, y8, y9, y10⟩ := hY
  unfold wpX_pending
  refine sl_Xt hG hX0 (fun h => br_t rfl ?_) (fun s f x h1 h2 h3 h4 => bq_1 ?_)
  · unfold wpY_pending
    refine sl_Yt hY0 (fun _ => br_t rfl ⟨rfl, I0⟩) (fun s f x h1 h2 h3 h4 => ?_)
    rw [h] at h4; exact absurd h4 (by simp)
  · subst h2
    have hin := vp_in_nI h1 (by decide)
    refine ⟨hin, hin, ?_⟩
    unfold wpY_pending
    refine sl_Yt hY0 (fun h => ?_) (fun s2 f2 z2 h12 h22 h32 h42 => bq_1 ⟨hin, hin, ?_, I0⟩)
    · rw [h] at h4; exact absurd h4 (by simp)
    · rw [nI_clamp (by omega), ((x10 s h1).2 f x h3).1, ((x10 s h1).2 f x h3).2, ((y10 s h1).2 f x h3).2.1, ((y10 s h1).2 f x h3).2.2]
theorem sm_sN {sl : Nat → Option (Nat × Nat)} {P : Nat → Nat → Nat} {L : Nat} {tx : Nat → Nat} {s : Nat} (hG : rl_G P L tx sl) : rl_G P L tx (fun i => if i = s then none else sl i) := by
  obtain ⟨g1, g2, g3, g4, g5, g6⟩ := hG
  refine ⟨g1, g2, g3, g4, g5, fun t ht f x e => ?_⟩
  by_cases c : t = s
  · simp only [c, if_true] at e; exact absurd e (by simp)
  · simp only [c, if_false] at e; exact g6 t ht f x e
theorem sm_xN {sl : Nat → Option (Nat × Nat)} {sf sa : Nat → Int32} {s : Nat} (h : rl_sX sl sf sa) : rl_sX (fun i => if i = s then none else sl i) (upd sf s (-1)) sa := by
  intro t ht
  by_cases c : t = s
  · subst c
    refine ⟨fun _ => pk_us, fun f x e => ?_⟩
    simp only [if_true] at e; exact absurd e (by simp)
  · simp only [c, if_false]; rw [pk_un c]; exact h t ht
theorem sm_yN {sl : Nat → Option (Nat × Nat)} {sf sa sh : Nat → Int32} {s : Nat} (h : rl_sY sl sf sa sh) : rl_sY (fun i => if i = s then none else sl i) sf sa (upd sh s (vp_nar .boolean 0)) := by
  intro t ht
  by_cases c : t = s
  · subst c
    refine ⟨fun _ => pk_us.trans (by decide), fun f x e => ?_⟩
    simp only [if_true] at e; exact absurd e (by simp)
  · simp only [c, if_false]; rw [pk_un c]; exact h t ht
theorem i_vc_cancel {k : Nat} {u : SX} {v : SY} (I : i_Rel k u v) (hk : k + 4 ≤ 2049) (v1 : Int32) : wpX_cancel (fun r u' => wpY_cancel (fun r' v' => r' = r ∧ i_Rel (k + 4) u' v') v v1) u v1 := by
  have I0 := I
  obtain ⟨P, L, tx, pl, sl, g, hG, hX, hY⟩ := I
  have hX0 := hX
  have hY0 := hY
  obtain ⟨f_width, f_textLength, f_foundPlace, f_tokenCount, f_frameCount, f_operandCount, f_defCount, f_nodeEnd, a_text, a_tokenCode, a_tokenPlace, a_frameCode, a_framePlace, a_operand, a_defPlace, a_defFirst, a_defEnd, a_nodeOp, a_nodeNumber, a_nodePlace, a_nodeDepth, a_nodeKind, a_part, a_size, a_kindFound, a_choice, a_status, a_result, a_slotFunction, a_slotArgument⟩ := u
  obtain ⟨f_width2, f_length2, f_place2, f_toks2, f_nodes2, f_defs2, a_text2, a_tok2, a_tokNum2, a_tokPlace2, a_opened2, a_nOp2, a_nNum2, a_nPlace2, a_nA2, a_nB2, a_nC2, a_nLo2, a_nHi2, a_nLevel2, a_defName2, a_defPlace2, a_defRoot2, a_loaded2, a_count2, a_status2, a_number2, a_origin2, a_choice2, a_slotF2, a_slotX2, a_slotHeld2⟩ := v
  obtain ⟨x1, x2, x3, x4, x5, x6, x7, x8, x9, x10⟩ := hX
  obtain ⟨y1, y2, y3, y4, y5, y6, y7, y8, y9, y10⟩ := hY
  unfold wpX_cancel
  refine sl_Xt hG hX0 (fun h => br_t rfl ?_) (fun s f x h1 h2 h3 h4 => bq_1 ?_)
  · unfold wpY_cancel
    refine sl_Yt hY0 (fun _ => br_t rfl ⟨rfl, I0⟩) (fun s f x h1 h2 h3 h4 => ?_)
    rw [h] at h4; exact absurd h4 (by simp)
  · subst h2
    have hin := vp_in_nI h1 (by decide)
    refine ⟨hin, fun A eA => ?_⟩
    unfold wpY_cancel
    refine sl_Yt hY0 (fun h => ?_) (fun s2 f2 z2 h12 h22 h32 h42 => bq_1 ⟨hin, fun B eB => ⟨rfl, ?_⟩⟩)
    · rw [h] at h4; exact absurd h4 (by simp)
    · rw [nI_clamp (by omega)] at eA eB
      subst eA eB
      exact ⟨P, L, tx, pl, _, g, sm_sN hG, ⟨x1, x2, x3, x4, x5, x6, x7, x8, x9, sm_xN x10⟩, ⟨y1, y2, y3, y4, y5, y6, y7, y8, y9, sm_yN y10⟩⟩
theorem i_vc_look {k : Nat} {u : SX} {v : SY} (I : i_Rel k u v) (hk : k + 4 ≤ 2049) (v1 : Int32) (v2 : Int32) : wpX_look (fun r => wpY_look (fun r' => r' = r ∧ i_Rel (k + 4) u v) v v1 v2) u v1 v2 := by
  have I0 := I
  obtain ⟨P, L, tx, pl, sl, g, hG, hX, hY⟩ := I
  refine sl_Xl hG hX (fun h => sl_Yl hG hY (fun _ => ⟨rfl, I0⟩) (fun f x h2 => ?_)) (fun f x h => sl_Yl hG hY (fun h2 => ?_) (fun f2 x2 h2 => ?_))
  · rw [h] at h2; exact absurd h2 (by simp)
  · rw [h] at h2; exact absurd h2 (by simp)
  · rw [h] at h2
    have := Option.some.inj h2
    simp at this
    rw [this.1, this.2]; exact ⟨rfl, I0⟩
theorem sl_cn {P : Nat → Nat → Nat} {f x : Nat} (hw : P 6 0 ≤ 6) (hf : f < 5) (hs : 0 < P 5 f) (hx : x < P 6 0) : sl_c P (nI f) (nI x) = some (f, x) := by
  have a : ¬ (nI f < 0 ∨ (5 : Int32) ≤ nI f) := fun q => q.elim (nI_pos (by omega)) (nI_ge (b := 5) hf (by decide))
  have b : ¬ (nI x < 0 ∨ nI (P 6 0) ≤ nI x) := fun q => q.elim (nI_pos (by omega)) (nI_ge hx (by omega))
  have e : sl_d P (nI f) = some f := by unfold sl_d; rw [if_neg a, nI_clamp (by omega), if_neg (by omega)]
  unfold sl_c
  rw [e]
  dsimp only
  rw [if_neg b, nI_clamp (by omega)]
theorem i_vc_answer {k : Nat} {u : SX} {v : SY} (I : i_Rel k u v) (hk : k + 4 ≤ 2049) (v1 : Int32) : wpX_answer (fun r u' => wpY_answer (fun r' v' => r' = r ∧ i_Rel (k + 4) u' v') v v1) u v1 := by
  have I0 := I
  obtain ⟨P, L, tx, pl, sl, g, hG, hX, hY⟩ := I
  have hX0 := hX
  have hY0 := hY
  obtain ⟨f_width, f_textLength, f_foundPlace, f_tokenCount, f_frameCount, f_operandCount, f_defCount, f_nodeEnd, a_text, a_tokenCode, a_tokenPlace, a_frameCode, a_framePlace, a_operand, a_defPlace, a_defFirst, a_defEnd, a_nodeOp, a_nodeNumber, a_nodePlace, a_nodeDepth, a_nodeKind, a_part, a_size, a_kindFound, a_choice, a_status, a_result, a_slotFunction, a_slotArgument⟩ := u
  obtain ⟨f_width2, f_length2, f_place2, f_toks2, f_nodes2, f_defs2, a_text2, a_tok2, a_tokNum2, a_tokPlace2, a_opened2, a_nOp2, a_nNum2, a_nPlace2, a_nA2, a_nB2, a_nC2, a_nLo2, a_nHi2, a_nLevel2, a_defName2, a_defPlace2, a_defRoot2, a_loaded2, a_count2, a_status2, a_number2, a_origin2, a_choice2, a_slotF2, a_slotX2, a_slotHeld2⟩ := v
  obtain ⟨x1, x2, x3, x4, x5, x6, x7, x8, x9, x10⟩ := hX
  obtain ⟨y1, y2, y3, y4, y5, y6, y7, y8, y9, y10⟩ := hY
  unfold wpX_answer
  refine sl_Xt hG hX0 (fun h => br_t rfl ?_) (fun s f x h1 h2 h3 h4 => bq_1 ?_)
  · unfold wpY_answer
    refine sl_Yt hY0 (fun _ => br_t rfl ⟨rfl, I0⟩) (fun s f x h1 h2 h3 h4 => ?_)
    rw [h] at h4; exact absurd h4 (by simp)
  · subst h2
    have hin := vp_in_nI h1 (by decide)
    obtain ⟨f5, fs, fx⟩ := hG.2.2.2.2.2 s h1 f x h3
    have cn := sl_cn hG.1.2.1 f5 fs fx
    refine ⟨hin, hin, ?_⟩
    rw [nI_clamp (by omega), ((x10 s h1).2 f x h3).1, ((x10 s h1).2 f x h3).2]
    refine sl_Xl hG hX0 (fun h => ?_) (fun f2 z2 hc => ⟨hin, fun A eA => ?_⟩)
    · rw [cn] at h; exact absurd h (by simp)
    · rw [cn] at hc
      obtain ⟨rfl, rfl⟩ : f = f2 ∧ x = z2 := by simpa using hc
      subst eA
      unfold wpY_answer
      refine sl_Yt hY0 (fun h => ?_) (fun s2 f2 z2 h12 h22 h32 h42 => bq_1 ⟨hin, fun B eB => ⟨hin, hin, ?_⟩⟩)
      · rw [h] at h4; exact absurd h4 (by simp)
      · rw [nI_clamp (by omega)] at eB ⊢
        subst eB
        rw [((y10 s h1).2 f x h3).2.1, ((y10 s h1).2 f x h3).2.2]
        have hG' := sm_sN (s := s) hG
        have hY' : rl_Y P L tx pl (fun i => if i = s then none else sl i) g (f_width2, f_length2, f_place2, f_toks2, f_nodes2, f_defs2, a_text2, a_tok2, a_tokNum2, a_tokPlace2, a_opened2, a_nOp2, a_nNum2, a_nPlace2, a_nA2, a_nB2, a_nC2, a_nLo2, a_nHi2, a_nLevel2, a_defName2, a_defPlace2, a_defRoot2, a_loaded2, a_count2, a_status2, a_number2, a_origin2, a_choice2, a_slotF2, a_slotX2, upd a_slotHeld2 s (vp_nar .boolean 0)) := ⟨y1, y2, y3, y4, y5, y6, y7, y8, y9, sm_yN y10⟩
        refine sl_Yl hG' hY' (fun h => ?_) (fun f2 z2 hc => ?_)
        · rw [cn] at h; exact absurd h (by simp)
        · rw [cn] at hc
          obtain ⟨rfl, rfl⟩ : f = f2 ∧ x = z2 := by simpa using hc
          refine ⟨rfl, P, L, tx, pl, _, g, hG', ⟨x1, x2, x3, x4, x5, x6, x7, x8, x9, ?_⟩, hY'⟩
          exact sm_xN x10
theorem sm_sA {sl : Nat → Option (Nat × Nat)} {P : Nat → Nat → Nat} {L : Nat} {tx : Nat → Nat} {s f x : Nat} (hG : rl_G P L tx sl) (hf : f < 5) (hs : 0 < P 5 f) (hx : x < P 6 0) : rl_G P L tx (fun i => if i = s then some (f, x) else sl i) := by
  obtain ⟨g1, g2, g3, g4, g5, g6⟩ := hG
  refine ⟨g1, g2, g3, g4, g5, fun t ht f2 x2 e => ?_⟩
  by_cases c : t = s
  · simp only [c, if_true] at e
    obtain ⟨rfl, rfl⟩ : f = f2 ∧ x = x2 := by simpa using e
    exact ⟨hf, hs, hx⟩
  · simp only [c, if_false] at e; exact g6 t ht f2 x2 e
theorem i_vc_ask {k : Nat} {u : SX} {v : SY} (I : i_Rel k u v) (hk : k + 4 ≤ 2049) (v1 : Int32) (v2 : Int32) (v3 : Int32) : wpX_ask (fun r u' => wpY_ask (fun r' v' => r' = r ∧ i_Rel (k + 4) u' v') v v1 v2 v3) u v1 v2 v3 := by
  have I0 := I
  obtain ⟨P, L, tx, pl, sl, g, hG, hX, hY⟩ := I
  have hX0 := hX
  have hY0 := hY
  obtain ⟨f_width, f_textLength, f_foundPlace, f_tokenCount, f_frameCount, f_operandCount, f_defCount, f_nodeEnd, a_text, a_tokenCode, a_tokenPlace, a_frameCode, a_framePlace, a_operand, a_defPlace, a_defFirst, a_defEnd, a_nodeOp, a_nodeNumber, a_nodePlace, a_nodeDepth, a_nodeKind, a_part, a_size, a_kindFound, a_choice, a_status, a_result, a_slotFunction, a_slotArgument⟩ := u
  obtain ⟨f_width2, f_length2, f_place2, f_toks2, f_nodes2, f_defs2, a_text2, a_tok2, a_tokNum2, a_tokPlace2, a_opened2, a_nOp2, a_nNum2, a_nPlace2, a_nA2, a_nB2, a_nC2, a_nLo2, a_nHi2, a_nLevel2, a_defName2, a_defPlace2, a_defRoot2, a_loaded2, a_count2, a_status2, a_number2, a_origin2, a_choice2, a_slotF2, a_slotX2, a_slotHeld2⟩ := v
  obtain ⟨x1, x2, x3, x4, x5, x6, x7, x8, x9, x10⟩ := hX
  obtain ⟨y1, y2, y3, y4, y5, y6, y7, y8, y9, y10⟩ := hY
  by_cases a : v1 < 0
  · exact br_t a (br_t a ⟨rfl, I0⟩)
  · refine br_f a ?_
    by_cases b : 3 ≤ v1
    · exact br_t b (br_f a (br_t b ⟨rfl, I0⟩))
    · refine br_f b ?_
      obtain ⟨s, hs, rfl, e⟩ := sl_p3 (sl := sl) (p := v1) (fun q => q.elim a b)
      have hin := vp_in_nI hs (by decide)
      refine ⟨hin, ?_⟩
      rw [nI_clamp (by omega)]
      cases hc : sl s with
      | some fx =>
        obtain ⟨f, x⟩ := fx
        have hf := (hG.2.2.2.2.2 s hs f x hc).1
        refine br_f (by rw [((x10 s hs).2 f x hc).1]; exact sl_m1 (by omega)) ?_
        refine br_f a (br_f b ⟨hin, ?_⟩)
        rw [nI_clamp (by omega)]
        exact br_f (by rw [((y10 s hs).2 f x hc).1]; decide) ⟨rfl, I0⟩
      | none =>
        refine br_t ((x10 s hs).1 hc) ?_
        have yy : ∀ (r : Int32) (u' : SX), (sl_c P v2 v3 = none → r = 0 ∧ i_Rel (k + 4) u' (f_width2, f_length2, f_place2, f_toks2, f_nodes2, f_defs2, a_text2, a_tok2, a_tokNum2, a_tokPlace2, a_opened2, a_nOp2, a_nNum2, a_nPlace2, a_nA2, a_nB2, a_nC2, a_nLo2, a_nHi2, a_nLevel2, a_defName2, a_defPlace2, a_defRoot2, a_loaded2, a_count2, a_status2, a_number2, a_origin2, a_choice2, a_slotF2, a_slotX2, a_slotHeld2)) → (∀ f x, sl_c P v2 v3 = some (f, x) → r = 1 ∧ i_Rel (k + 4) u' (f_width2, f_length2, f_place2, f_toks2, f_nodes2, f_defs2, a_text2, a_tok2, a_tokNum2, a_tokPlace2, a_opened2, a_nOp2, a_nNum2, a_nPlace2, a_nA2, a_nB2, a_nC2, a_nLo2, a_nHi2, a_nLevel2, a_defName2, a_defPlace2, a_defRoot2, a_loaded2, a_count2, a_status2, a_number2, a_origin2, a_choice2, upd a_slotF2 s v2, upd a_slotX2 s v3, upd a_slotHeld2 s (vp_nar .boolean 1))) → wpY_ask (fun r' v' => r' = r ∧ i_Rel (k + 4) u' v') (f_width2, f_length2, f_place2, f_toks2, f_nodes2, f_defs2, a_text2, a_tok2, a_tokNum2, a_tokPlace2, a_opened2, a_nOp2, a_nNum2, a_nPlace2, a_nA2, a_nB2, a_nC2, a_nLo2, a_nHi2, a_nLevel2, a_defName2, a_defPlace2, a_defRoot2, a_loaded2, a_count2, a_status2, a_number2, a_origin2, a_choice2, a_slotF2, a_slotX2, a_slotHeld2) (nI s) v2 v3 := by
          intro r u' h0 h1
          refine br_f a (br_f b ⟨hin, ?_⟩)
          rw [nI_clamp (by omega)]
          refine br_t ((y10 s hs).1 hc) ?_
          refine sl_Yl hG hY0 (fun h => br_t rfl ⟨(h0 h).1.symm, (h0 h).2⟩) (fun f x h => br_f ?_ ⟨hin, fun A eA => ⟨hin, fun B eB => ⟨hin, fun C eC => ?_⟩⟩⟩)
          · obtain ⟨c1, c2, c3, c4, c5⟩ := sl_cs hG.1.2.1 h
            have hu := sl_cfl hG.1 c1 c3 c4
            unfold sl_k
            cases hE : ou_E P (ou_cf P f x) with
            | none => decide
            | some o =>
              obtain ⟨c0, _, hc0⟩ := hG.2.1
              obtain ⟨k0, hk0⟩ := ou_E_s.mp hE
              have to := ty_ev hG.1 (ki_ty hG.1 hc0) _ _ _ hk0
              have ho : 0 < o.1 ∧ o.1 < 6 := by
                rcases to with to | to
                · rw [to.1]; omega
                · have := to.1; omega
              exact nI_ne0 ho.1 (by omega)
          · subst eA eB eC
            exact ⟨(h1 f x h).1.symm, (h1 f x h).2⟩
        refine sl_Xc hG hX0 (fun h => br_t rfl (yy 0 _ (fun _ => ⟨rfl, I0⟩) (fun f x h2 => ?_))) (fun f x h => bq_1 ⟨hin, fun A eA => ⟨hin, fun B eB => yy 1 _ (fun h2 => ?_) (fun f2 z2 h2 => ⟨rfl, ?_⟩)⟩⟩)
        · rw [h] at h2; exact absurd h2 (by simp)
        · rw [h] at h2; exact absurd h2 (by simp)
        · subst eA eB
          obtain ⟨c1, c2, c3, c4, c5⟩ := sl_cs hG.1.2.1 h
          refine ⟨P, L, tx, pl, _, g, sm_sA (s := s) hG c1 c3 c4, ⟨x1, x2, x3, x4, x5, x6, x7, x8, x9, ?_⟩, ⟨y1, y2, y3, y4, y5, y6, y7, y8, y9, ?_⟩⟩
          · intro t ht
            by_cases c : t = s
            · subst c
              refine ⟨fun q => ?_, fun f2 x2 q => ?_⟩
              · simp only [if_true] at q; exact absurd q (by simp)
              · simp only [if_true] at q
                obtain ⟨rfl, rfl⟩ : f = f2 ∧ x = x2 := by simpa using q
                rw [pk_us, pk_us]; exact ⟨c2, c5⟩
            · simp only [c, if_false]; rw [pk_un c, pk_un c]; exact x10 t ht
          · intro t ht
            by_cases c : t = s
            · subst c
              refine ⟨fun q => ?_, fun f2 x2 q => ?_⟩
              · simp only [if_true] at q; exact absurd q (by simp)
              · simp only [if_true] at q
                obtain ⟨rfl, rfl⟩ : f = f2 ∧ x = x2 := by simpa using q
                rw [pk_us, pk_us, pk_us]; exact ⟨by decide, c2, c5⟩
            · simp only [c, if_false]; rw [pk_un c, pk_un c, pk_un c]; exact y10 t ht
