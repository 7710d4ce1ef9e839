-- put, wipe, place, the constructors
theorem sm_ch {c : Nat} (h : c ≤ 126) : vp_nar .char (((nI c).toUInt32 % 65536).toInt32) = nI c := by
  rw [pk_vc, pk_char, pk_tn (by omega), Nat.mod_eq_of_lt (by omega)]
theorem i_vc_put {k : Nat} {u : SX} {v : SY} (I : i_Rel k u v) (hk : k + 4 ≤ 2049) (v1 : Int32) : wpX_put (fun r u' => wpY_put (fun r' v' => r' = r ∧ i_Rel (k + 4) u' v') v v1) u v1 := by
  have I0 := I
  obtain ⟨P, L, tx, pl, sl, g, hG, hX, hY⟩ := I
  obtain ⟨f_width, f_textLength, f_foundPlace, f_tokenCount, f_frameCount, f_operandCount, f_defCount, f_nodeEnd, a_text, a_tokenCode, a_tokenPlace, a_frameCode, a_framePlace, a_operand, a_defPlace, a_defFirst, a_defEnd, a_nodeOp, a_nodeNumber, a_nodePlace, a_nodeDepth, a_nodeKind, a_part, a_size, a_kindFound, a_choice, a_status, a_result, a_slotFunction, a_slotArgument⟩ := u
  obtain ⟨f_width2, f_length2, f_place2, f_toks2, f_nodes2, f_defs2, a_text2, a_tok2, a_tokNum2, a_tokPlace2, a_opened2, a_nOp2, a_nNum2, a_nPlace2, a_nA2, a_nB2, a_nC2, a_nLo2, a_nHi2, a_nLevel2, a_defName2, a_defPlace2, a_defRoot2, a_loaded2, a_count2, a_status2, a_number2, a_origin2, a_choice2, a_slotF2, a_slotX2, a_slotHeld2⟩ := v
  obtain ⟨x1, x2, x3, x4, x5, x6, x7, x8, x9, x10⟩ := hX
  obtain ⟨y1, y2, y3, y4, y5, y6, y7, y8, y9, y10⟩ := hY
  obtain ⟨g1, g2, g3, g4, g5, g6⟩ := hG
  subst x2
  subst y2
  have no : ∀ (hc : nI L = 200 → ¬ (L < 200)), (200 ≤ L ∨ v1 < 32 ∨ ¬ v1 ≤ 126) → (nI L = (200 : Int32) → True) := fun _ _ _ => trivial
  by_cases hL : L < 200
  · have hX1 : ¬ (200 : Int32) ≤ nI L := nI_ge (b := 200) hL (by decide)
    have hY1 : ¬ nI L = (200 : Int32) := fun q => by
      have := (nI_eq (b := 200) (by omega) (by decide)).mp q; omega
    by_cases h1 : v1 < 32
    · exact br_f hX1 (br_t h1 (br_f hY1 (br_t h1 ⟨rfl, I0⟩)))
    · by_cases h2 : v1 ≤ 126
      · obtain ⟨c, hc, rfl⟩ := nI_of2 (M := 126) (n := 126) (by decide) (fun q => h1 (Int32.lt_trans q (by decide))) h2
        have hin : vp_in (nI L) 200 := vp_in_nI hL (by decide)
        have h32 : 32 ≤ c := by
          rcases Nat.lt_or_ge c 32 with q | q
          · exact absurd (nI_lt (b := 32) q (by decide)) h1
          · exact q
        refine br_f hX1 (br_f h1 (br_t h2 ⟨hin, fun A eA B eB => br_f hY1 (br_f h1 (br_t h2 ⟨hin, fun A2 eA2 B2 eB2 => ⟨rfl, ?_⟩⟩))⟩))
        rw [nI_clamp (by omega)] at eA eA2
        rw [nI_1] at eB eB2
        rw [sm_ch hc] at eA2
        subst eA eA2 eB eB2
        have tt : ∀ (a : Nat → Int32), (∀ i, i < L → a i = nI (tx i)) → ∀ i, i < L + 1 → upd a L (nI c) i = nI (if i = L then c else tx i) := by
          intro a ha i hi
          by_cases e : i = L
          · rw [e, pk_us, if_pos rfl]
          · rw [pk_un e, if_neg e]; exact ha i (by omega)
        refine ⟨P, L + 1, fun i => if i = L then c else tx i, pl, sl, g, ⟨g1, g2, by omega, ?_, g5, g6⟩, ⟨x1, rfl, x3, tt _ x4, x5, x6, x7, x8, x9, x10⟩, ⟨y1, rfl, y3, tt _ y4, y5, y6, y7, y8, y9, y10⟩⟩
        intro i hi
        by_cases e : i = L
        · simp only [e, if_true]; exact ⟨h32, hc⟩
        · simp only [e, if_false]; exact g4 i (by omega)
      · exact br_f hX1 (br_f h1 (br_f h2 (br_f hY1 (br_f h1 (br_f h2 ⟨rfl, I0⟩)))))
  · have e : L = 200 := by omega
    subst e
    exact br_t (nI_le (a := 200) (by decide) (by decide)) (br_t rfl ⟨rfl, I0⟩)
theorem i_vc_wipe {k : Nat} {u : SX} {v : SY} (I : i_Rel k u v) (hk : k + 4 ≤ 2049) : wpX_wipe (fun r u' => wpY_wipe (fun r' v' => r' = r ∧ i_Rel (k + 4) u' v') v) u := by
  obtain ⟨P, L, tx, pl, sl, g, hG, hX, hY⟩ := I
  obtain ⟨f_width, f_textLength, f_foundPlace, f_tokenCount, f_frameCount, f_operandCount, f_defCount, f_nodeEnd, a_text, a_tokenCode, a_tokenPlace, a_frameCode, a_framePlace, a_operand, a_defPlace, a_defFirst, a_defEnd, a_nodeOp, a_nodeNumber, a_nodePlace, a_nodeDepth, a_nodeKind, a_part, a_size, a_kindFound, a_choice, a_status, a_result, a_slotFunction, a_slotArgument⟩ := u
  obtain ⟨f_width2, f_length2, f_place2, f_toks2, f_nodes2, f_defs2, a_text2, a_tok2, a_tokNum2, a_tokPlace2, a_opened2, a_nOp2, a_nNum2, a_nPlace2, a_nA2, a_nB2, a_nC2, a_nLo2, a_nHi2, a_nLevel2, a_defName2, a_defPlace2, a_defRoot2, a_loaded2, a_count2, a_status2, a_number2, a_origin2, a_choice2, a_slotF2, a_slotX2, a_slotHeld2⟩ := v
  obtain ⟨x1, x2, x3, x4, x5, x6, x7, x8, x9, x10⟩ := hX
  obtain ⟨y1, y2, y3, y4, y5, y6, y7, y8, y9, y10⟩ := hY
  obtain ⟨g1, g2, g3, g4, g5, g6⟩ := hG
  refine ⟨y2.trans x2.symm, P, 0, tx, pl, sl, g, ⟨g1, g2, by omega, fun i hi => absurd hi (Nat.not_lt_zero i), g5, g6⟩, ⟨x1, rfl, x3, fun i hi => absurd hi (Nat.not_lt_zero i), x5, x6, x7, x8, x9, x10⟩, ⟨y1, rfl, y3, fun i hi => absurd hi (Nat.not_lt_zero i), y5, y6, y7, y8, y9, y10⟩⟩
theorem i_vc_place {k : Nat} {u : SX} {v : SY} (I : i_Rel k u v) (hk : k + 4 ≤ 2049) : wpX_place (fun r => wpY_place (fun r' => r' = r ∧ i_Rel (k + 4) u v) v) u := by
  have I0 := I
  obtain ⟨P, L, tx, pl, sl, g, hG, hX, hY⟩ := I
  obtain ⟨f_width, f_textLength, f_foundPlace, f_tokenCount, f_frameCount, f_operandCount, f_defCount, f_nodeEnd, a_text, a_tokenCode, a_tokenPlace, a_frameCode, a_framePlace, a_operand, a_defPlace, a_defFirst, a_defEnd, a_nodeOp, a_nodeNumber, a_nodePlace, a_nodeDepth, a_nodeKind, a_part, a_size, a_kindFound, a_choice, a_status, a_result, a_slotFunction, a_slotArgument⟩ := u
  obtain ⟨f_width2, f_length2, f_place2, f_toks2, f_nodes2, f_defs2, a_text2, a_tok2, a_tokNum2, a_tokPlace2, a_opened2, a_nOp2, a_nNum2, a_nPlace2, a_nA2, a_nB2, a_nC2, a_nLo2, a_nHi2, a_nLevel2, a_defName2, a_defPlace2, a_defRoot2, a_loaded2, a_count2, a_status2, a_number2, a_origin2, a_choice2, a_slotF2, a_slotX2, a_slotHeld2⟩ := v
  obtain ⟨x1, x2, x3, x4, x5, x6, x7, x8, x9, x10⟩ := hX
  obtain ⟨y1, y2, y3, y4, y5, y6, y7, y8, y9, y10⟩ := hY
  exact ⟨y3.trans x3.symm, I0⟩
