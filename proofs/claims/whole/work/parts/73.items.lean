-- ITEMS and LENGTHS
-- the cell an item stands in: none where the list has ended
noncomputable def el_c (P : Nat → Nat → Nat) (c k : Nat) : Option Nat :=
  if wk_c P (wk P c k) = 2 then some (ou_ps P 2 (wk_j P (wk P c k))) else if wk_c P (wk P c k) = 1 then none else some (wk P c k)
-- whether (f, x) is a cell of a list
def el_l (P : Nat → Nat → Nat) (p q : Int32) (o : Option (Nat × Nat)) : Prop :=
  (o = none ∧ (sl_c P p q = none ∨ ∃ f x r, sl_c P p q = some (f, x) ∧ ki_r (rl_V P) 243 f r ∧ r ≠ 3)) ∨ (∃ f x, o = some (f, x) ∧ sl_c P p q = some (f, x) ∧ ki_r (rl_V P) 243 f 3)
section
variable {P : Nat → Nat → Nat} {L : Nat} {tx : Nat → Nat} {pl : Int32} {sl : Nat → Option (Nat × Nat)} {g : Nat → Nat}
theorem el_u {p q : Int32} {o o2 : Option (Nat × Nat)} (h : el_l P p q o) (h2 : el_l P p q o2) : o = o2 := by
  rcases h with ⟨h1, h⟩ | ⟨f, x, h1, h, hr⟩ <;> rcases h2 with ⟨g1, k⟩ | ⟨f2, x2, g1, k, kr⟩
  · rw [h1, g1]
  · rcases h with h | ⟨f, x, r, h, hr, n3⟩
    · rw [h] at k; exact absurd k (by simp)
    · rw [h] at k
      obtain ⟨rfl, rfl⟩ := Prod.mk.inj (Option.some.inj k)
      exact absurd (ki_r_u hr kr) n3
  · rcases k with k | ⟨f2, x2, r, k, kr, n3⟩
    · rw [h] at k; exact absurd k (by simp)
    · rw [h] at k
      obtain ⟨rfl, rfl⟩ := Prod.mk.inj (Option.some.inj k)
      exact absurd (ki_r_u kr hr) n3
  · rw [h1, g1]; rw [h] at k; exact k
theorem el_X {f_width f_textLength f_foundPlace f_tokenCount f_frameCount f_operandCount f_defCount f_nodeEnd a_text a_tokenCode a_tokenPlace a_frameCode a_framePlace a_operand a_defPlace a_defFirst a_defEnd a_nodeOp a_nodeNumber a_nodePlace a_nodeDepth a_nodeKind a_part a_size a_kindFound a_choice a_status a_result a_slotFunction a_slotArgument : _} (hG : rl_G P L tx sl) (hX : rl_X P L tx pl sl (f_width, f_textLength, f_foundPlace, f_tokenCount, f_frameCount, f_operandCount, f_defCount, f_nodeEnd, a_text, a_tokenCode, a_tokenPlace, a_frameCode, a_framePlace, a_operand, a_defPlace, a_defFirst, a_defEnd, a_nodeOp, a_nodeNumber, a_nodePlace, a_nodeDepth, a_nodeKind, a_part, a_size, a_kindFound, a_choice, a_status, a_result, a_slotFunction, a_slotArgument)) {p q : Int32} {post : Int32 → Prop} (h0 : el_l P p q none → post 0) (h1 : ∀ f x, el_l P p q (some (f, x)) → post 1) : wpX_isListCell post (f_width, f_textLength, f_foundPlace, f_tokenCount, f_frameCount, f_operandCount, f_defCount, f_nodeEnd, a_text, a_tokenCode, a_tokenPlace, a_frameCode, a_framePlace, a_operand, a_defPlace, a_defFirst, a_defEnd, a_nodeOp, a_nodeNumber, a_nodePlace, a_nodeDepth, a_nodeKind, a_part, a_size, a_kindFound, a_choice, a_status, a_result, a_slotFunction, a_slotArgument) p q := by
  have hX0 := hX
  obtain ⟨x1, x2, x3, x4, x5, x6, x7, x8, x9, x10⟩ := hX
  unfold wpX_isListCell
  refine sl_Xc hG hX0 (fun hd => br_t rfl (h0 (Or.inl ⟨rfl, Or.inl hd⟩))) (fun f x hd => bq_1 ?_)
  obtain ⟨f5, rfl, fs, fx, rfl⟩ := sl_cs hG.1.2.1 hd
  obtain ⟨r, kr, hr⟩ := x8 f f5 fs
  refine ⟨vp_in_nI f5 (by decide), ?_⟩
  rw [nI_clamp (by omega), kr]
  have r3 := fk_3 hr
  exact pk_eq r 3 (fun c => h1 f x (Or.inr ⟨f, x, rfl, hd, c ▸ hr⟩)) (fun c => h0 (Or.inl ⟨rfl, Or.inr ⟨f, x, r, hd, hr, c⟩⟩))
-- what a cell of a list is
theorem el_w (hG : rl_G P L tx sl) {p q : Int32} {f x : Nat} (h : el_l P p q (some (f, x))) : f < 5 ∧ p = nI f ∧ 0 < P 5 f ∧ x < P 6 0 ∧ q = nI x ∧ sl_c P p q = some (f, x) ∧ ki_r (rl_V P) 243 f 3 ∧ ∃ c0, c0 < 243 ∧ rl_V P c0 ∧ ou_uc P (ou_cf P f x) ∧ tt_K P c0 (ou_cf P f x / 6) = 3 := by
  rcases h with ⟨h1, _⟩ | ⟨f2, x2, h1, h, hr⟩
  · exact absurd h1 (by simp)
  · obtain ⟨rfl, rfl⟩ := Prod.mk.inj (Option.some.inj h1)
    obtain ⟨f5, e1, fs, fx, e2⟩ := sl_cs hG.1.2.1 h
    obtain ⟨c0, c1, c2⟩ := hG.2.1
    exact ⟨f5, e1, fs, fx, e2, h, hr, c0, c1, c2, sl_cfl hG.1 f5 fs fx, qu_k3 hG.1 f5 fs fx hr rfl c1 c2⟩
theorem el_Xp {f_width f_textLength f_foundPlace f_tokenCount f_frameCount f_operandCount f_defCount f_nodeEnd a_text a_tokenCode a_tokenPlace a_frameCode a_framePlace a_operand a_defPlace a_defFirst a_defEnd a_nodeOp a_nodeNumber a_nodePlace a_nodeDepth a_nodeKind a_part a_size a_kindFound a_choice a_status a_result a_slotFunction a_slotArgument : _} (hG : rl_G P L tx sl) (hX : rl_X P L tx pl sl (f_width, f_textLength, f_foundPlace, f_tokenCount, f_frameCount, f_operandCount, f_defCount, f_nodeEnd, a_text, a_tokenCode, a_tokenPlace, a_frameCode, a_framePlace, a_operand, a_defPlace, a_defFirst, a_defEnd, a_nodeOp, a_nodeNumber, a_nodePlace, a_nodeDepth, a_nodeKind, a_part, a_size, a_kindFound, a_choice, a_status, a_result, a_slotFunction, a_slotArgument)) {p q : Int32} {f x k : Nat} (h : el_l P p q (some (f, x))) (hk : k < 100) {post : Int32 → Prop} (hp : post (nI (wk P (ou_cf P f x) k))) : wpX_passParts post (f_width, f_textLength, f_foundPlace, f_tokenCount, f_frameCount, f_operandCount, f_defCount, f_nodeEnd, a_text, a_tokenCode, a_tokenPlace, a_frameCode, a_framePlace, a_operand, a_defPlace, a_defFirst, a_defEnd, a_nodeOp, a_nodeNumber, a_nodePlace, a_nodeDepth, a_nodeKind, a_part, a_size, a_kindFound, a_choice, a_status, a_result, a_slotFunction, a_slotArgument) p q (nI k) := by
  obtain ⟨f5, rfl, fs, fx, rfl, hc, hr, c0, c1, c2, hu, h3⟩ := el_w hG h
  have hX0 := hX
  have xl := qu_xl hG hX
  obtain ⟨x1, x2, x3, x4, x5, x6, x7, x8, x9, x10⟩ := hX
  unfold wpX_passParts
  exact sl_Xf hG hX0 f5 fs (wk_X c2 xl x9 hu h3 hk hp)
theorem el_Xi {f_width f_textLength f_foundPlace f_tokenCount f_frameCount f_operandCount f_defCount f_nodeEnd a_text a_tokenCode a_tokenPlace a_frameCode a_framePlace a_operand a_defPlace a_defFirst a_defEnd a_nodeOp a_nodeNumber a_nodePlace a_nodeDepth a_nodeKind a_part a_size a_kindFound a_choice a_status a_result a_slotFunction a_slotArgument : _} (hG : rl_G P L tx sl) (hX : rl_X P L tx pl sl (f_width, f_textLength, f_foundPlace, f_tokenCount, f_frameCount, f_operandCount, f_defCount, f_nodeEnd, a_text, a_tokenCode, a_tokenPlace, a_frameCode, a_framePlace, a_operand, a_defPlace, a_defFirst, a_defEnd, a_nodeOp, a_nodeNumber, a_nodePlace, a_nodeDepth, a_nodeKind, a_part, a_size, a_kindFound, a_choice, a_status, a_result, a_slotFunction, a_slotArgument)) {p q t : Int32} {post : Int32 → Prop} (h0 : el_l P p q none ∨ t < 0 ∨ 31 < t → post 0)
    (h1 : ∀ f x k, el_l P p q (some (f, x)) → t = nI k → k ≤ 31 → (el_c P (ou_cf P f x) k = none → post 5) ∧ (∀ d, el_c P (ou_cf P f x) k = some d → post (sl_k P d))) : wpX_item post (f_width, f_textLength, f_foundPlace, f_tokenCount, f_frameCount, f_operandCount, f_defCount, f_nodeEnd, a_text, a_tokenCode, a_tokenPlace, a_frameCode, a_framePlace, a_operand, a_defPlace, a_defFirst, a_defEnd, a_nodeOp, a_nodeNumber, a_nodePlace, a_nodeDepth, a_nodeKind, a_part, a_size, a_kindFound, a_choice, a_status, a_result, a_slotFunction, a_slotArgument) p q t := by
  unfold wpX_item
  refine el_X hG hX (fun h => br_t rfl (h0 (Or.inl h))) (fun f x h => bq_1 ?_)
  by_cases a : t < 0
  · exact br_t a (h0 (Or.inr (Or.inl a)))
  · refine br_f a ?_
    by_cases b : t ≤ 31
    · refine br_t b ?_
      have hh : ∃ k, k ≤ 31 ∧ t = nI k := by
        rcases pk_ix t (n := 32) (by decide) with w | w | ⟨j, hj, e⟩
        · exact absurd w a
        · have : (32 : Int32) ≤ 31 := Int32.le_trans w b
          exact absurd this (by decide)
        · exact ⟨j, by omega, e⟩
      obtain ⟨k, k31, rfl⟩ := hh
      obtain ⟨g0, g1⟩ := h1 f x k h rfl k31
      refine el_Xp hG hX h (by omega) ?_
      obtain ⟨f5, rfl, fs, fx, rfl, hc, hr, c0, c1, c2, hu, h3⟩ := el_w hG h
      have xl := qu_xl hG hX
      obtain ⟨x1, x2, x3, x4, x5, x6, x7, x8, x9, x10⟩ := hX
      obtain ⟨w1, w2⟩ := wk_in hG.1 c2 hu h3 k
      obtain ⟨z0, z1, z2, z3⟩ := wk_X0 c2 xl x9 w1 w2
      have hl := ou_uc_lt w1
      have hin : vp_in (nI (wk P (ou_cf P f x) k)) 720 := vp_in_nI hl (by decide)
      refine ⟨hin, ?_⟩
      rw [nI_clamp (by omega), z0]
      rcases wk_3 (P := P) (wk P (ou_cf P f x) k) with q | q | q
      · refine br_f (z1 q) ⟨hin, g1 _ ?_⟩
        unfold el_c; rw [if_neg (by omega), if_neg (by omega)]
      · refine br_t (z2 q).1 ⟨hin, br_t (z2 q).2 (g0 ?_)⟩
        unfold el_c; rw [if_neg (by omega), if_pos q]
      · refine br_t (z3 q).1 ⟨hin, br_f (z3 q).2.1 ((z3 q).2.2 0 (by decide) _ ?_)⟩
        obtain ⟨o, _, _, _, _, _, _, j2, j3, _⟩ := wk_2 hG.1 c2 w2 q
        have pu := (wk_p hG.1 c2 j2 j3).1
        have pl2 := ou_uc_lt pu
        show vp_in (nI (ou_ps P 2 (wk_j P (wk P (ou_cf P f x) k)))) 720 ∧ _
        have e20 : ou_ps P (2 + 0) (wk_j P (wk P (ou_cf P f x) k)) = ou_ps P 2 (wk_j P (wk P (ou_cf P f x) k)) := rfl
        rw [e20]
        refine ⟨vp_in_nI pl2 (by decide), ?_⟩
        rw [nI_clamp (by omega), sl_k2 hG.1 pu x9]
        exact g1 _ (by unfold el_c; rw [if_pos q])
    · exact br_f b (h0 (Or.inr (Or.inr (Int32.not_le.mp b))))
-- Y's element
theorem el_Y {f_width f_length f_place f_toks f_nodes f_defs a_text a_tok a_tokNum a_tokPlace a_opened a_nOp a_nNum a_nPlace a_nA a_nB a_nC a_nLo a_nHi a_nLevel a_defName a_defPlace a_defRoot a_loaded a_count a_status a_number a_origin a_choice a_slotF a_slotX a_slotHeld : _} (hG : rl_G P L tx sl) (hY : rl_Y P L tx pl sl g (f_width, f_length, f_place, f_toks, f_nodes, f_defs, a_text, a_tok, a_tokNum, a_tokPlace, a_opened, a_nOp, a_nNum, a_nPlace, a_nA, a_nB, a_nC, a_nLo, a_nHi, a_nLevel, a_defName, a_defPlace, a_defRoot, a_loaded, a_count, a_status, a_number, a_origin, a_choice, a_slotF, a_slotX, a_slotHeld)) (hkk : ∀ f, f < 5 → 0 < P 5 f → ∃ r, ki_r (rl_V P) 243 f r) {p q t : Int32} {post : Int32 → SY → Prop}
    (h0 : el_l P p q none ∨ t < 0 ∨ 31 < t → ∀ ch, post (-1) (f_width, f_length, f_place, f_toks, f_nodes, f_defs, a_text, a_tok, a_tokNum, a_tokPlace, a_opened, a_nOp, a_nNum, a_nPlace, a_nA, a_nB, a_nC, a_nLo, a_nHi, a_nLevel, a_defName, a_defPlace, a_defRoot, a_loaded, a_count, a_status, a_number, a_origin, ch, a_slotF, a_slotX, a_slotHeld))
    (h1 : ∀ f x k, el_l P p q (some (f, x)) → t = nI k → k ≤ 31 → ∀ ch, (el_c P (ou_cf P f x) k = none → post (-2) (f_width, f_length, f_place, f_toks, f_nodes, f_defs, a_text, a_tok, a_tokNum, a_tokPlace, a_opened, a_nOp, a_nNum, a_nPlace, a_nA, a_nB, a_nC, a_nLo, a_nHi, a_nLevel, a_defName, a_defPlace, a_defRoot, a_loaded, a_count, a_status, a_number, a_origin, ch, a_slotF, a_slotX, a_slotHeld)) ∧ (∀ d, ou_uc P d → el_c P (ou_cf P f x) k = some (rl_gc g d) → post (nI d) (f_width, f_length, f_place, f_toks, f_nodes, f_defs, a_text, a_tok, a_tokNum, a_tokPlace, a_opened, a_nOp, a_nNum, a_nPlace, a_nA, a_nB, a_nC, a_nLo, a_nHi, a_nLevel, a_defName, a_defPlace, a_defRoot, a_loaded, a_count, a_status, a_number, a_origin, ch, a_slotF, a_slotX, a_slotHeld))) : wpY_element post (f_width, f_length, f_place, f_toks, f_nodes, f_defs, a_text, a_tok, a_tokNum, a_tokPlace, a_opened, a_nOp, a_nNum, a_nPlace, a_nA, a_nB, a_nC, a_nLo, a_nHi, a_nLevel, a_defName, a_defPlace, a_defRoot, a_loaded, a_count, a_status, a_number, a_origin, a_choice, a_slotF, a_slotX, a_slotHeld) p q t := by
  have hY0 := hY
  have yl := qu_yl hG hY
  obtain ⟨y1, y2, y3, y4, y5, y6, y7, y8, y9, y10⟩ := hY
  unfold wpY_element
  refine sl_Yl hG hY0 (fun hd => br_t rfl (h0 (Or.inl (Or.inl ⟨rfl, Or.inl hd⟩)) a_choice)) (fun f x hd => ?_)
  obtain ⟨f5, rfl, fs, fx, rfl⟩ := sl_cs hG.1.2.1 hd
  obtain ⟨c0, c1, c2⟩ := hG.2.1
  have hu := sl_cfl hG.1 f5 fs fx
  have n0 : sl_k P (ou_cf P f x) ≠ 0 := by
    unfold sl_k
    cases hE : ou_E P (ou_cf P f x) with
    | none => decide
    | some o =>
      have t := ru_t (T := ou_E P) hG.1 c2 (fun d p q => ou_E_s.mp q) hE
      have l : 0 < o.1 ∧ o.1 < 6 := by
        rcases t with t | t
        · have := t.1; omega
        · have := t.1; omega
      exact nI_ne0 l.1 (by omega)
  refine br_f n0 ?_
  by_cases a : t < 0
  · exact br_t a (h0 (Or.inr (Or.inl a)) a_choice)
  · refine br_f a ?_
    by_cases b : 31 < t
    · exact br_t b (h0 (Or.inr (Or.inr b)) a_choice)
    · refine br_f b ?_
      have hh : ∃ k, k ≤ 31 ∧ t = nI k := by
        rcases pk_ix t (n := 32) (by decide) with w | w | ⟨j, hj, e⟩
        · exact absurd w a
        · have : (32 : Int32) ≤ 31 := Int32.le_trans w (Int32.not_lt.mp b)
          exact absurd this (by decide)
        · exact ⟨j, by omega, e⟩
      obtain ⟨k, k31, rfl⟩ := hh
      obtain ⟨r, hr⟩ := hkk f f5 fs
      refine kd_Y yl f5 fs hr (fun ch => ?_)
      have r3 := fk_3 hr
      refine pk_eq r 3 (fun c => ?_) (fun c => h0 (Or.inl (Or.inl ⟨rfl, Or.inr ⟨f, x, r, hd, hr, c⟩⟩)) ch)
      subst c
      have el : el_l P (nI f) (nI x) (some (f, x)) := Or.inr ⟨f, x, rfl, hd, hr⟩
      have h3 := qu_k3 hG.1 f5 fs fx hr rfl c1 c2
      obtain ⟨g0, g1⟩ := h1 f x k el rfl k31 ch
      obtain ⟨gy, ud⟩ := sl_gy hG.1 y8 f5 fs fx
      refine wk_Y c2 yl y9 ud (by rw [gy]; exact h3) (by omega) (fun d hd2 he => ?_)
      rw [gy] at he
      obtain ⟨w1, w2⟩ := wk_in hG.1 c2 hu h3 k
      rw [← he] at w1 w2
      obtain ⟨z1, z2, z3⟩ := wk_Y0 c2 yl y9 hd2 w2
      have hl := ou_uc_lt hd2
      have hin : vp_in (nI d) 720 := vp_in_nI hl (by decide)
      refine ⟨hin, ?_⟩
      rw [nI_clamp (by omega)]
      rcases wk_3 (P := P) (rl_gc g d) with q | q | q
      · refine br_f (z1 q) (g1 d hd2 ?_)
        unfold el_c; rw [← he, if_neg (by omega), if_neg (by omega)]
      · refine br_t (z2 q).1 ⟨hin, br_t (z2 q).2 (g0 ?_)⟩
        unfold el_c; rw [← he, if_neg (by omega), if_pos q]
      · obtain ⟨s1, s2, p, a, b, e1, e2, e3, e4, e5, e6, e7, e8⟩ := z3 q
        refine br_t s1 ⟨hin, br_f (by rw [s2]; decide) ⟨hin, by decide, ?_⟩⟩
        rw [e1]
        have ed : nI p / 6 = nI (p / 6) := pk_div (d := 6) (by omega) (by decide) (by decide)
        have er : nI p - nI p / 6 * 6 = nI (p % 6) := pk_rem (d := 6) (by omega) (by decide) (by decide)
        rw [er, ed]
        refine ⟨vp_in_nI (by omega) (by decide), hin, by decide, ?_⟩
        rw [nI_clamp (by omega), e3, st_x]
        refine g1 _ e5 ?_
        unfold el_c; rw [← he, if_pos q, e7]
end
theorem i_vc_item {k : Nat} {u : SX} {v : SY} (I : i_Rel k u v) (hk : k + 4 ≤ 2049) (v1 : Int32) (v2 : Int32) (v3 : Int32) : wpX_item (fun r => wpY_item (fun r' v' => r' = r ∧ i_Rel (k + 4) u v') v v1 v2 v3) u v1 v2 v3 := by
  have I0 := I
  obtain ⟨P, L, tx, pl, sl, g, hG, hX, hY⟩ := I
  have hX0 := hX
  have hY0 := hY
  obtain ⟨f_width, f_textLength, f_foundPlace, f_tokenCount, f_frameCount, f_operandCount, f_defCount, f_nodeEnd, a_text, a_tokenCode, a_tokenPlace, a_frameCode, a_framePlace, a_operand, a_defPlace, a_defFirst, a_defEnd, a_nodeOp, a_nodeNumber, a_nodePlace, a_nodeDepth, a_nodeKind, a_part, a_size, a_kindFound, a_choice, a_status, a_result, a_slotFunction, a_slotArgument⟩ := u
  obtain ⟨f_width2, f_length2, f_place2, f_toks2, f_nodes2, f_defs2, a_text2, a_tok2, a_tokNum2, a_tokPlace2, a_opened2, a_nOp2, a_nNum2, a_nPlace2, a_nA2, a_nB2, a_nC2, a_nLo2, a_nHi2, a_nLevel2, a_defName2, a_defPlace2, a_defRoot2, a_loaded2, a_count2, a_status2, a_number2, a_origin2, a_choice2, a_slotF2, a_slotX2, a_slotHeld2⟩ := v
  obtain ⟨x1, x2, x3, x4, x5, x6, x7, x8, x9, x10⟩ := hX
  obtain ⟨y1, y2, y3, y4, y5, y6, y7, y8, y9, y10⟩ := hY
  have hkk : ∀ f, f < 5 → 0 < P 5 f → ∃ r, ki_r (rl_V P) 243 f r := fun f hf hs => by obtain ⟨r, _, hr⟩ := x8 f hf hs; exact ⟨r, hr⟩
  have rel : ∀ ch, i_Rel (k + 4) (f_width, f_textLength, f_foundPlace, f_tokenCount, f_frameCount, f_operandCount, f_defCount, f_nodeEnd, a_text, a_tokenCode, a_tokenPlace, a_frameCode, a_framePlace, a_operand, a_defPlace, a_defFirst, a_defEnd, a_nodeOp, a_nodeNumber, a_nodePlace, a_nodeDepth, a_nodeKind, a_part, a_size, a_kindFound, a_choice, a_status, a_result, a_slotFunction, a_slotArgument) (f_width2, f_length2, f_place2, f_toks2, f_nodes2, f_defs2, a_text2, a_tok2, a_tokNum2, a_tokPlace2, a_opened2, a_nOp2, a_nNum2, a_nPlace2, a_nA2, a_nB2, a_nC2, a_nLo2, a_nHi2, a_nLevel2, a_defName2, a_defPlace2, a_defRoot2, a_loaded2, a_count2, a_status2, a_number2, a_origin2, ch, a_slotF2, a_slotX2, a_slotHeld2) := fun ch => ⟨P, L, tx, pl, sl, g, hG, hX0, ⟨y1, y2, y3, y4, y5, y6, y7, y8, y9, y10⟩⟩
  have yl := qu_yl hG hY0
  obtain ⟨c0, c1, c2⟩ := hG.2.1
  have n31 : ∀ j, j ≤ 31 → ¬ (nI j < 0 ∨ (31 : Int32) < nI j) := fun j hj q => q.elim (nI_pos (by omega)) (fun w => nI_nlt (a := 31) hj (by omega) w)
  refine el_Xi hG hX0 (fun h => ?_) (fun f x j el ej j31 => ⟨fun hn => ?_, fun d hd => ?_⟩)
  · unfold wpY_item
    refine el_Y hG hY0 hkk (fun _ ch => br_t rfl ⟨rfl, rel ch⟩) (fun f x j el ej j31 => ?_)
    subst ej
    rcases h with h | h
    · exact absurd (el_u h el) (by simp)
    · exact absurd h (n31 j j31)
  · unfold wpY_item
    subst ej
    refine el_Y hG hY0 hkk (fun h ch => ?_) (fun f2 x2 j2 el2 ej2 j31 ch => ⟨fun _ => br_f (by decide) (br_t rfl ⟨rfl, rel ch⟩), fun d hd he => ?_⟩)
    · rcases h with h | h
      · exact absurd (el_u h el) (by simp)
      · exact absurd h (n31 j j31)
    · obtain ⟨rfl, rfl⟩ := Prod.mk.inj (Option.some.inj (el_u el el2))
      have := (nI_eq (by omega) (by omega)).mp ej2
      subst this
      rw [hn] at he; exact absurd he (by simp)
  · unfold wpY_item
    subst ej
    refine el_Y hG hY0 hkk (fun h ch => ?_) (fun f2 x2 j2 el2 ej2 j31 ch => ⟨fun hn => ?_, fun d2 hd2 he => ?_⟩)
    · rcases h with h | h
      · exact absurd (el_u h el) (by simp)
      · exact absurd h (n31 j j31)
    · obtain ⟨rfl, rfl⟩ := Prod.mk.inj (Option.some.inj (el_u el el2))
      have := (nI_eq (by omega) (by omega)).mp ej2
      subst this
      rw [hd] at hn; exact absurd hn (by simp)
    · obtain ⟨rfl, rfl⟩ := Prod.mk.inj (Option.some.inj (el_u el el2))
      have := (nI_eq (by omega) (by omega)).mp ej2
      subst this
      rw [hd] at he
      have := Option.some.inj he
      subst this
      have dl := ou_uc_lt hd2
      have nn : ¬ nI d2 < 0 := nI_pos (by omega)
      refine br_f (fun q => nn (by rw [q]; decide)) (br_f (fun q => nn (by rw [q]; decide)) (to_Y c2 yl y9 hd2 ⟨rfl, rel ch⟩))
theorem i_vc_itemValue {k : Nat} {u : SX} {v : SY} (I : i_Rel k u v) (hk : k + 4 ≤ 2049) (v1 : Int32) (v2 : Int32) (v3 : Int32) : wpX_itemValue (fun r => wpY_itemValue (fun r' v' => r' = r ∧ i_Rel (k + 4) u v') v v1 v2 v3) u v1 v2 v3 := by
  have I0 := I
  obtain ⟨P, L, tx, pl, sl, g, hG, hX, hY⟩ := I
  have hX0 := hX
  have hY0 := hY
  obtain ⟨f_width, f_textLength, f_foundPlace, f_tokenCount, f_frameCount, f_operandCount, f_defCount, f_nodeEnd, a_text, a_tokenCode, a_tokenPlace, a_frameCode, a_framePlace, a_operand, a_defPlace, a_defFirst, a_defEnd, a_nodeOp, a_nodeNumber, a_nodePlace, a_nodeDepth, a_nodeKind, a_part, a_size, a_kindFound, a_choice, a_status, a_result, a_slotFunction, a_slotArgument⟩ := u
  obtain ⟨f_width2, f_length2, f_place2, f_toks2, f_nodes2, f_defs2, a_text2, a_tok2, a_tokNum2, a_tokPlace2, a_opened2, a_nOp2, a_nNum2, a_nPlace2, a_nA2, a_nB2, a_nC2, a_nLo2, a_nHi2, a_nLevel2, a_defName2, a_defPlace2, a_defRoot2, a_loaded2, a_count2, a_status2, a_number2, a_origin2, a_choice2, a_slotF2, a_slotX2, a_slotHeld2⟩ := v
  obtain ⟨x1, x2, x3, x4, x5, x6, x7, x8, x9, x10⟩ := hX
  obtain ⟨y1, y2, y3, y4, y5, y6, y7, y8, y9, y10⟩ := hY
  have hkk : ∀ f, f < 5 → 0 < P 5 f → ∃ r, ki_r (rl_V P) 243 f r := fun f hf hs => by obtain ⟨r, _, hr⟩ := x8 f hf hs; exact ⟨r, hr⟩
  have rel : ∀ ch, i_Rel (k + 4) (f_width, f_textLength, f_foundPlace, f_tokenCount, f_frameCount, f_operandCount, f_defCount, f_nodeEnd, a_text, a_tokenCode, a_tokenPlace, a_frameCode, a_framePlace, a_operand, a_defPlace, a_defFirst, a_defEnd, a_nodeOp, a_nodeNumber, a_nodePlace, a_nodeDepth, a_nodeKind, a_part, a_size, a_kindFound, a_choice, a_status, a_result, a_slotFunction, a_slotArgument) (f_width2, f_length2, f_place2, f_toks2, f_nodes2, f_defs2, a_text2, a_tok2, a_tokNum2, a_tokPlace2, a_opened2, a_nOp2, a_nNum2, a_nPlace2, a_nA2, a_nB2, a_nC2, a_nLo2, a_nHi2, a_nLevel2, a_defName2, a_defPlace2, a_defRoot2, a_loaded2, a_count2, a_status2, a_number2, a_origin2, ch, a_slotF2, a_slotX2, a_slotHeld2) := fun ch => ⟨P, L, tx, pl, sl, g, hG, hX0, ⟨y1, y2, y3, y4, y5, y6, y7, y8, y9, y10⟩⟩
  have yl := qu_yl hG hY0
  have xl := qu_xl hG hX0
  have n31 : ∀ j, j ≤ 31 → ¬ (nI j < 0 ∨ (31 : Int32) < nI j) := fun j hj q => q.elim (nI_pos (by omega)) (fun w => nI_nlt (a := 31) hj (by omega) w)
  -- Y at an item
  have yy : ∀ f x j (r : Int64), el_l P v1 v2 (some (f, x)) → v3 = nI j → j ≤ 31 → (el_c P (ou_cf P f x) j = none → r = 0) → (∀ d2, ou_uc P d2 → el_c P (ou_cf P f x) j = some (rl_gc g d2) → (a_status2 d2 = 1 → a_number2 d2 = r) ∧ (a_status2 d2 ≠ 1 → r = 0)) →
      wpY_itemValue (fun r' v' => r' = r ∧ i_Rel (k + 4) (f_width, f_textLength, f_foundPlace, f_tokenCount, f_frameCount, f_operandCount, f_defCount, f_nodeEnd, a_text, a_tokenCode, a_tokenPlace, a_frameCode, a_framePlace, a_operand, a_defPlace, a_defFirst, a_defEnd, a_nodeOp, a_nodeNumber, a_nodePlace, a_nodeDepth, a_nodeKind, a_part, a_size, a_kindFound, a_choice, a_status, a_result, a_slotFunction, a_slotArgument) v') (f_width2, f_length2, f_place2, f_toks2, f_nodes2, f_defs2, a_text2, a_tok2, a_tokNum2, a_tokPlace2, a_opened2, a_nOp2, a_nNum2, a_nPlace2, a_nA2, a_nB2, a_nC2, a_nLo2, a_nHi2, a_nLevel2, a_defName2, a_defPlace2, a_defRoot2, a_loaded2, a_count2, a_status2, a_number2, a_origin2, a_choice2, a_slotF2, a_slotX2, a_slotHeld2) v1 v2 v3 := by
    intro f x j r el ej j31 a b
    subst ej
    unfold wpY_itemValue
    refine el_Y hG hY0 hkk (fun h ch => ?_) (fun f2 x2 j2 el2 ej2 j32 ch => ⟨fun hn => ?_, fun d2 hd2 he => ?_⟩)
    · rcases h with h | h
      · exact absurd (el_u h el) (by simp)
      · exact absurd h (n31 j j31)
    · obtain ⟨rfl, rfl⟩ := Prod.mk.inj (Option.some.inj (el_u el el2))
      have := (nI_eq (by omega) (by omega)).mp ej2
      subst this
      exact br_t (by decide) ⟨(a hn).symm, rel ch⟩
    · obtain ⟨rfl, rfl⟩ := Prod.mk.inj (Option.some.inj (el_u el el2))
      have := (nI_eq (by omega) (by omega)).mp ej2
      subst this
      have dl := ou_uc_lt hd2
      have hin : vp_in (nI d2) 720 := vp_in_nI dl (by decide)
      refine br_f (nI_pos (by omega)) ⟨hin, ?_⟩
      rw [nI_clamp (by omega)]
      obtain ⟨b1, b2⟩ := b d2 hd2 he
      by_cases z : a_status2 d2 = 1
      · exact br_t z ⟨hin, b1 z, rel ch⟩
      · exact br_f z ⟨(b2 z).symm, rel ch⟩
  -- Y's status is 1 where X's is
  have ys : ∀ d2, ou_uc P d2 → (a_status2 d2 = 1 ↔ sl_k P (rl_gc g d2) = 1) := by
    intro d2 hd2
    obtain ⟨t0, t1⟩ := y9 d2 hd2
    unfold sl_k
    cases hE : ou_E P (rl_gc g d2) with
    | none => rw [t0 hE]; exact ⟨fun q => absurd q (by decide), fun q => absurd q (by decide)⟩
    | some o => rw [(t1 o hE).1]
  unfold wpX_itemValue
  refine el_Xi hG hX0 (fun h => br_f (by decide) ?_) (fun f x j el ej j31 => ⟨fun hn => br_f (by decide) ?_, fun d hd => ?_⟩)
  · unfold wpY_itemValue
    refine el_Y hG hY0 hkk (fun _ ch => br_t (by decide) ⟨rfl, rel ch⟩) (fun f x j el ej j31 => ?_)
    subst ej
    rcases h with h | h
    · exact absurd (el_u h el) (by simp)
    · exact absurd h (n31 j j31)
  · exact yy f x j 0 el ej j31 (fun _ => rfl) (fun d2 hd2 he => by rw [hn] at he; exact absurd he (by simp))
  · by_cases z : sl_k P d = 1
    · refine br_t z ?_
      have ej0 := ej
      subst ej
      refine el_Xp hG hX0 el (by omega) ?_
      obtain ⟨f5, e1, fs, fx, e2, hc, hr, c0, c1, c2, hu, h3⟩ := el_w hG el
      obtain ⟨w1, w2⟩ := wk_in hG.1 c2 hu h3 j
      obtain ⟨z0, z1, z2, z3⟩ := wk_X0 c2 xl x9 w1 w2
      rcases wk_3 (P := P) (wk P (ou_cf P f x) j) with q | q | q
      · unfold el_c at hd
        rw [if_neg (by omega), if_neg (by omega)] at hd
        have := Option.some.inj hd
        subst this
        exact absurd z (z1 q)
      · unfold el_c at hd
        rw [if_neg (by omega), if_pos q] at hd
        exact absurd hd (by simp)
      · have hd0 := hd
        unfold el_c at hd
        rw [if_pos q] at hd
        have ed := Option.some.inj hd
        refine (z3 q).2.2 0 (by decide) _ ?_
        obtain ⟨o, _, _, _, _, _, _, j2, j3, _⟩ := wk_2 hG.1 c2 w2 q
        obtain ⟨pu, pk1, _⟩ := wk_p hG.1 c2 j2 j3
        have pl2 := ou_uc_lt pu
        show vp_in (nI (ou_ps P 2 (wk_j P (wk P (ou_cf P f x) j)))) 720 ∧ _
        rw [ed] at pu pk1 pl2 ⊢
        refine ⟨vp_in_nI pl2 (by decide), ?_⟩
        rw [nI_clamp (by omega)]
        refine yy f x j _ el rfl j31 (fun n => by rw [hd0] at n; exact absurd n (by simp)) (fun d2 hd2 he => ?_)
        rw [hd0] at he
        have he := Option.some.inj he
        subst he
        refine ⟨fun s => ?_, fun s => absurd ((ys d2 hd2).mpr z) s⟩
        unfold sl_k at z
        cases hE : ou_E P (rl_gc g d2) with
        | none => rw [hE] at z; exact absurd z (by decide)
        | some o2 =>
          rw [hE] at z
          have t := ru_t (T := ou_E P) hG.1 c2 (fun d p q => ou_E_s.mp q) hE
          have l : o2.1 < 6 := by
            rcases t with t | t
            · have := t.1; omega
            · have := t.1; omega
          have o1 := (nI_eq (a := o2.1) (b := 1) (by omega) (by decide)).mp z
          have tag : o2.2.1 = 1 := by
            rcases t with ⟨_, t2, _⟩ | t
            · rw [t2]; exact pk1
            · have := t.1; omega
          rw [(((y9 d2 hd2).2 o2 hE).2 o1).1 (by omega), ((x9 _ pu).2 o2 hE).2 o1]
    · refine br_f z (yy f x j 0 el ej j31 (fun _ => rfl) (fun d2 hd2 he => ⟨fun s => ?_, fun _ => rfl⟩))
      rw [hd] at he
      have he := Option.some.inj he
      subst he
      exact absurd ((ys d2 hd2).mp s) z
-- length
noncomputable def le_n (P : Nat → Nat → Nat) (c : Nat) : Nat → Nat → Int32
  | 0, _ => -1
  | r + 1, i => if wk_c P (wk P c i) = 0 then -1 else if wk_c P (wk P c i) = 1 then nI i else le_n P c r (i + 1)
theorem i_vc_length {k : Nat} {u : SX} {v : SY} (I : i_Rel k u v) (hk : k + 4 ≤ 2049) (v1 : Int32) (v2 : Int32) : wpX_length (fun r => wpY_length (fun r' v' => r' = r ∧ i_Rel (k + 4) u v') v v1 v2) u v1 v2 := by
  have I0 := I
  obtain ⟨P, L, tx, pl, sl, g, hG, hX, hY⟩ := I
  have hX0 := hX
  have hY0 := hY
  obtain ⟨f_width, f_textLength, f_foundPlace, f_tokenCount, f_frameCount, f_operandCount, f_defCount, f_nodeEnd, a_text, a_tokenCode, a_tokenPlace, a_frameCode, a_framePlace, a_operand, a_defPlace, a_defFirst, a_defEnd, a_nodeOp, a_nodeNumber, a_nodePlace, a_nodeDepth, a_nodeKind, a_part, a_size, a_kindFound, a_choice, a_status, a_result, a_slotFunction, a_slotArgument⟩ := u
  obtain ⟨f_width2, f_length2, f_place2, f_toks2, f_nodes2, f_defs2, a_text2, a_tok2, a_tokNum2, a_tokPlace2, a_opened2, a_nOp2, a_nNum2, a_nPlace2, a_nA2, a_nB2, a_nC2, a_nLo2, a_nHi2, a_nLevel2, a_defName2, a_defPlace2, a_defRoot2, a_loaded2, a_count2, a_status2, a_number2, a_origin2, a_choice2, a_slotF2, a_slotX2, a_slotHeld2⟩ := v
  obtain ⟨x1, x2, x3, x4, x5, x6, x7, x8, x9, x10⟩ := hX
  obtain ⟨y1, y2, y3, y4, y5, y6, y7, y8, y9, y10⟩ := hY
  have rel : ∀ ch, i_Rel (k + 4) (f_width, f_textLength, f_foundPlace, f_tokenCount, f_frameCount, f_operandCount, f_defCount, f_nodeEnd, a_text, a_tokenCode, a_tokenPlace, a_frameCode, a_framePlace, a_operand, a_defPlace, a_defFirst, a_defEnd, a_nodeOp, a_nodeNumber, a_nodePlace, a_nodeDepth, a_nodeKind, a_part, a_size, a_kindFound, a_choice, a_status, a_result, a_slotFunction, a_slotArgument) (f_width2, f_length2, f_place2, f_toks2, f_nodes2, f_defs2, a_text2, a_tok2, a_tokNum2, a_tokPlace2, a_opened2, a_nOp2, a_nNum2, a_nPlace2, a_nA2, a_nB2, a_nC2, a_nLo2, a_nHi2, a_nLevel2, a_defName2, a_defPlace2, a_defRoot2, a_loaded2, a_count2, a_status2, a_number2, a_origin2, ch, a_slotF2, a_slotX2, a_slotHeld2) := fun ch => ⟨P, L, tx, pl, sl, g, hG, hX0, ⟨y1, y2, y3, y4, y5, y6, y7, y8, y9, y10⟩⟩
  have yl := qu_yl hG hY0
  have xl := qu_xl hG hX0
  obtain ⟨c0, c1, c2⟩ := hG.2.1
  -- Y
  have yy : ∀ r : Int32, (el_l P v1 v2 none → r = -2) → (∀ f x, el_l P v1 v2 (some (f, x)) → r = le_n P (ou_cf P f x) 41 0) → wpY_length (fun r' v' => r' = r ∧ i_Rel (k + 4) (f_width, f_textLength, f_foundPlace, f_tokenCount, f_frameCount, f_operandCount, f_defCount, f_nodeEnd, a_text, a_tokenCode, a_tokenPlace, a_frameCode, a_framePlace, a_operand, a_defPlace, a_defFirst, a_defEnd, a_nodeOp, a_nodeNumber, a_nodePlace, a_nodeDepth, a_nodeKind, a_part, a_size, a_kindFound, a_choice, a_status, a_result, a_slotFunction, a_slotArgument) v') (f_width2, f_length2, f_place2, f_toks2, f_nodes2, f_defs2, a_text2, a_tok2, a_tokNum2, a_tokPlace2, a_opened2, a_nOp2, a_nNum2, a_nPlace2, a_nA2, a_nB2, a_nC2, a_nLo2, a_nHi2, a_nLevel2, a_defName2, a_defPlace2, a_defRoot2, a_loaded2, a_count2, a_status2, a_number2, a_origin2, a_choice2, a_slotF2, a_slotX2, a_slotHeld2) v1 v2 := by
    intro r a b
    unfold wpY_length
    refine sl_Yl hG hY0 (fun hd => br_t rfl ⟨(a (Or.inl ⟨rfl, Or.inl hd⟩)).symm, rel _⟩) (fun f x hd => ?_)
    obtain ⟨f5, rfl, fs, fx, rfl⟩ := sl_cs hG.1.2.1 hd
    have hu := sl_cfl hG.1 f5 fs fx
    have n0 : sl_k P (ou_cf P f x) ≠ 0 := by
      unfold sl_k
      cases hE : ou_E P (ou_cf P f x) with
      | none => decide
      | some o =>
        have t := ru_t (T := ou_E P) hG.1 c2 (fun d p q => ou_E_s.mp q) hE
        have l : 0 < o.1 ∧ o.1 < 6 := by
          rcases t with t | t
          · have := t.1; omega
          · have := t.1; omega
        exact nI_ne0 l.1 (by omega)
    obtain ⟨q, _, hr⟩ := x8 f f5 fs
    refine br_f n0 (kd_Y yl f5 fs hr (fun ch => ?_))
    have r3 := fk_3 hr
    refine pk_eq q 3 (fun c => ?_) (fun c => ⟨(a (Or.inl ⟨rfl, Or.inr ⟨f, x, q, hd, hr, c⟩⟩)).symm, rel ch⟩)
    subst c
    have hb := b f x (Or.inr ⟨f, x, rfl, hd, hr⟩)
    have h3 := qu_k3 hG.1 f5 fs fx hr rfl c1 c2
    obtain ⟨gy, ud⟩ := sl_gy hG.1 y8 f5 fs fx
    have key : ∀ m i, i + m = 41 → r = le_n P (ou_cf P f x) m i → ∀ n, m < n → wY_length_23 (fun r' v' => r' = r ∧ i_Rel (k + 4) (f_width, f_textLength, f_foundPlace, f_tokenCount, f_frameCount, f_operandCount, f_defCount, f_nodeEnd, a_text, a_tokenCode, a_tokenPlace, a_frameCode, a_framePlace, a_operand, a_defPlace, a_defFirst, a_defEnd, a_nodeOp, a_nodeNumber, a_nodePlace, a_nodeDepth, a_nodeKind, a_part, a_size, a_kindFound, a_choice, a_status, a_result, a_slotFunction, a_slotArgument) v') (nI f) (nI x) f_width2 f_length2 f_place2 f_toks2 f_nodes2 f_defs2 a_text2 a_tok2 a_tokNum2 a_tokPlace2 a_opened2 a_nOp2 a_nNum2 a_nPlace2 a_nA2 a_nB2 a_nC2 a_nLo2 a_nHi2 a_nLevel2 a_defName2 a_defPlace2 a_defRoot2 a_loaded2 a_count2 a_status2 a_number2 a_origin2 ch a_slotF2 a_slotX2 a_slotHeld2 n (nI i) := by
      intro m
      induction m with
      | zero =>
        intro i hi he n hn
        obtain ⟨n, rfl⟩ : ∃ m, n = m + 1 := ⟨n - 1, by omega⟩
        have ei : i = 41 := by omega
        subst ei
        exact br_t (by decide) ⟨he.symm, rel ch⟩
      | succ m ih =>
        intro i hi he n hn
        obtain ⟨n, rfl⟩ : ∃ m, n = m + 1 := ⟨n - 1, by omega⟩
        refine br_f (nI_nlt (a := 40) (by omega) (by omega)) ?_
        refine wk_Y c2 yl y9 ud (by rw [gy]; exact h3) (by omega) (fun d hd2 hw => ?_)
        rw [gy] at hw
        obtain ⟨w1, w2⟩ := wk_in hG.1 c2 hu h3 i
        rw [← hw] at w1 w2
        obtain ⟨z1, z2, z3⟩ := wk_Y0 c2 yl y9 hd2 w2
        have hl := ou_uc_lt hd2
        have hin : vp_in (nI d) 720 := vp_in_nI hl (by decide)
        refine ⟨hin, ?_⟩
        rw [nI_clamp (by omega)]
        unfold le_n at he
        rw [← hw] at he
        rcases wk_3 (P := P) (rl_gc g d) with q | q | q
        · rw [if_pos q] at he
          exact br_f (z1 q) ⟨he.symm, rel ch⟩
        · rw [if_neg (by omega), if_pos q] at he
          exact br_t (z2 q).1 ⟨hin, br_t (z2 q).2 ⟨he.symm, rel ch⟩⟩
        · rw [if_neg (by omega), if_neg (by omega)] at he
          refine br_t (z3 q).1 ⟨hin, br_f (by rw [(z3 q).2.1]; decide) (fun y ey => ?_)⟩
          rw [ey, nI_1]
          exact ih (i + 1) (by omega) he n (by omega)
    exact ⟨_, key 41 0 (by omega) hb _ (Nat.lt_succ_self _)⟩
  unfold wpX_length
  refine el_X hG hX0 (fun h => br_t rfl (yy (-2) (fun _ => rfl) (fun f x h2 => absurd (el_u h h2) (by simp)))) (fun f x el => bq_1 ?_)
  have yz : wpY_length (fun r' v' => r' = le_n P (ou_cf P f x) 41 0 ∧ i_Rel (k + 4) (f_width, f_textLength, f_foundPlace, f_tokenCount, f_frameCount, f_operandCount, f_defCount, f_nodeEnd, a_text, a_tokenCode, a_tokenPlace, a_frameCode, a_framePlace, a_operand, a_defPlace, a_defFirst, a_defEnd, a_nodeOp, a_nodeNumber, a_nodePlace, a_nodeDepth, a_nodeKind, a_part, a_size, a_kindFound, a_choice, a_status, a_result, a_slotFunction, a_slotArgument) v') (f_width2, f_length2, f_place2, f_toks2, f_nodes2, f_defs2, a_text2, a_tok2, a_tokNum2, a_tokPlace2, a_opened2, a_nOp2, a_nNum2, a_nPlace2, a_nA2, a_nB2, a_nC2, a_nLo2, a_nHi2, a_nLevel2, a_defName2, a_defPlace2, a_defRoot2, a_loaded2, a_count2, a_status2, a_number2, a_origin2, a_choice2, a_slotF2, a_slotX2, a_slotHeld2) v1 v2 := yy _ (fun h => absurd (el_u h el) (by simp)) (fun f2 x2 h2 => by
    obtain ⟨rfl, rfl⟩ := Prod.mk.inj (Option.some.inj (el_u el h2)); rfl)
  obtain ⟨f5, rfl, fs, fx, rfl, hc, hr, _, _, _, hu, _⟩ := el_w hG el
  have h3 := qu_k3 hG.1 f5 fs fx hr rfl c1 c2
  refine sl_Xf hG hX0 f5 fs ?_
  have key : ∀ m i (r : Int32), i + m = 41 → r = le_n P (ou_cf P f x) m i → wpY_length (fun r' v' => r' = r ∧ i_Rel (k + 4) (f_width, f_textLength, f_foundPlace, f_tokenCount, f_frameCount, f_operandCount, f_defCount, f_nodeEnd, a_text, a_tokenCode, a_tokenPlace, a_frameCode, a_framePlace, a_operand, a_defPlace, a_defFirst, a_defEnd, a_nodeOp, a_nodeNumber, a_nodePlace, a_nodeDepth, a_nodeKind, a_part, a_size, a_kindFound, a_choice, a_status, a_result, a_slotFunction, a_slotArgument) v') (f_width2, f_length2, f_place2, f_toks2, f_nodes2, f_defs2, a_text2, a_tok2, a_tokNum2, a_tokPlace2, a_opened2, a_nOp2, a_nNum2, a_nPlace2, a_nA2, a_nB2, a_nC2, a_nLo2, a_nHi2, a_nLevel2, a_defName2, a_defPlace2, a_defRoot2, a_loaded2, a_count2, a_status2, a_number2, a_origin2, a_choice2, a_slotF2, a_slotX2, a_slotHeld2) (nI f) (nI x) → ∀ n, m < n → wX_length_22 (fun r => wpY_length (fun r' v' => r' = r ∧ i_Rel (k + 4) (f_width, f_textLength, f_foundPlace, f_tokenCount, f_frameCount, f_operandCount, f_defCount, f_nodeEnd, a_text, a_tokenCode, a_tokenPlace, a_frameCode, a_framePlace, a_operand, a_defPlace, a_defFirst, a_defEnd, a_nodeOp, a_nodeNumber, a_nodePlace, a_nodeDepth, a_nodeKind, a_part, a_size, a_kindFound, a_choice, a_status, a_result, a_slotFunction, a_slotArgument) v') (f_width2, f_length2, f_place2, f_toks2, f_nodes2, f_defs2, a_text2, a_tok2, a_tokNum2, a_tokPlace2, a_opened2, a_nOp2, a_nNum2, a_nPlace2, a_nA2, a_nB2, a_nC2, a_nLo2, a_nHi2, a_nLevel2, a_defName2, a_defPlace2, a_defRoot2, a_loaded2, a_count2, a_status2, a_number2, a_origin2, a_choice2, a_slotF2, a_slotX2, a_slotHeld2) (nI f) (nI x)) f_width f_textLength f_foundPlace f_tokenCount f_frameCount f_operandCount f_defCount f_nodeEnd a_text a_tokenCode a_tokenPlace a_frameCode a_framePlace a_operand a_defPlace a_defFirst a_defEnd a_nodeOp a_nodeNumber a_nodePlace a_nodeDepth a_nodeKind a_part a_size a_kindFound a_choice a_status a_result a_slotFunction a_slotArgument n (nI (wk P (ou_cf P f x) i)) (nI i) := by
    intro m
    induction m with
    | zero =>
      intro i r hi he hy n hn
      obtain ⟨n, rfl⟩ : ∃ m, n = m + 1 := ⟨n - 1, by omega⟩
      have ei : i = 41 := by omega
      subst ei he
      exact br_t (by decide) hy
    | succ m ih =>
      intro i r hi he hy n hn
      obtain ⟨n, rfl⟩ : ∃ m, n = m + 1 := ⟨n - 1, by omega⟩
      obtain ⟨w1, w2⟩ := wk_in hG.1 c2 hu h3 i
      obtain ⟨z0, z1, z2, z3⟩ := wk_X0 c2 xl x9 w1 w2
      have hl := ou_uc_lt w1
      have hin : vp_in (nI (wk P (ou_cf P f x) i)) 720 := vp_in_nI hl (by decide)
      refine br_f (nI_nlt (a := 40) (by omega) (by omega)) ⟨hin, ?_⟩
      rw [nI_clamp (by omega), z0]
      unfold le_n at he
      rcases wk_3 (P := P) (wk P (ou_cf P f x) i) with q | q | q
      · rw [if_pos q] at he
        subst he
        exact br_f (z1 q) hy
      · rw [if_neg (by omega), if_pos q] at he
        subst he
        exact br_t (z2 q).1 ⟨hin, br_t (z2 q).2 hy⟩
      · rw [if_neg (by omega), if_neg (by omega)] at he
        refine br_t (z3 q).1 ⟨hin, br_f (z3 q).2.1 ((z3 q).2.2 1 (by decide) _ (fun y ey => ?_))⟩
        rw [ey, nI_1]
        have := ih (i + 1) r (by omega) he hy n (by omega)
        rw [wk_su q] at this
        exact this
  exact ⟨_, key 41 0 _ (by omega) rfl yz _ (Nat.lt_succ_self _)⟩
