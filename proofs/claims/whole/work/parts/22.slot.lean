-- slots and cells
def sl_p (sl : Nat → Option (Nat × Nat)) (p : Int32) : Option (Nat × Nat) := if p < 0 ∨ 3 ≤ p then none else sl p.toNatClampNeg
def sl_d (P : Nat → Nat → Nat) (p : Int32) : Option Nat := if p < 0 ∨ 5 ≤ p then none else if P 5 p.toNatClampNeg = 0 then none else some p.toNatClampNeg
def sl_c (P : Nat → Nat → Nat) (p q : Int32) : Option (Nat × Nat) := match sl_d P p with
  | none => none
  | some f => if q < 0 ∨ nI (P 6 0) ≤ q then none else some (f, q.toNatClampNeg)
noncomputable def sl_k (P : Nat → Nat → Nat) (c : Nat) : Int32 := match ou_E P c with
  | none => 2
  | some o => nI o.1
theorem sl_in {p : Int32} {n : Nat} (hn : n < 2 ^ 31) (h : ¬ (p < 0 ∨ nI n ≤ p)) : ∃ j, j < n ∧ p = nI j ∧ p.toNatClampNeg = j := by
  rcases pk_ix p hn with q | q | ⟨j, hj, e⟩
  · exact absurd (Or.inl q) h
  · exact absurd (Or.inr q) h
  · exact ⟨j, hj, e, by rw [e, nI_clamp (by omega)]⟩
theorem sl_p3 {sl : Nat → Option (Nat × Nat)} {p : Int32} (h : ¬ (p < 0 ∨ 3 ≤ p)) : ∃ s, s < 3 ∧ p = nI s ∧ sl_p sl p = sl s := by
  obtain ⟨s, hs, e, e2⟩ := sl_in (n := 3) (by decide) h
  exact ⟨s, hs, e, by unfold sl_p; rw [if_neg h, e2]⟩
theorem sl_ds {P : Nat → Nat → Nat} {p : Int32} {f : Nat} (h : sl_d P p = some f) : f < 5 ∧ p = nI f ∧ 0 < P 5 f := by
  unfold sl_d at h
  by_cases c : p < 0 ∨ 5 ≤ p
  · rw [if_pos c] at h; exact absurd h (by simp)
  · rw [if_neg c] at h
    obtain ⟨s, hs, e, e2⟩ := sl_in (n := 5) (by decide) c
    rw [e2] at h
    by_cases z : P 5 s = 0
    · rw [if_pos z] at h; exact absurd h (by simp)
    · rw [if_neg z] at h
      have := Option.some.inj h
      subst this
      exact ⟨hs, e, by omega⟩
theorem sl_cs {P : Nat → Nat → Nat} {p q : Int32} {f x : Nat} (hw : P 6 0 ≤ 6) (h : sl_c P p q = some (f, x)) : f < 5 ∧ p = nI f ∧ 0 < P 5 f ∧ x < P 6 0 ∧ q = nI x := by
  unfold sl_c at h
  cases hd : sl_d P p with
  | none => rw [hd] at h; exact absurd h (by simp)
  | some f2 =>
    rw [hd] at h
    dsimp only at h
    by_cases c : q < 0 ∨ nI (P 6 0) ≤ q
    · rw [if_pos c] at h; exact absurd h (by simp)
    · rw [if_neg c] at h
      obtain ⟨s, hs, e, e2⟩ := sl_in (n := P 6 0) (by omega) c
      rw [e2] at h
      simp at h
      obtain ⟨rfl, rfl⟩ := h
      obtain ⟨a, b, c⟩ := sl_ds hd
      exact ⟨a, b, c, hs, e⟩
theorem sl_m1 {f : Nat} (h : f < 2 ^ 31) : ¬ nI f = -1 := fun q => by
  have := congrArg Int32.toInt q
  rw [nI_toInt h] at this
  have e : (-1 : Int32).toInt = -1 := by decide
  omega
theorem sl_cfl {P : Nat → Nat → Nat} {f x : Nat} (hP : pg_ok P) (hf : f < 5) (hs : 0 < P 5 f) (hx : x < P 6 0) : ou_uc P (ou_cf P f x) := by
  have := hP.2.1
  exact ⟨by rw [ou_cf_d (by omega)]; exact pg_ru hP hf hs, by rw [ou_cf_m (by omega)]; exact hx⟩
theorem sl_gy {P : Nat → Nat → Nat} {g : Nat → Nat} {f x : Nat} (hP : pg_ok P) (hg : rl_g P g) (hf : f < 5) (hs : 0 < P 5 f) (hx : x < P 6 0) : rl_gc g (f * 144 + x) = ou_cf P f x ∧ ou_uc P (f * 144 + x) := by
  have hw := hP.2.1
  have e1 : (f * 144 + x) / 6 = f * 24 := by omega
  have e2 : (f * 144 + x) % 6 = x := by omega
  have e3 : f * 24 / 24 = f := by omega
  have e4 : f * 24 % 24 = 0 := by omega
  refine ⟨?_, ⟨?_, ?_⟩, ?_⟩
  · unfold rl_gc ou_cf; rw [e1, e2, hg.2.1 f hf hs]
  · rw [e1]; omega
  · rw [e1, e3, e4]; exact hs
  · rw [e2]; exact hx
section
variable {P : Nat → Nat → Nat} {L : Nat} {tx : Nat → Nat} {pl : Int32} {sl : Nat → Option (Nat × Nat)} {g : Nat → Nat} {u : SX} {v : SY}
theorem sl_Xt (hG : rl_G P L tx sl) (hX : rl_X P L tx pl sl u) {p : Int32} {post : Int32 → Prop} (h0 : sl_p sl p = none → post 0) (h1 : ∀ s f x, s < 3 → p = nI s → sl s = some (f, x) → sl_p sl p = some (f, x) → post 1) : wpX_isTaken post u p := by
  obtain ⟨f_width, f_textLength, f_foundPlace, f_tokenCount, f_frameCount, f_operandCount, f_defCount, f_nodeEnd, a_text, a_tokenCode, a_tokenPlace, a_frameCode, a_framePlace, a_operand, a_defPlace, a_defFirst, a_defEnd, a_nodeOp, a_nodeNumber, a_nodePlace, a_nodeDepth, a_nodeKind, a_part, a_size, a_kindFound, a_choice, a_status, a_result, a_slotFunction, a_slotArgument⟩ := u
  obtain ⟨x1, x2, x3, x4, x5, x6, x7, x8, x9, x10⟩ := hX
  by_cases a : p < 0
  · exact br_t a (h0 (if_pos (Or.inl a)))
  · refine br_f a ?_
    by_cases b : 3 ≤ p
    · exact br_t b (h0 (if_pos (Or.inr b)))
    · refine br_f b ?_
      obtain ⟨s, hs, rfl, e⟩ := sl_p3 (sl := sl) (p := p) (fun q => q.elim a b)
      refine ⟨vp_in_nI hs (by decide), ?_⟩
      rw [nI_clamp (by omega)]
      obtain ⟨z0, z1⟩ := x10 s hs
      cases hc : sl s with
      | none => exact br_t (z0 hc) (h0 (e.trans hc))
      | some fx =>
        obtain ⟨f, x⟩ := fx
        have zz := (z1 f x hc).1
        have hf := (hG.2.2.2.2.2 s hs f x hc).1
        exact br_f (by rw [zz]; exact sl_m1 (by omega)) (h1 s f x hs rfl hc (e.trans hc))
theorem sl_Yt (hY : rl_Y P L tx pl sl g v) {p : Int32} {post : Int32 → Prop} (h0 : sl_p sl p = none → post 0) (h1 : ∀ s f x, s < 3 → p = nI s → sl s = some (f, x) → sl_p sl p = some (f, x) → post 1) : wpY_held post v p := by
  obtain ⟨f_width, f_length, f_place, f_toks, f_nodes, f_defs, a_text, a_tok, a_tokNum, a_tokPlace, a_opened, a_nOp, a_nNum, a_nPlace, a_nA, a_nB, a_nC, a_nLo, a_nHi, a_nLevel, a_defName, a_defPlace, a_defRoot, a_loaded, a_count, a_status, a_number, a_origin, a_choice, a_slotF, a_slotX, a_slotHeld⟩ := v
  obtain ⟨y1, y2, y3, y4, y5, y6, y7, y8, y9, y10⟩ := hY
  by_cases a : p < 0
  · exact br_t a (h0 (if_pos (Or.inl a)))
  · refine br_f a ?_
    by_cases b : 3 ≤ p
    · exact br_t b (h0 (if_pos (Or.inr b)))
    · refine br_f b ?_
      obtain ⟨s, hs, rfl, e⟩ := sl_p3 (sl := sl) (p := p) (fun q => q.elim a b)
      refine ⟨vp_in_nI hs (by decide), ?_⟩
      rw [nI_clamp (by omega)]
      obtain ⟨z0, z1⟩ := y10 s hs
      cases hc : sl s with
      | none => exact br_t (z0 hc) (h0 (e.trans hc))
      | some fx =>
        obtain ⟨f, x⟩ := fx
        have zz := (z1 f x hc).1
        exact br_f (by rw [zz]; decide) (h1 s f x hs rfl hc (e.trans hc))
theorem sl_Xd (hG : rl_G P L tx sl) (hX : rl_X P L tx pl sl u) {p : Int32} {post : Int32 → Prop} (h0 : sl_d P p = none → post 0) (h1 : ∀ f, sl_d P p = some f → post 1) : wpX_isDefined post u p := by
  obtain ⟨f_width, f_textLength, f_foundPlace, f_tokenCount, f_frameCount, f_operandCount, f_defCount, f_nodeEnd, a_text, a_tokenCode, a_tokenPlace, a_frameCode, a_framePlace, a_operand, a_defPlace, a_defFirst, a_defEnd, a_nodeOp, a_nodeNumber, a_nodePlace, a_nodeDepth, a_nodeKind, a_part, a_size, a_kindFound, a_choice, a_status, a_result, a_slotFunction, a_slotArgument⟩ := u
  obtain ⟨x1, x2, x3, x4, x5, x6, x7, x8, x9, x10⟩ := hX
  by_cases a : p < 0
  · exact br_t a (h0 (if_pos (Or.inl a)))
  · refine br_f a ?_
    by_cases b : 5 ≤ p
    · exact br_t b (h0 (if_pos (Or.inr b)))
    · refine br_f b ?_
      have nab : ¬ (p < 0 ∨ 5 ≤ p) := fun q => q.elim a b
      obtain ⟨s, hs, e, e2⟩ := sl_in (n := 5) (by decide) nab
      have e3 : sl_d P p = if P 5 s = 0 then none else some s := by unfold sl_d; rw [if_neg nab, e2]
      refine ⟨by rw [e]; exact vp_in_nI hs (by decide), ?_⟩
      rw [e2, x5 s hs]
      have := hG.1.2.2.1 s
      refine pk_le (P 5 s) 0 (fun q => h0 ?_) (fun q => h1 s ?_)
      · rw [e3, if_pos (by omega)]
      · rw [e3, if_neg (by omega)]
theorem sl_Xc (hG : rl_G P L tx sl) (hX : rl_X P L tx pl sl u) {p q : Int32} {post : Int32 → Prop} (h0 : sl_c P p q = none → post 0) (h1 : ∀ f x, sl_c P p q = some (f, x) → post 1) : wpX_isCell post u p q := by
  have hX0 := hX
  obtain ⟨f_width, f_textLength, f_foundPlace, f_tokenCount, f_frameCount, f_operandCount, f_defCount, f_nodeEnd, a_text, a_tokenCode, a_tokenPlace, a_frameCode, a_framePlace, a_operand, a_defPlace, a_defFirst, a_defEnd, a_nodeOp, a_nodeNumber, a_nodePlace, a_nodeDepth, a_nodeKind, a_part, a_size, a_kindFound, a_choice, a_status, a_result, a_slotFunction, a_slotArgument⟩ := u
  obtain ⟨x1, x2, x3, x4, x5, x6, x7, x8, x9, x10⟩ := hX
  unfold wpX_isCell
  refine sl_Xd hG hX0 (fun hd => br_t rfl (h0 ?_)) (fun f hd => bq_1 ?_)
  · unfold sl_c; rw [hd]
  · have e : sl_c P p q = if q < 0 ∨ nI (P 6 0) ≤ q then none else some (f, q.toNatClampNeg) := by unfold sl_c; rw [hd]
    rw [x1]
    by_cases a : q < 0
    · exact br_t a (h0 (by rw [e, if_pos (Or.inl a)]))
    · refine br_f a ?_
      by_cases b : nI (P 6 0) ≤ q
      · exact br_t b (h0 (by rw [e, if_pos (Or.inr b)]))
      · exact br_f b (h1 f q.toNatClampNeg (by rw [e, if_neg (fun z => z.elim a b)]))
theorem sl_Xf (hG : rl_G P L tx sl) (hX : rl_X P L tx pl sl u) {f x : Nat} (hf : f < 5) (hs : 0 < P 5 f) {post : Int32 → Prop} (h : post (nI (ou_cf P f x))) : wpX_cellOf post u (nI f) (nI x) := by
  obtain ⟨f_width, f_textLength, f_foundPlace, f_tokenCount, f_frameCount, f_operandCount, f_defCount, f_nodeEnd, a_text, a_tokenCode, a_tokenPlace, a_frameCode, a_framePlace, a_operand, a_defPlace, a_defFirst, a_defEnd, a_nodeOp, a_nodeNumber, a_nodePlace, a_nodeDepth, a_nodeKind, a_part, a_size, a_kindFound, a_choice, a_status, a_result, a_slotFunction, a_slotArgument⟩ := u
  obtain ⟨x1, x2, x3, x4, x5, x6, x7, x8, x9, x10⟩ := hX
  refine ⟨vp_in_nI hf (by decide), ?_⟩
  rw [nI_clamp (by omega), x5 f hf]
  have e : (nI f * 24 + nI (P 5 f) - 1) * 6 + nI x = nI (ou_cf P f x) := by
    have a : nI f * 24 = nI (f * 24) := pk_mul f 24
    rw [a, nI_add]
    have b : nI (f * 24 + P 5 f) - 1 = nI (f * 24 + P 5 f - 1) := pk_sub (a := f * 24 + P 5 f) (b := 1) (by omega)
    rw [b]
    have c : nI (f * 24 + P 5 f - 1) * 6 = nI ((f * 24 + P 5 f - 1) * 6) := pk_mul _ 6
    rw [c, nI_add]; rfl
  rw [e]; exact h
theorem sl_k2 {c : Nat} (hP : pg_ok P) (hu : ou_uc P c) {st : Nat → Int32} {re : Nat → Int64} (ht : rl_tX P (ou_E P) st re) : st c = sl_k P c := by
  obtain ⟨a, b⟩ := ht c hu
  unfold sl_k
  cases h : ou_E P c with
  | none => exact a h
  | some o => exact (b o h).1
theorem sl_Xl (hG : rl_G P L tx sl) (hX : rl_X P L tx pl sl u) {p q : Int32} {post : Int32 → Prop} (h0 : sl_c P p q = none → post 0) (h1 : ∀ f x, sl_c P p q = some (f, x) → post (sl_k P (ou_cf P f x))) : wpX_look post u p q := by
  have hX0 := hX
  obtain ⟨f_width, f_textLength, f_foundPlace, f_tokenCount, f_frameCount, f_operandCount, f_defCount, f_nodeEnd, a_text, a_tokenCode, a_tokenPlace, a_frameCode, a_framePlace, a_operand, a_defPlace, a_defFirst, a_defEnd, a_nodeOp, a_nodeNumber, a_nodePlace, a_nodeDepth, a_nodeKind, a_part, a_size, a_kindFound, a_choice, a_status, a_result, a_slotFunction, a_slotArgument⟩ := u
  obtain ⟨x1, x2, x3, x4, x5, x6, x7, x8, x9, x10⟩ := hX
  unfold wpX_look
  refine sl_Xc hG hX0 (fun hd => br_t rfl (h0 hd)) (fun f x hd => bq_1 ?_)
  obtain ⟨c1, c2, c3, c4, c5⟩ := sl_cs hG.1.2.1 hd
  rw [c2, c5]
  have hu := sl_cfl hG.1 c1 c3 c4
  have hl := ou_uc_lt hu
  refine sl_Xf hG hX0 c1 c3 ⟨vp_in_nI hl (by decide), ?_⟩
  rw [nI_clamp (by omega), sl_k2 hG.1 hu x9]
  exact h1 f x hd
theorem sl_Yl (hG : rl_G P L tx sl) (hY : rl_Y P L tx pl sl g v) {p q : Int32} {post : Int32 → Prop} (h0 : sl_c P p q = none → post 0) (h1 : ∀ f x, sl_c P p q = some (f, x) → post (sl_k P (ou_cf P f x))) : wpY_look post v p q := by
  obtain ⟨f_width, f_length, f_place, f_toks, f_nodes, f_defs, a_text, a_tok, a_tokNum, a_tokPlace, a_opened, a_nOp, a_nNum, a_nPlace, a_nA, a_nB, a_nC, a_nLo, a_nHi, a_nLevel, a_defName, a_defPlace, a_defRoot, a_loaded, a_count, a_status, a_number, a_origin, a_choice, a_slotF, a_slotX, a_slotHeld⟩ := v
  obtain ⟨y1, y2, y3, y4, y5, y6, y7, y8, y9, y10⟩ := hY
  have no : sl_d P p = none → post 0 := fun hd => h0 (by unfold sl_c; rw [hd])
  by_cases a : p < 0
  · exact br_t a (no (if_pos (Or.inl a)))
  · refine br_f a ?_
    by_cases b : 4 < p
    · exact br_t b (no (if_pos (Or.inr b)))
    · refine br_f b ?_
      have nab : ¬ (p < 0 ∨ 5 ≤ p) := fun q => q.elim a b
      obtain ⟨s, hs, e, e2⟩ := sl_in (n := 5) (by decide) nab
      have e3 : sl_d P p = if P 5 s = 0 then none else some s := by unfold sl_d; rw [if_neg nab, e2]
      refine ⟨by rw [e]; exact vp_in_nI hs (by decide), ?_⟩
      rw [e2, y5 s hs]
      by_cases z : 0 < P 5 s
      · rw [if_pos z]
        refine bq_1 ?_
        have e4 : sl_c P p q = if q < 0 ∨ nI (P 6 0) ≤ q then none else some (s, q.toNatClampNeg) := by unfold sl_c; rw [e3, if_neg (by omega)]
        rw [y1]
        by_cases c : q < 0
        · exact br_t c (h0 (by rw [e4, if_pos (Or.inl c)]))
        · refine br_f c ?_
          by_cases d : nI (P 6 0) ≤ q
          · exact br_f (Int32.not_lt.mpr d) (h0 (by rw [e4, if_pos (Or.inr d)]))
          · have ncd : ¬ (q < 0 ∨ nI (P 6 0) ≤ q) := fun z => z.elim c d
            refine br_t (Int32.not_le.mp d) ?_
            have hw := hG.1.2.1
            obtain ⟨x, hx, ex, ex2⟩ := sl_in (n := P 6 0) (by omega) ncd
            have h1' := h1 s x (by rw [e4, if_neg ncd, ex2])
            have e5 : p * 144 + q = nI (s * 144 + x) := by
              rw [e, ex]
              have : nI s * 144 = nI (s * 144) := pk_mul s 144
              rw [this, nI_add]
            rw [e5]
            obtain ⟨gy, ud⟩ := sl_gy hG.1 y8 hs z hx
            have hl := ou_uc_lt ud
            refine ⟨vp_in_nI hl (by decide), ?_⟩
            rw [nI_clamp (by omega)]
            obtain ⟨t0, t1⟩ := y9 _ ud
            rw [gy] at t0 t1
            unfold sl_k at h1'
            cases hE : ou_E P (ou_cf P s x) with
            | none => rw [hE] at h1'; exact br_t (t0 hE) h1'
            | some o =>
              rw [hE] at h1'
              have w := (t1 o hE).1
              obtain ⟨c0, _, hc0⟩ := hG.2.1
              have ty := ty_ev hG.1 (ki_ty hG.1 hc0)
              obtain ⟨k0, hk0⟩ := ou_E_s.mp hE
              have to := ty _ _ _ hk0
              have ho : 0 < o.1 ∧ o.1 < 6 := by
                rcases to with to | to
                · rw [to.1]; omega
                · have := to.1; omega
              refine br_f (by rw [w]; exact nI_ne0 ho.1 (by omega)) ⟨vp_in_nI hl (by decide), ?_⟩
              rw [w]; exact h1'
      · rw [if_neg z]
        exact br_t rfl (no (by rw [e3, if_pos (by omega)]))
end
