-- UNLOAD
def ul_c (P : Nat → Nat → Nat) (f u : Nat) : Prop := ou_us P u ∧ u / 24 ≠ f ∧ P 0 u = 13 ∧ P 1 u = f
def ul_s (sl : Nat → Option (Nat × Nat)) (f : Nat) : Prop := ∃ s x, s < 3 ∧ sl s = some (f, x)
theorem un_kn {P : Nat → Nat → Nat} {f : Nat} {kc : Nat → Nat} : ∀ n u, ki_n (un_P P f) kc n u = ki_n P kc n u := by
  intro n
  induction n with
  | zero => intro u; rfl
  | succ n ih =>
    intro u
    show ki_f _ _ _ _ = ki_f _ _ _ _
    rw [un_k (f := f) (k := 0) (by decide), un_k (f := f) (k := 1) (by decide), un_k (f := f) (k := 2) (by decide), un_k (f := f) (k := 3) (by decide), ih, ih]
theorem un_ki {P : Nat → Nat → Nat} {f : Nat} {kc : Nat → Nat} (h : ki_ok P kc) : ki_ok (un_P P f) kc := by
  have e : ∀ u, ki_k (un_P P f) kc u = ki_k P kc u := fun u => un_kn _ _
  refine ⟨fun u hu => ?_, fun g hg hs => ?_⟩
  · rw [e, e, e, un_k (f := f) (k := 0) (by decide), un_k (f := f) (k := 2) (by decide), un_k (f := f) (k := 3) (by decide), un_k (f := f) (k := 4) (by decide)]
    exact h.1 u (un_us.mp hu).1
  · by_cases q : g = f
    · rw [q, un_f] at hs; omega
    · rw [un_o q] at hs ⊢
      rw [e]; exact h.2 g hg hs
section
variable {P : Nat → Nat → Nat} {f : Nat} {c0 : Nat}
theorem un_E (hP : pg_ok P) (hv : rl_V P c0) (hc : ¬ ∃ u, ul_c P f u) {c : Nat} (hcf : c / 6 / 24 ≠ f) : ou_E (un_P P f) c = ou_E P c := by
  have hc2 : ∀ u, ou_us P u → u / 24 ≠ f → P 0 u = 13 → P 1 u ≠ f := fun u h1 h2 h3 h4 => hc ⟨u, h1, h2, h3, h4⟩
  have key : ∀ o, ou_E (un_P P f) c = some o ↔ ou_E P c = some o := fun o => by
    rw [ou_E_s, ou_E_s]; exact un_V hP (ki_ty hP hv) hc2 hcf o
  cases h : ou_E P c with
  | some o => exact (key o).mpr h
  | none =>
    cases h2 : ou_E (un_P P f) c with
    | none => rfl
    | some o => rw [(key o).mp h2] at h; exact absurd h (by simp)
theorem un_j (hP : pg_ok P) (hv : rl_V P c0) (hc : ¬ ∃ u, ul_c P f u) {c : Nat} (hcf : c / 6 / 24 ≠ f) {o : ou_O} (ho : ou_E P c = some o) (h1 : o.1 = 1) (h3 : o.2.1 = 3) (hn : o.2.2 ≠ 0) : ou_jn o.2.2 / 6 / 24 ≠ f := by
  have hc2 : ∀ u, ou_us P u → u / 24 ≠ f → P 0 u = 13 → P 1 u ≠ f := fun u h1 h2 h3 h4 => hc ⟨u, h1, h2, h3, h4⟩
  have t := ru_t (T := ou_E P) hP hv (fun d p q => ou_E_s.mp q) ho
  rcases t with ⟨_, _, _, t4⟩ | t
  · rcases t4 h3 with q | ⟨j, j1, j2, j3, j4⟩
    · exact absurd q hn
    · obtain ⟨k, hk⟩ := ou_E_s.mp ho
      have := (un_ev hP (ki_ty hP hv) hc2 k c hcf).2 o hk j j1 h1 h3 j4
      rw [j4, ou_jn_e j1]; exact this
  · have := t.1; omega
theorem un_tX (hP : pg_ok P) (hv : rl_V P c0) (hc : ¬ ∃ u, ul_c P f u) {st : Nat → Int32} {re : Nat → Int64} (h : rl_tX P (ou_E P) st re) : rl_tX (un_P P f) (ou_E (un_P P f)) st re := by
  intro c hu
  obtain ⟨h1, h2⟩ := un_uc.mp hu
  rw [un_E hP hv hc h2]
  exact h c h1
theorem un_gl {g : Nat → Nat} (hg : rl_g P g) {q : Nat} (hq : ou_uc P q) : rl_gc g q / 6 / 24 = q / 6 / 24 := by
  have e : rl_gc g q / 6 = g (q / 6) := by unfold rl_gc; omega
  rw [e]; exact (hg.1 _ hq.1).2
theorem un_tY {g : Nat → Nat} (hP : pg_ok P) (hv : rl_V P c0) (hc : ¬ ∃ u, ul_c P f u) (hg : rl_g P g) {st : Nat → Int32} {nu : Nat → Int64} {og : Nat → Int32} (h : rl_tY P g (ou_E P) st nu og) : rl_tY (un_P P f) g (ou_E (un_P P f)) st nu og := by
  intro d hu
  obtain ⟨h1, h2⟩ := un_uc.mp hu
  have hgc : rl_gc g d / 6 / 24 ≠ f := by rw [un_gl hg h1]; exact h2
  rw [un_E hP hv hc hgc]
  obtain ⟨t0, t1⟩ := h d h1
  refine ⟨t0, fun o ho => ?_⟩
  obtain ⟨s1, s2⟩ := t1 o ho
  refine ⟨s1, fun o1 => ⟨(s2 o1).1, fun o3 => ⟨((s2 o1).2 o3).1, fun on => ?_⟩⟩⟩
  obtain ⟨n1, q, q1, q2, q3⟩ := ((s2 o1).2 o3).2 on
  refine ⟨n1, q, un_uc.mpr ⟨q1, ?_⟩, q2, q3⟩
  rw [← un_gl hg q1, q3]
  exact un_j hP hv hc hgc ho o1 o3 on
theorem un_g {g : Nat → Nat} (hg : rl_g P g) : rl_g (un_P P f) g := by
  obtain ⟨g1, g2, g3, g4⟩ := hg
  refine ⟨fun r hr => ?_, fun h hh hs => ?_, fun r s hr hs he => g3 r s (un_us.mp hr).1 (un_us.mp hs).1 he, fun u hu => ?_⟩
  · obtain ⟨a, b⟩ := un_us.mp hr
    obtain ⟨c, d⟩ := g1 r a
    exact ⟨un_us.mpr ⟨c, by rw [d]; exact b⟩, d⟩
  · by_cases q : h = f
    · rw [q, un_f] at hs; omega
    · rw [un_o q] at hs ⊢; exact g2 h hh hs
  · obtain ⟨a, b⟩ := un_us.mp hu
    obtain ⟨r, r1, r2⟩ := g4 u a
    exact ⟨r, un_us.mpr ⟨r1, by rw [← (g1 r r1).2, r2]; exact b⟩, r2⟩
theorem un_le (h : rl_le P) : rl_le (un_P P f) := by
  intro u hu
  rw [un_k (f := f) (k := 2) (by decide), un_k (f := f) (k := 3) (by decide), un_k (f := f) (k := 4) (by decide)]
  exact h u (un_us.mp hu).1
theorem un_nY {g : Nat → Nat} (hP : pg_ok P) (hg : rl_g P g) {no nn na nb nc : Nat → Int32} {r : Nat} (hr : ou_us (un_P P f) r) (h : rl_nY P g no nn na nb nc r) : rl_nY (un_P P f) g no nn na nb nc r := by
  obtain ⟨a, b⟩ := un_us.mp hr
  obtain ⟨l1, l2⟩ := hg.1 r a
  obtain ⟨_, _, _, o4⟩ := hP.2.2.2 _ l1
  have kid : ∀ w j, j < pg_n (P 0 (g r)) → ou_us P w → g w = P (2 + j) (g r) → ou_us (un_P P f) w := by
    intro w j hj hw q
    refine un_us.mpr ⟨hw, ?_⟩
    rw [← (hg.1 w hw).2, q, (o4 j hj).2, l2]
    exact b
  obtain ⟨h1, h2, h3, h4, h5⟩ := h
  unfold rl_nY
  rw [un_k (f := f) (k := 0) (by decide), un_k (f := f) (k := 1) (by decide), un_k (f := f) (k := 2) (by decide), un_k (f := f) (k := 3) (by decide), un_k (f := f) (k := 4) (by decide)]
  refine ⟨h1, h2, fun n => ?_, fun n => ?_, fun n => ?_⟩
  · obtain ⟨w, w1, w2, w3⟩ := h3 n; exact ⟨w, w1, kid w 0 n w2 w3, w3⟩
  · obtain ⟨w, w1, w2, w3⟩ := h4 n; exact ⟨w, w1, kid w 1 n w2 w3, w3⟩
  · obtain ⟨w, w1, w2, w3⟩ := h5 n; exact ⟨w, w1, kid w 2 n w2 w3, w3⟩
end
section
variable {f_width f_textLength f_foundPlace f_tokenCount f_frameCount f_operandCount f_defCount f_nodeEnd : Int32} {a_text a_tokenCode a_tokenPlace a_frameCode a_framePlace a_operand a_defPlace a_defFirst a_defEnd a_nodeOp a_nodeNumber a_nodePlace a_nodeDepth a_nodeKind a_part a_size a_kindFound a_choice a_status : Nat → Int32} {a_result : Nat → Int64} {a_slotFunction a_slotArgument : Nat → Int32} {P : Nat → Nat → Nat} {f : Nat}
theorem ul_X (hP : xl_P P a_size a_nodeOp a_nodeNumber a_nodePlace a_part) (hf : f < 5) {post : Int32 → Prop} (h1 : (∃ u, ul_c P f u) → post 1) (h0 : (¬ ∃ u, ul_c P f u) → post 0) : wpX_isCalledByAnother post (f_width, f_textLength, f_foundPlace, f_tokenCount, f_frameCount, f_operandCount, f_defCount, f_nodeEnd, a_text, a_tokenCode, a_tokenPlace, a_frameCode, a_framePlace, a_operand, a_defPlace, a_defFirst, a_defEnd, a_nodeOp, a_nodeNumber, a_nodePlace, a_nodeDepth, a_nodeKind, a_part, a_size, a_kindFound, a_choice, a_status, a_result, a_slotFunction, a_slotArgument) (nI f) := by
  obtain ⟨p1, p2, p3, p4, p5⟩ := hP
  have h24 := p1.2.2.1
  have inner : ∀ gg J, gg < 5 → ((∀ u, ul_c P f u → (gg + 1) * 24 ≤ u) → J (nI (gg + 1))) → ∀ r i, i + r = P 5 gg → (∀ u, ul_c P f u → gg * 24 + i ≤ u) → ∀ n, r < n → wX_isCalledByAnother_9 post J (nI f) (nI gg) f_width f_textLength f_foundPlace f_tokenCount f_frameCount f_operandCount f_defCount f_nodeEnd a_text a_tokenCode a_tokenPlace a_frameCode a_framePlace a_operand a_defPlace a_defFirst a_defEnd a_nodeOp a_nodeNumber a_nodePlace a_nodeDepth a_nodeKind a_part a_size a_kindFound a_choice a_status a_result a_slotFunction a_slotArgument n (nI i) := by
    intro gg J hg hJ r
    have g24 := h24 gg
    induction r with
    | zero =>
      intro i hi hu n hn
      obtain ⟨n, rfl⟩ : ∃ m, n = m + 1 := ⟨n - 1, by omega⟩
      refine ⟨vp_in_nI hg (by decide), ?_⟩
      rw [nI_clamp (by omega), p3 gg hg]
      refine br_t (nI_le (by omega) (by omega)) (fun y ey => ?_)
      rw [ey, nI_1]
      refine hJ (fun u hc => ?_)
      have a := hu u hc
      have b := hc.1.2
      by_cases q : u / 24 = gg
      · rw [q] at b; omega
      · omega
    | succ r ih =>
      intro i hi hu n hn
      obtain ⟨n, rfl⟩ : ∃ m, n = m + 1 := ⟨n - 1, by omega⟩
      refine ⟨vp_in_nI hg (by decide), ?_⟩
      rw [nI_clamp (by omega), p3 gg hg]
      refine br_f (nI_ge (by omega) (by omega)) (pk_eq gg f (fun c => fun y ey => ?_) (fun c => fun x ex => ?_))
      · rw [ey, nI_1]
        refine hJ (fun u hc => ?_)
        have a := hu u hc
        have b := hc.2.1
        omega
      · have e24 : nI gg * 24 = nI (gg * 24) := pk_mul _ 24
        rw [e24, nI_add] at ex
        subst ex
        have eg : (gg * 24 + i) / 24 = gg ∧ (gg * 24 + i) % 24 = i := by omega
        have us : ou_us P (gg * 24 + i) := ⟨by omega, by rw [eg.1, eg.2]; omega⟩
        obtain ⟨n1, n2, _⟩ := p4 _ us
        obtain ⟨o1, o2, o3, _⟩ := p1.2.2.2 _ us
        have bd : P 0 (gg * 24 + i) < 34 := by unfold pg_op at o1; omega
        have tb := ad_tb _ bd
        have hin : vp_in (nI (gg * 24 + i)) 320 := vp_in_nI (by omega) (by decide)
        have nx : ¬ ul_c P f (gg * 24 + i) → ∀ y, y = nI i + 1 → wX_isCalledByAnother_9 post J (nI f) (nI gg) f_width f_textLength f_foundPlace f_tokenCount f_frameCount f_operandCount f_defCount f_nodeEnd a_text a_tokenCode a_tokenPlace a_frameCode a_framePlace a_operand a_defPlace a_defFirst a_defEnd a_nodeOp a_nodeNumber a_nodePlace a_nodeDepth a_nodeKind a_part a_size a_kindFound a_choice a_status a_result a_slotFunction a_slotArgument n y := by
          intro q y ey
          rw [ey, nI_1]
          refine ih (i + 1) (by omega) (fun u hc => ?_) n (by omega)
          have a := hu u hc
          have : u ≠ gg * 24 + i := fun z => q (z ▸ hc)
          omega
        refine ⟨hin, ?_⟩
        rw [nI_clamp (by omega), n1]
        refine pk_eq (xc_t (P 0 (gg * 24 + i))) 3 (fun c2 => ⟨hin, ?_⟩) (fun c2 => nx (fun q => c2 ((ad_t3 _ bd).mpr q.2.2.1)))
        have t13 := (ad_t3 _ bd).mp c2
        have l5 := (o3 t13).1
        rw [n2]
        exact pk_eq (P 1 (gg * 24 + i)) f (fun c3 => h1 ⟨_, us, by rw [eg.1]; exact c, t13, c3⟩) (fun c3 => nx (fun q => c3 q.2.2.2))
  have key : ∀ r gg, gg + r = 5 → (∀ u, ul_c P f u → gg * 24 ≤ u) → ∀ n, r < n → wX_isCalledByAnother_2 post (nI f) f_width f_textLength f_foundPlace f_tokenCount f_frameCount f_operandCount f_defCount f_nodeEnd a_text a_tokenCode a_tokenPlace a_frameCode a_framePlace a_operand a_defPlace a_defFirst a_defEnd a_nodeOp a_nodeNumber a_nodePlace a_nodeDepth a_nodeKind a_part a_size a_kindFound a_choice a_status a_result a_slotFunction a_slotArgument n (nI gg) := by
    intro r
    induction r with
    | zero =>
      intro gg hg hu n hn
      obtain ⟨n, rfl⟩ : ∃ m, n = m + 1 := ⟨n - 1, by omega⟩
      have eg : gg = 5 := by omega
      subst eg
      refine br_t (by decide) (h0 (fun ⟨u, hc⟩ => ?_))
      have := hu u hc
      have := hc.1.1
      omega
    | succ r ih =>
      intro gg hg hu n hn
      obtain ⟨n, rfl⟩ : ∃ m, n = m + 1 := ⟨n - 1, by omega⟩
      refine br_f (nI_ge (b := 5) (by omega) (by decide)) ⟨_, inner gg _ (by omega) (fun q => ih (gg + 1) (by omega) q n (by omega)) (P 5 gg) 0 (by omega) (fun u hc => by have := hu u hc; omega) _ (Nat.lt_succ_self _)⟩
  exact ⟨_, key 5 0 rfl (fun u _ => by omega) 6 (by decide)⟩
theorem ul_Xs {sl : Nat → Option (Nat × Nat)} (hs : rl_sX sl a_slotFunction a_slotArgument) (h5 : ∀ s, s < 3 → ∀ f x, sl s = some (f, x) → f < 5) (hf : f < 5) {post : Int32 → SX → Prop} (h1 : ul_s sl f → post 0 (f_width, f_textLength, f_foundPlace, f_tokenCount, f_frameCount, f_operandCount, f_defCount, f_nodeEnd, a_text, a_tokenCode, a_tokenPlace, a_frameCode, a_framePlace, a_operand, a_defPlace, a_defFirst, a_defEnd, a_nodeOp, a_nodeNumber, a_nodePlace, a_nodeDepth, a_nodeKind, a_part, a_size, a_kindFound, a_choice, a_status, a_result, a_slotFunction, a_slotArgument))
    (h0 : ¬ ul_s sl f → wpX_findKinds (fun u => match u with | (f_width9, f_textLength9, f_foundPlace9, f_tokenCount9, f_frameCount9, f_operandCount9, f_defCount9, f_nodeEnd9, a_text9, a_tokenCode9, a_tokenPlace9, a_frameCode9, a_framePlace9, a_operand9, a_defPlace9, a_defFirst9, a_defEnd9, a_nodeOp9, a_nodeNumber9, a_nodePlace9, a_nodeDepth9, a_nodeKind9, a_part9, a_size9, a_kindFound9, a_choice9, a_status9, a_result9, a_slotFunction9, a_slotArgument9) => post 1 (f_width9, f_textLength9, f_foundPlace9, f_tokenCount9, f_frameCount9, f_operandCount9, f_defCount9, f_nodeEnd9, a_text9, a_tokenCode9, a_tokenPlace9, a_frameCode9, a_framePlace9, a_operand9, a_defPlace9, a_defFirst9, a_defEnd9, a_nodeOp9, a_nodeNumber9, a_nodePlace9, a_nodeDepth9, a_nodeKind9, a_part9, a_size9, a_kindFound9, a_choice9, a_status9, a_result9, a_slotFunction9, a_slotArgument9)) (f_width, f_textLength, f_foundPlace, f_tokenCount, f_frameCount, f_operandCount, f_defCount, f_nodeEnd, a_text, a_tokenCode, a_tokenPlace, a_frameCode, a_framePlace, a_operand, a_defPlace, a_defFirst, a_defEnd, a_nodeOp, a_nodeNumber, a_nodePlace, a_nodeDepth, a_nodeKind, a_part, upd a_size f 0, a_kindFound, a_choice, a_status, a_result, a_slotFunction, a_slotArgument)) : ∃ n, wX_unload_20 post (nI f) f_width f_textLength f_foundPlace f_tokenCount f_frameCount f_operandCount f_defCount f_nodeEnd a_text a_tokenCode a_tokenPlace a_frameCode a_framePlace a_operand a_defPlace a_defFirst a_defEnd a_nodeOp a_nodeNumber a_nodePlace a_nodeDepth a_nodeKind a_part a_size a_kindFound a_choice a_status a_result a_slotFunction a_slotArgument n 0 := by
  have key : ∀ r s, s + r = 3 → (∀ t x, t < s → sl t ≠ some (f, x)) → ∀ n, r < n → wX_unload_20 post (nI f) f_width f_textLength f_foundPlace f_tokenCount f_frameCount f_operandCount f_defCount f_nodeEnd a_text a_tokenCode a_tokenPlace a_frameCode a_framePlace a_operand a_defPlace a_defFirst a_defEnd a_nodeOp a_nodeNumber a_nodePlace a_nodeDepth a_nodeKind a_part a_size a_kindFound a_choice a_status a_result a_slotFunction a_slotArgument n (nI s) := by
    intro r
    induction r with
    | zero =>
      intro s hs2 hn n hnn
      obtain ⟨n, rfl⟩ : ∃ m, n = m + 1 := ⟨n - 1, by omega⟩
      have e : s = 3 := by omega
      subst e
      refine br_t (by decide) ⟨vp_in_nI hf (by decide), fun A eA => ?_⟩
      rw [nI_clamp (by omega)] at eA
      subst eA
      exact h0 (fun ⟨t, x, t3, q⟩ => hn t x t3 q)
    | succ r ih =>
      intro s hs2 hn n hnn
      obtain ⟨n, rfl⟩ : ∃ m, n = m + 1 := ⟨n - 1, by omega⟩
      refine br_f (nI_ge (b := 3) (by omega) (by decide)) ⟨vp_in_nI (by omega) (by decide), ?_⟩
      rw [nI_clamp (by omega)]
      obtain ⟨z0, z1⟩ := hs s (by omega)
      have nx : (∀ x, sl s ≠ some (f, x)) → ∀ y, y = nI s + 1 → wX_unload_20 post (nI f) f_width f_textLength f_foundPlace f_tokenCount f_frameCount f_operandCount f_defCount f_nodeEnd a_text a_tokenCode a_tokenPlace a_frameCode a_framePlace a_operand a_defPlace a_defFirst a_defEnd a_nodeOp a_nodeNumber a_nodePlace a_nodeDepth a_nodeKind a_part a_size a_kindFound a_choice a_status a_result a_slotFunction a_slotArgument n y := by
        intro q y ey
        rw [ey, nI_1]
        refine ih (s + 1) (by omega) (fun t x ht => ?_) n (by omega)
        by_cases w : t = s
        · rw [w]; exact q x
        · exact hn t x (by omega)
      cases hc : sl s with
      | none =>
        rw [z0 hc]
        exact br_f (fun q => sl_m1 (f := f) (by omega) q.symm) (nx (fun x q => by rw [hc] at q; exact absurd q (by simp)))
      | some fx =>
        obtain ⟨f2, x2⟩ := fx
        have l5 := h5 s (by omega) f2 x2 hc
        rw [(z1 f2 x2 hc).1]
        refine pk_eq f2 f (fun c => h1 ⟨s, x2, by omega, c ▸ hc⟩) (fun c => nx (fun x q => ?_))
        rw [hc] at q
        exact c (Prod.mk.inj (Option.some.inj q)).1
  exact ⟨_, key 3 0 rfl (fun t x ht => by omega) 4 (by decide)⟩
end
section
variable {f_width f_length f_place f_toks f_nodes f_defs : Int32} {a_text a_tok a_tokNum a_tokPlace a_opened a_nOp a_nNum a_nPlace a_nA a_nB a_nC a_nLo a_nHi a_nLevel a_defName a_defPlace a_defRoot a_loaded a_count a_status : Nat → Int32} {a_number : Nat → Int64} {a_origin a_choice a_slotF a_slotX a_slotHeld : Nat → Int32} {P : Nat → Nat → Nat} {f : Nat} {g : Nat → Nat}
theorem ul_Ys {sl : Nat → Option (Nat × Nat)} (hs : rl_sY sl a_slotF a_slotX a_slotHeld) (h5 : ∀ s, s < 3 → ∀ f x, sl s = some (f, x) → f < 5) (hf : f < 5) {post : Int32 → SY → Prop} (h1 : ul_s sl f → post 0 (f_width, f_length, f_place, f_toks, f_nodes, f_defs, a_text, a_tok, a_tokNum, a_tokPlace, a_opened, a_nOp, a_nNum, a_nPlace, a_nA, a_nB, a_nC, a_nLo, a_nHi, a_nLevel, a_defName, a_defPlace, a_defRoot, a_loaded, a_count, a_status, a_number, a_origin, a_choice, a_slotF, a_slotX, a_slotHeld))
    (h0 : ¬ ul_s sl f → post 1 (f_width, f_length, f_place, f_toks, f_nodes, f_defs, a_text, a_tok, a_tokNum, a_tokPlace, a_opened, a_nOp, a_nNum, a_nPlace, a_nA, a_nB, a_nC, a_nLo, a_nHi, a_nLevel, a_defName, a_defPlace, a_defRoot, upd a_loaded f 0, a_count, a_status, a_number, a_origin, a_choice, a_slotF, a_slotX, a_slotHeld)) : ∃ n, wY_unload_91 post (nI f) f_width f_length f_place f_toks f_nodes f_defs a_text a_tok a_tokNum a_tokPlace a_opened a_nOp a_nNum a_nPlace a_nA a_nB a_nC a_nLo a_nHi a_nLevel a_defName a_defPlace a_defRoot a_loaded a_count a_status a_number a_origin a_choice a_slotF a_slotX a_slotHeld n 0 := by
  have key : ∀ r s, s + r = 3 → (∀ t x, t < s → sl t ≠ some (f, x)) → ∀ n, r < n → wY_unload_91 post (nI f) f_width f_length f_place f_toks f_nodes f_defs a_text a_tok a_tokNum a_tokPlace a_opened a_nOp a_nNum a_nPlace a_nA a_nB a_nC a_nLo a_nHi a_nLevel a_defName a_defPlace a_defRoot a_loaded a_count a_status a_number a_origin a_choice a_slotF a_slotX a_slotHeld n (nI s) := by
    intro r
    induction r with
    | zero =>
      intro s hs2 hn n hnn
      obtain ⟨n, rfl⟩ : ∃ m, n = m + 1 := ⟨n - 1, by omega⟩
      have e : s = 3 := by omega
      subst e
      refine br_t (by decide) ⟨vp_in_nI hf (by decide), fun A eA => ?_⟩
      have b0 : vp_nar .boolean 0 = 0 := by decide
      rw [nI_clamp (by omega), b0] at eA
      subst eA
      exact h0 (fun ⟨t, x, t3, q⟩ => hn t x t3 q)
    | succ r ih =>
      intro s hs2 hn n hnn
      obtain ⟨n, rfl⟩ : ∃ m, n = m + 1 := ⟨n - 1, by omega⟩
      have hin : vp_in (nI s) 3 := vp_in_nI (by omega) (by decide)
      refine br_f (nI_ge (b := 3) (by omega) (by decide)) ⟨hin, ?_⟩
      rw [nI_clamp (by omega)]
      obtain ⟨z0, z1⟩ := hs s (by omega)
      have nx : (∀ x, sl s ≠ some (f, x)) → ∀ y, y = nI s + 1 → wY_unload_91 post (nI f) f_width f_length f_place f_toks f_nodes f_defs a_text a_tok a_tokNum a_tokPlace a_opened a_nOp a_nNum a_nPlace a_nA a_nB a_nC a_nLo a_nHi a_nLevel a_defName a_defPlace a_defRoot a_loaded a_count a_status a_number a_origin a_choice a_slotF a_slotX a_slotHeld n y := by
        intro q y ey
        rw [ey, nI_1]
        refine ih (s + 1) (by omega) (fun t x ht => ?_) n (by omega)
        by_cases w : t = s
        · rw [w]; exact q x
        · exact hn t x (by omega)
      cases hc : sl s with
      | none =>
        rw [z0 hc]
        exact br_t rfl (nx (fun x q => by rw [hc] at q; exact absurd q (by simp)))
      | some fx =>
        obtain ⟨f2, x2⟩ := fx
        have l5 := h5 s (by omega) f2 x2 hc
        obtain ⟨w1, w2, w3⟩ := z1 f2 x2 hc
        rw [w1]
        refine bq_1 ⟨hin, ?_⟩
        rw [w2]
        refine pk_eq f2 f (fun c => h1 ⟨s, x2, by omega, c ▸ hc⟩) (fun c => nx (fun x q => ?_))
        rw [hc] at q
        exact c (Prod.mk.inj (Option.some.inj q)).1
  exact ⟨_, key 3 0 rfl (fun t x ht => by omega) 4 (by decide)⟩
theorem ul_Y (hP : yl_P P g a_loaded a_count a_nOp a_nNum a_nA a_nB a_nC) (hf : f < 5) {post : Int32 → SY → Prop} (h1 : (∃ u, ul_c P f u) → post 0 (f_width, f_length, f_place, f_toks, f_nodes, f_defs, a_text, a_tok, a_tokNum, a_tokPlace, a_opened, a_nOp, a_nNum, a_nPlace, a_nA, a_nB, a_nC, a_nLo, a_nHi, a_nLevel, a_defName, a_defPlace, a_defRoot, a_loaded, a_count, a_status, a_number, a_origin, a_choice, a_slotF, a_slotX, a_slotHeld)) (h0 : (¬ ∃ u, ul_c P f u) → ∃ n, wY_unload_91 post (nI f) f_width f_length f_place f_toks f_nodes f_defs a_text a_tok a_tokNum a_tokPlace a_opened a_nOp a_nNum a_nPlace a_nA a_nB a_nC a_nLo a_nHi a_nLevel a_defName a_defPlace a_defRoot a_loaded a_count a_status a_number a_origin a_choice a_slotF a_slotX a_slotHeld n 0) : ∃ n, wY_unload_22 post (nI f) f_width f_length f_place f_toks f_nodes f_defs a_text a_tok a_tokNum a_tokPlace a_opened a_nOp a_nNum a_nPlace a_nA a_nB a_nC a_nLo a_nHi a_nLevel a_defName a_defPlace a_defRoot a_loaded a_count a_status a_number a_origin a_choice a_slotF a_slotX a_slotHeld n 0 := by
  obtain ⟨p1, p2, p3, p4, p5⟩ := hP
  have h24 := p1.2.2.1
  have key : ∀ d r, r + d = 120 → (∀ s, s < r → ou_us P s → ¬ ul_c P f (g s)) → ∀ n, d < n → wY_unload_22 post (nI f) f_width f_length f_place f_toks f_nodes f_defs a_text a_tok a_tokNum a_tokPlace a_opened a_nOp a_nNum a_nPlace a_nA a_nB a_nC a_nLo a_nHi a_nLevel a_defName a_defPlace a_defRoot a_loaded a_count a_status a_number a_origin a_choice a_slotF a_slotX a_slotHeld n (nI r) := by
    intro d
    induction d with
    | zero =>
      intro r hr hn n hnn
      obtain ⟨n, rfl⟩ : ∃ m, n = m + 1 := ⟨n - 1, by omega⟩
      have e : r = 120 := by omega
      subst e
      refine br_t (by decide) (h0 (fun ⟨u, hc⟩ => ?_))
      obtain ⟨s, s1, s2⟩ := p2.2.2.2 u hc.1
      exact hn s s1.1 s1 (s2 ▸ hc)
    | succ d ih =>
      intro r hr hn n hnn
      obtain ⟨n, rfl⟩ : ∃ m, n = m + 1 := ⟨n - 1, by omega⟩
      have nx : (ou_us P r → ¬ ul_c P f (g r)) → ∀ y, y = nI r + 1 → wY_unload_22 post (nI f) f_width f_length f_place f_toks f_nodes f_defs a_text a_tok a_tokNum a_tokPlace a_opened a_nOp a_nNum a_nPlace a_nA a_nB a_nC a_nLo a_nHi a_nLevel a_defName a_defPlace a_defRoot a_loaded a_count a_status a_number a_origin a_choice a_slotF a_slotX a_slotHeld n y := by
        intro q y ey
        rw [ey, nI_1]
        refine ih (r + 1) (by omega) (fun s hs us => ?_) n (by omega)
        by_cases w : s = r
        · subst w; exact q us
        · exact hn s (by omega) us
      have ed : nI r / 24 = nI (r / 24) := pk_div (d := 24) (by omega) (by decide) (by decide)
      have er : nI r - nI r / 24 * 24 = nI (r % 24) := pk_rem (d := 24) (by omega) (by decide) (by decide)
      refine br_f (nI_ge (b := 120) (by omega) (by decide)) ⟨by decide, fun x ex => ?_⟩
      rw [ed] at ex
      subst ex
      have r5 : r / 24 < 5 := by omega
      refine pk_eq (r / 24) f (fun c => nx (fun us q => q.2.1 (by rw [(p2.1 r us).2]; exact c))) (fun c => ⟨vp_in_nI r5 (by decide), ?_⟩)
      rw [nI_clamp (n := r / 24) (by omega), p3 _ r5]
      by_cases z : 0 < P 5 (r / 24)
      · rw [if_pos z]
        refine bq_1 ⟨by decide, vp_in_nI r5 (by decide), ?_⟩
        rw [p4 _ r5 z, er]
        have g24 := h24 (r / 24)
        refine pk_le (P 5 (r / 24)) (r % 24) (fun c2 => nx (fun us => by have := us.2; omega)) (fun c2 => ?_)
        have us : ou_us P r := ⟨by omega, c2⟩
        obtain ⟨n1, n2, _⟩ := p5 r us
        obtain ⟨l1, l2⟩ := p2.1 r us
        obtain ⟨o1, o2, o3, _⟩ := p1.2.2.2 _ l1
        have bd : P 0 (g r) ≤ 28 := o1.2.1
        have hin : vp_in (nI r) 320 := vp_in_nI (by omega) (by decide)
        refine ⟨hin, ?_⟩
        rw [nI_clamp (n := r) (by omega), n1]
        refine pk_eq (P 0 (g r)) 13 (fun c3 => ⟨hin, ?_⟩) (fun c3 => nx (fun _ q => c3 q.2.2.1))
        have l5 := (o3 c3).1
        rw [n2]
        exact pk_eq (P 1 (g r)) f (fun c4 => h1 ⟨_, l1, by rw [l2]; exact c, c3, c4⟩) (fun c4 => nx (fun _ q => c4 q.2.2.2))
      · rw [if_neg z]
        exact br_t rfl (nx (fun us => by have := us.2; omega))
  exact ⟨_, key 120 0 rfl (fun s hs => by omega) _ (Nat.lt_succ_self _)⟩
end
theorem i_vc_unload {k : Nat} {u : SX} {v : SY} (I : i_Rel k u v) (hk : k + 4 ≤ 2049) (v1 : Int32) : wpX_unload (fun r u' => wpY_unload (fun r' v' => r' = r ∧ i_Rel (k + 4) u' v') v v1) u v1 := by
  have I0 := I
  obtain ⟨P, L, tx, pl, sl, g, hG, hX, hY⟩ := I
  have hX0 := hX
  have hY0 := hY
  obtain ⟨f_width, f_textLength, f_foundPlace, f_tokenCount, f_frameCount, f_operandCount, f_defCount, f_nodeEnd, a_text, a_tokenCode, a_tokenPlace, a_frameCode, a_framePlace, a_operand, a_defPlace, a_defFirst, a_defEnd, a_nodeOp, a_nodeNumber, a_nodePlace, a_nodeDepth, a_nodeKind, a_part, a_size, a_kindFound, a_choice, a_status, a_result, a_slotFunction, a_slotArgument⟩ := u
  obtain ⟨f_width2, f_length2, f_place2, f_toks2, f_nodes2, f_defs2, a_text2, a_tok2, a_tokNum2, a_tokPlace2, a_opened2, a_nOp2, a_nNum2, a_nPlace2, a_nA2, a_nB2, a_nC2, a_nLo2, a_nHi2, a_nLevel2, a_defName2, a_defPlace2, a_defRoot2, a_loaded2, a_count2, a_status2, a_number2, a_origin2, a_choice2, a_slotF2, a_slotX2, a_slotHeld2⟩ := v
  obtain ⟨x1, x2, x3, x4, x5, x6, x7, x8, x9, x10⟩ := hX
  obtain ⟨y1, y2, y3, y4, y5, y6, y7, y8, y9, y10⟩ := hY
  have xl := qu_xl hG hX0
  have yl := qu_yl hG hY0
  have h5 : ∀ s, s < 3 → ∀ f x, sl s = some (f, x) → f < 5 := fun s hs f x q => (hG.2.2.2.2.2 s hs f x q).1
  obtain ⟨c0, c1, c2⟩ := hG.2.1
  unfold wpX_unload
  refine sl_Xd hG hX0 (fun hd => br_t rfl ?_) (fun f hd => bq_1 ?_)
  · have no : (0 : Int32) = 0 ∧ i_Rel (k + 4) (f_width, f_textLength, f_foundPlace, f_tokenCount, f_frameCount, f_operandCount, f_defCount, f_nodeEnd, a_text, a_tokenCode, a_tokenPlace, a_frameCode, a_framePlace, a_operand, a_defPlace, a_defFirst, a_defEnd, a_nodeOp, a_nodeNumber, a_nodePlace, a_nodeDepth, a_nodeKind, a_part, a_size, a_kindFound, a_choice, a_status, a_result, a_slotFunction, a_slotArgument) (f_width2, f_length2, f_place2, f_toks2, f_nodes2, f_defs2, a_text2, a_tok2, a_tokNum2, a_tokPlace2, a_opened2, a_nOp2, a_nNum2, a_nPlace2, a_nA2, a_nB2, a_nC2, a_nLo2, a_nHi2, a_nLevel2, a_defName2, a_defPlace2, a_defRoot2, a_loaded2, a_count2, a_status2, a_number2, a_origin2, a_choice2, a_slotF2, a_slotX2, a_slotHeld2) := ⟨rfl, I0⟩
    by_cases a : v1 < 0
    · exact br_t a no
    · refine br_f a ?_
      by_cases b : 4 < v1
      · exact br_t b no
      · refine br_f b ?_
        have nab : ¬ (v1 < 0 ∨ 5 ≤ v1) := fun q => q.elim a b
        obtain ⟨s, hs, e, e2⟩ := sl_in (n := 5) (by decide) nab
        have e3 : sl_d P v1 = if P 5 s = 0 then none else some s := by unfold sl_d; rw [if_neg nab, e2]
        have z : P 5 s = 0 := by
          by_cases z : P 5 s = 0
          · exact z
          · rw [e3, if_neg z] at hd; exact absurd hd (by simp)
        refine ⟨by rw [e]; exact vp_in_nI hs (by decide), ?_⟩
        rw [e2, yl.2.2.1 s hs, if_neg (by omega)]
        exact br_t rfl no
  · obtain ⟨f5, rfl, fs⟩ := sl_ds hd
    -- Y begins
    have yb : ∀ (r : Int32) (u' : SX), (∃ n, wY_unload_22 (fun r' v' => r' = r ∧ i_Rel (k + 4) u' v') (nI f) f_width2 f_length2 f_place2 f_toks2 f_nodes2 f_defs2 a_text2 a_tok2 a_tokNum2 a_tokPlace2 a_opened2 a_nOp2 a_nNum2 a_nPlace2 a_nA2 a_nB2 a_nC2 a_nLo2 a_nHi2 a_nLevel2 a_defName2 a_defPlace2 a_defRoot2 a_loaded2 a_count2 a_status2 a_number2 a_origin2 a_choice2 a_slotF2 a_slotX2 a_slotHeld2 n 0) → wpY_unload (fun r' v' => r' = r ∧ i_Rel (k + 4) u' v') (f_width2, f_length2, f_place2, f_toks2, f_nodes2, f_defs2, a_text2, a_tok2, a_tokNum2, a_tokPlace2, a_opened2, a_nOp2, a_nNum2, a_nPlace2, a_nA2, a_nB2, a_nC2, a_nLo2, a_nHi2, a_nLevel2, a_defName2, a_defPlace2, a_defRoot2, a_loaded2, a_count2, a_status2, a_number2, a_origin2, a_choice2, a_slotF2, a_slotX2, a_slotHeld2) (nI f) := by
      intro r u' h
      refine br_f (nI_pos (by omega)) (br_f (nI_nlt (a := 4) (by omega) (by omega)) ⟨vp_in_nI f5 (by decide), ?_⟩)
      rw [nI_clamp (by omega), y5 f f5, if_pos fs]
      exact bq_1 h
    refine ul_X xl f5 (fun hc => bq_1 ?_) (fun hc => br_t rfl ?_)
    · exact yb 0 _ (ul_Y yl f5 (fun _ => ⟨rfl, I0⟩) (fun n => absurd hc n))
    · refine ul_Xs x10 h5 f5 (fun hs => ?_) (fun hs => ?_)
      · exact yb 0 _ (ul_Y yl f5 (fun n => absurd n hc) (fun _ => ul_Ys y10 h5 f5 (fun _ => ⟨rfl, I0⟩) (fun n => absurd hs n)))
      · have hc2 : ∀ u, ou_us P u → u / 24 ≠ f → P 0 u = 13 → P 1 u ≠ f := fun u h1 h2 h3 h4 => hc ⟨u, h1, h2, h3, h4⟩
        have xl2 : xl_P (un_P P f) (upd a_size f 0) a_nodeOp a_nodeNumber a_nodePlace a_part := by
          refine ⟨un_ok hG.1 hc2, un_le hG.2.2.2.2.1, fun h hh => ?_, fun u hu => ?_, x7⟩
          · by_cases q : h = f
            · subst q; rw [pk_us, un_f]; rfl
            · rw [pk_un q, un_o q]; exact x5 h hh
          · unfold rl_nX
            rw [un_k (f := f) (k := 0) (by decide), un_k (f := f) (k := 1) (by decide), un_k (f := f) (k := 2) (by decide), un_k (f := f) (k := 3) (by decide), un_k (f := f) (k := 4) (by decide)]
            exact x6 u (un_us.mp hu).1
        refine fk_X xl2 (fun kf nk ch hkf => ?_)
        refine yb 1 _ (ul_Y yl f5 (fun n => absurd n hc) (fun _ => ul_Ys y10 h5 f5 (fun n => absurd n hs) (fun _ => ⟨rfl, ?_⟩)))
        obtain ⟨q1, q2, q3, q4, q5⟩ := xl2
        have e6 : un_P P f 6 = P 6 := un_k (by decide)
        refine ⟨un_P P f, L, tx, pl, sl, g, ⟨q1, ⟨c0, c1, un_ki c2⟩, hG.2.2.1, hG.2.2.2.1, q2, fun s hs3 h x hsl => ?_⟩, ⟨by rw [e6]; exact x1, x2, x3, x4, q3, q4, q5, fun h hh _ => hkf h hh, un_tX hG.1 c2 hc x9, x10⟩, ⟨by rw [e6]; exact y1, y2, y3, y4, fun h hh => ?_, fun h hh hp => ?_, fun r hr => un_nY hG.1 y8 hr (y7 r (un_us.mp hr).1), un_g y8, un_tY hG.1 c2 hc y8 y9, y10⟩⟩
        · obtain ⟨z1, z2, z3⟩ := hG.2.2.2.2.2 s hs3 h x hsl
          have nf : h ≠ f := fun q => hs ⟨s, x, hs3, q ▸ hsl⟩
          exact ⟨z1, by rw [un_o nf]; exact z2, by rw [e6]; exact z3⟩
        · by_cases q : h = f
          · subst q; rw [pk_us, un_f]; rfl
          · rw [pk_un q, un_o q]; exact y5 h hh
        · by_cases q : h = f
          · rw [q, un_f] at hp; omega
          · rw [un_o q] at hp ⊢; exact y6 h hh hp
