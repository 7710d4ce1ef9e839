-- X finds all outcomes
theorem fo_t {P : Nat → Nat → Nat} {T : Nat → Option ou_O} {c : Nat} {st st2 : Nat → Int32} {re re2 : Nat → Int64} (hu : ou_uc P c) (hn : T c = none) (ht : rl_tX P T st re) (hk : ∀ i, i ≠ c → st2 i = st i ∧ re2 i = re i)
    (h0 : ou_rl P T c = none → st2 c = 2) (h1 : ∀ o, ou_rl P T c = some o → st2 c = nI o.1 ∧ (o.1 = 1 → re2 c = o.2.2)) : rl_tX P (ps_u P T c) st2 re2 := by
  intro d hd
  by_cases e : d = c
  · subst e
    rw [ps_us hn hu]
    exact ⟨h0, h1⟩
  · rw [ps_un e, (hk d e).1, (hk d e).2]
    exact ht d hd
section
variable {f_width f_textLength f_foundPlace f_tokenCount f_frameCount f_operandCount f_defCount f_nodeEnd : Int32} {a_text a_tokenCode a_tokenPlace a_frameCode a_framePlace a_operand a_defPlace a_defFirst a_defEnd a_nodeOp a_nodeNumber a_nodePlace a_nodeDepth a_nodeKind a_part a_size a_kindFound a_choice a_status : Nat → Int32} {a_result : Nat → Int64} {a_slotFunction a_slotArgument : Nat → Int32} {P : Nat → Nat → Nat} {c0 : Nat}
theorem iu_X (hP : xl_P P a_size a_nodeOp a_nodeNumber a_nodePlace a_part) (hw : f_width = nI (P 6 0)) {c : Nat} (hc : c < 720) {post : Int32 → Prop} (h1 : ou_uc P c → post 1) (h0 : ¬ ou_uc P c → post 0) : wpX_isInUse post (f_width, f_textLength, f_foundPlace, f_tokenCount, f_frameCount, f_operandCount, f_defCount, f_nodeEnd, a_text, a_tokenCode, a_tokenPlace, a_frameCode, a_framePlace, a_operand, a_defPlace, a_defFirst, a_defEnd, a_nodeOp, a_nodeNumber, a_nodePlace, a_nodeDepth, a_nodeKind, a_part, a_size, a_kindFound, a_choice, a_status, a_result, a_slotFunction, a_slotArgument) (nI c) := by
  obtain ⟨p1, p2, p3, p4, p5⟩ := hP
  have ed : nI c / 6 = nI (c / 6) := pk_div (d := 6) (by omega) (by decide) (by decide)
  have er : nI c - nI c / 6 * 6 = nI (c % 6) := pk_rem (d := 6) (by omega) (by decide) (by decide)
  have ed2 : nI (c / 6) / 24 = nI (c / 6 / 24) := pk_div (d := 24) (by omega) (by decide) (by decide)
  have er2 : nI (c / 6) - nI (c / 6) / 24 * 24 = nI (c / 6 % 24) := pk_rem (d := 24) (by omega) (by decide) (by decide)
  have w6 := p1.2.1
  have f5 : c / 6 / 24 < 5 := by omega
  refine ⟨by decide, fun y ey => ⟨by decide, ?_⟩⟩
  rw [ed] at ey
  subst ey
  rw [er, hw]
  refine pk_le (P 6 0) (c % 6) (fun q => h0 (fun w => by have := w.2; omega)) (fun q => ⟨by decide, by decide, ?_⟩)
  rw [er2, ed2]
  refine ⟨vp_in_nI f5 (by decide), ?_⟩
  have s24 := p1.2.2.1 (c / 6 / 24)
  rw [nI_clamp (by omega), p3 _ f5]
  exact pk_le (P 5 (c / 6 / 24)) (c / 6 % 24) (fun q2 => h0 (fun w => by have := w.1.2; omega)) (fun q2 => h1 ⟨⟨by omega, q2⟩, q⟩)
theorem fo_X (hP : xl_P P a_size a_nodeOp a_nodeNumber a_nodePlace a_part) (hw : f_width = nI (P 6 0)) (hv : rl_V P c0) {post : SX → Prop}
    (h : ∀ st re, rl_tX P (ou_E P) st re → post (f_width, f_textLength, f_foundPlace, f_tokenCount, f_frameCount, f_operandCount, f_defCount, f_nodeEnd, a_text, a_tokenCode, a_tokenPlace, a_frameCode, a_framePlace, a_operand, a_defPlace, a_defFirst, a_defEnd, a_nodeOp, a_nodeNumber, a_nodePlace, a_nodeDepth, a_nodeKind, a_part, a_size, a_kindFound, a_choice, st, re, a_slotFunction, a_slotArgument)) : wpX_findOutcomes post (f_width, f_textLength, f_foundPlace, f_tokenCount, f_frameCount, f_operandCount, f_defCount, f_nodeEnd, a_text, a_tokenCode, a_tokenPlace, a_frameCode, a_framePlace, a_operand, a_defPlace, a_defFirst, a_defEnd, a_nodeOp, a_nodeNumber, a_nodePlace, a_nodeDepth, a_nodeKind, a_part, a_size, a_kindFound, a_choice, a_status, a_result, a_slotFunction, a_slotArgument) := by
  have ls : ∀ (T : Nat → Option ou_O) (o : ou_O) d, ps_s P T → T d = some o → o.1 < 6 ∧ o.1 ≠ 2 := by
    intro T o d hT hd
    rcases ru_t hP.1 hv hT hd with q | q
    · omega
    · have := q.1; omega
  -- one pass
  have inner : ∀ (A : Nat → Option ou_O) (n26 : Nat) (x2 : Nat) (J : Int32 → Int32 → Int32 → Int32 → Int32 → Int32 → Int32 → Int32 → Int32 → Int32 → (Nat → Int32) → (Nat → Int32) → (Nat → Int32) → (Nat → Int32) → (Nat → Int32) → (Nat → Int32) → (Nat → Int32) → (Nat → Int32) → (Nat → Int32) → (Nat → Int32) → (Nat → Int32) → (Nat → Int32) → (Nat → Int32) → (Nat → Int32) → (Nat → Int32) → (Nat → Int32) → (Nat → Int32) → (Nat → Int32) → (Nat → Int32) → (Nat → Int64) → (Nat → Int32) → (Nat → Int32) → Prop),
      (∀ T st re (s : Prop) (x1 : Int32), ps_I P A (fun c => c < 720) T s → rl_tX P T st re → (s → x1 = 1) → (¬ s → x1 = 0) → J x1 (nI (x2 + 1)) f_width f_textLength f_foundPlace f_tokenCount f_frameCount f_operandCount f_defCount f_nodeEnd a_text a_tokenCode a_tokenPlace a_frameCode a_framePlace a_operand a_defPlace a_defFirst a_defEnd a_nodeOp a_nodeNumber a_nodePlace a_nodeDepth a_nodeKind a_part a_size a_kindFound a_choice st re a_slotFunction a_slotArgument) →
      ∀ d c T st re (s : Prop) (x1 : Int32), c + d = 720 → ps_I P A (fun i => i < c) T s → rl_tX P T st re → (s → x1 = 1) → (¬ s → x1 = 0) → ∀ n, d < n →
        wX_findOutcomes_41 post J (nI x2) n x1 (nI c) f_width f_textLength f_foundPlace f_tokenCount f_frameCount f_operandCount f_defCount f_nodeEnd a_text a_tokenCode a_tokenPlace a_frameCode a_framePlace a_operand a_defPlace a_defFirst a_defEnd a_nodeOp a_nodeNumber a_nodePlace a_nodeDepth a_nodeKind a_part a_size a_kindFound a_choice st re a_slotFunction a_slotArgument := by
    intro A n26 x2 J hJ d
    induction d with
    | zero =>
      intro c T st re s x1 hc I ht hs1 hs0 n hn
      obtain ⟨n, rfl⟩ : ∃ w, n = w + 1 := ⟨n - 1, by omega⟩
      have : c = 720 := by omega
      subst this
      refine br_t (nI_le (a := 720) (by decide) (by decide)) (fun y ey => ?_)
      rw [ey, nI_1]
      exact hJ T st re s x1 I ht hs1 hs0
    | succ d ih =>
      intro c T st re s x1 hc I ht hs1 hs0 n hn
      obtain ⟨n, rfl⟩ : ∃ w, n = w + 1 := ⟨n - 1, by omega⟩
      have c720 : c < 720 := by omega
      have hin := vp_in_nI (n := c) (N := 720) c720 (by decide)
      have skip : ¬ (T c = none ∧ ou_uc P c) → ∀ y, y = nI c + 1 → wX_findOutcomes_41 post J (nI x2) n x1 y f_width f_textLength f_foundPlace f_tokenCount f_frameCount f_operandCount f_defCount f_nodeEnd a_text a_tokenCode a_tokenPlace a_frameCode a_framePlace a_operand a_defPlace a_defFirst a_defEnd a_nodeOp a_nodeNumber a_nodePlace a_nodeDepth a_nodeKind a_part a_size a_kindFound a_choice st re a_slotFunction a_slotArgument := by
        intro hn2 y ey
        rw [ey, nI_1]
        have I2 := ps_st (Y := fun i => i < c + 1) (t := s) (c := c) I c720 (fun i hi => by
          by_cases e : i = c
          · exact Or.inr e
          · exact Or.inl (by omega)) ⟨fun q => Or.inl q, fun q => q.elim id (fun w => absurd ⟨w.1, w.2.1⟩ hn2)⟩
        rw [ps_uk hn2] at I2
        exact ih (c + 1) T st re s x1 (by omega) I2 ht hs1 hs0 n (by omega)
      refine br_f (nI_ge (b := 720) c720 (by decide)) ⟨hin, ?_⟩
      rw [nI_clamp (by omega)]
      refine br_c (fun e2 => ?_) (fun e2 => skip (fun q => e2 ((ht c q.2).1 q.1)))
      refine iu_X hP hw c720 (fun hu => bq_1 ⟨by decide, by decide, ?_⟩) (fun hu => br_t rfl (skip (fun q => hu q.2)))
      have tn : T c = none := by
        cases hh : T c with
        | none => rfl
        | some o =>
          have := (ht c hu).2 o hh
          rw [this.1] at e2
          have l := ls T o c I.1 hh
          have := (nI_eq (b := 2) (by omega) (by decide)).mp e2
          omega
      have ed : nI c / 6 = nI (c / 6) := pk_div (d := 6) (by omega) (by decide) (by decide)
      have er : nI c - nI c / 6 * 6 = nI (c % 6) := pk_rem (d := 6) (by omega) (by decide) (by decide)
      rw [er, ed]
      refine st_X (T := T) hP hw hv I.1 ht hu (fun st2 re2 hk h0 h1 => ⟨hin, ?_⟩)
      have ht2 := fo_t hu tn ht hk h0 h1
      have goY : ∀ i, i < c + 1 → i < c ∨ i = c := fun i hi => by omega
      cases hr : ou_rl P T c with
      | none =>
        refine br_t (h0 hr) (fun y ey z ez => ?_)
        have e0 : x1 ||| 0 = x1 := by simp
        rw [e0] at ey
        rw [nI_1] at ez
        subst ey ez
        refine ih (c + 1) _ st2 re2 s y (by omega) (ps_st (Y := fun i => i < c + 1) (t := s) I c720 goY ⟨fun q => Or.inl q, fun q => q.elim id (fun w => absurd hr w.2.2)⟩) ht2 hs1 hs0 n (by omega)
      | some o =>
        have so := (h1 o hr).1
        have l := ls (ps_u P T c) o c (ps_uS I.1) (by rw [ps_us tn hu]; exact hr)
        refine br_f (fun q => by rw [so] at q; have := (nI_eq (b := 2) (by omega) (by decide)).mp q; omega) (fun y ey z ez => ?_)
        have e1 : x1 ||| 1 = 1 := by
          by_cases q : s
          · rw [hs1 q]; decide
          · rw [hs0 q]; decide
        rw [e1] at ey
        rw [nI_1] at ez
        subst ey ez
        exact ih (c + 1) _ st2 re2 True 1 (by omega) (ps_st (Y := fun i => i < c + 1) (t := True) I c720 goY ⟨fun _ => Or.inr ⟨tn, hu, by rw [hr]; simp⟩, fun _ => trivial⟩) ht2 (fun _ => rfl) (fun q => absurd trivial q) n (by omega)
  -- the passes
  have outer : ∀ m T st re p, ps_s P T → rl_tX P T st re → ct_n (fun c => (T c).isNone) 720 ≤ m → p + m ≤ 720 → ∀ n, m + 1 < n →
      wX_findOutcomes_26 post n 1 (nI p) f_width f_textLength f_foundPlace f_tokenCount f_frameCount f_operandCount f_defCount f_nodeEnd a_text a_tokenCode a_tokenPlace a_frameCode a_framePlace a_operand a_defPlace a_defFirst a_defEnd a_nodeOp a_nodeNumber a_nodePlace a_nodeDepth a_nodeKind a_part a_size a_kindFound a_choice st re a_slotFunction a_slotArgument := by
    intro m
    induction m with
    | zero =>
      intro T st re p hT ht hm hp n hn
      obtain ⟨n, rfl⟩ : ∃ w, n = w + 1 + 1 := ⟨n - 2, by omega⟩
      refine br_f (nI_nlt (a := 720) (by omega) (by omega)) (bq_1 ⟨721, inner T 0 p _ (fun T2 st2 re2 s x1 I ht2 s1 s0 => ?_) 720 0 T st re False 0 rfl ⟨hT, fun _ _ q => q, fun q => q.elim, fun _ => ⟨rfl, fun c hc => by omega⟩⟩ ht (fun q => q.elim) (fun _ => rfl) 721 (by decide)⟩)
      have ns : ¬ s := fun q => by have := ps_n I q; omega
      obtain ⟨e, cl⟩ := I.2.2.2 ns
      have cl2 : ∀ c, ou_uc P c → T2 c = none → ou_rl P T2 c = none := fun c hu q => by
        rw [e] at q ⊢; exact cl c (ou_uc_lt hu) hu q
      rw [s0 ns]
      have E := ps_f I.1 cl2
      rw [E] at ht2
      exact br_c (fun _ => h st2 re2 ht2) (fun _ => br_t rfl (h st2 re2 ht2))
    | succ m ih =>
      intro T st re p hT ht hm hp n hn
      obtain ⟨n, rfl⟩ : ∃ w, n = w + 1 + 1 := ⟨n - 2, by omega⟩
      refine br_f (nI_nlt (a := 720) (by omega) (by omega)) (bq_1 ⟨721, inner T 0 p _ (fun T2 st2 re2 s x1 I ht2 s1 s0 => ?_) 720 0 T st re False 0 rfl ⟨hT, fun _ _ q => q, fun q => q.elim, fun _ => ⟨rfl, fun c hc => by omega⟩⟩ ht (fun q => q.elim) (fun _ => rfl) 721 (by decide)⟩)
      by_cases q : s
      · have := ps_n I q
        rw [s1 q]
        exact ih T2 st2 re2 (p + 1) I.1 ht2 (by omega) (by omega) (n + 1) (by omega)
      · obtain ⟨e, cl⟩ := I.2.2.2 q
        have cl2 : ∀ c, ou_uc P c → T2 c = none → ou_rl P T2 c = none := fun c hu q => by
          rw [e] at q ⊢; exact cl c (ou_uc_lt hu) hu q
        rw [s0 q]
        have E := ps_f I.1 cl2
        rw [E] at ht2
        exact br_c (fun _ => h st2 re2 ht2) (fun _ => br_t rfl (h st2 re2 ht2))
  -- the table is cleared
  have clr : ∀ d c st, c + d = 720 → (∀ i, i < c → st i = 2) → ∀ n, d < n → wX_findOutcomes_2 post f_width f_textLength f_foundPlace f_tokenCount f_frameCount f_operandCount f_defCount f_nodeEnd n (nI c) a_text a_tokenCode a_tokenPlace a_frameCode a_framePlace a_operand a_defPlace a_defFirst a_defEnd a_nodeOp a_nodeNumber a_nodePlace a_nodeDepth a_nodeKind a_part a_size a_kindFound a_choice st a_result a_slotFunction a_slotArgument := by
    intro d
    induction d with
    | zero =>
      intro c st hc hs n hn
      obtain ⟨n, rfl⟩ : ∃ w, n = w + 1 := ⟨n - 1, by omega⟩
      have : c = 720 := by omega
      subst this
      exact br_t (nI_le (a := 720) (by decide) (by decide)) ⟨_, outer 720 (fun _ => none) st a_result 0 (fun c o q => absurd q (by simp)) (fun c hu => ⟨fun _ => hs c (ou_uc_lt hu), fun o q => absurd q (by simp)⟩) (ct_le _ _) (by omega) 722 (by decide)⟩
    | succ d ih =>
      intro c st hc hs n hn
      obtain ⟨n, rfl⟩ : ∃ w, n = w + 1 := ⟨n - 1, by omega⟩
      refine br_f (nI_ge (b := 720) (by omega) (by decide)) ⟨vp_in_nI (by omega) (by decide), fun A eA y ey => ?_⟩
      rw [nI_clamp (by omega)] at eA
      rw [nI_1] at ey
      subst eA ey
      refine ih (c + 1) _ (by omega) (fun i hi => ?_) n (by omega)
      by_cases e : i = c
      · rw [e, pk_us]
      · rw [pk_un e]; exact hs i (by omega)
  exact ⟨_, clr 720 0 a_status rfl (fun i hi => by omega) 721 (by decide)⟩
end
