-- Y sweeps and solves
section
variable {f_width f_length f_place f_toks f_nodes f_defs : Int32} {a_text a_tok a_tokNum a_tokPlace a_opened a_nOp a_nNum a_nPlace a_nA a_nB a_nC a_nLo a_nHi a_nLevel a_defName a_defPlace a_defRoot a_loaded a_count a_status : Nat → Int32} {a_number : Nat → Int64} {a_origin a_choice a_slotF a_slotX a_slotHeld : Nat → Int32} {P : Nat → Nat → Nat} {c0 : Nat} {g : Nat → Nat}
theorem so_t {T : Nat → Option ou_O} {d : Nat} {st st2 : Nat → Int32} {nu nu2 : Nat → Int64} {og og2 : Nat → Int32} (hg : rl_g P g) (hu : ou_uc P d) (huc : ou_uc P (rl_gc g d)) (hn : T (rl_gc g d) = none) (ht : rl_tY P g T st nu og)
    (hk : ∀ i, i ≠ d → st2 i = st i ∧ nu2 i = nu i ∧ og2 i = og i) (h0 : ou_rl P T (rl_gc g d) = none → st2 d = 0) (h1 : ∀ o, ou_rl P T (rl_gc g d) = some o → yo_P P g o (st2 d) (nu2 d) (og2 d)) : rl_tY P g (ps_u P T (rl_gc g d)) st2 nu2 og2 := by
  intro e he
  by_cases q : e = d
  · subst q
    rw [ps_us hn huc]
    exact ⟨h0, h1⟩
  · have ne : rl_gc g e ≠ rl_gc g d := by
      intro w
      apply q
      unfold rl_gc at w
      have a : g (e / 6) = g (d / 6) := by omega
      have b := hg.2.2.1 _ _ he.1 hu.1 a
      omega
    rw [ps_un ne, (hk e q).1, (hk e q).2.1, (hk e q).2.2]
    exact ht e he
theorem so_Y (hP : yl_P P g a_loaded a_count a_nOp a_nNum a_nA a_nB a_nC) (hw : f_width = nI (P 6 0)) (hv : rl_V P c0) {post : SY → Prop}
    (h : ∀ st nu og, rl_tY P g (ou_E P) st nu og → post (f_width, f_length, f_place, f_toks, f_nodes, f_defs, a_text, a_tok, a_tokNum, a_tokPlace, a_opened, a_nOp, a_nNum, a_nPlace, a_nA, a_nB, a_nC, a_nLo, a_nHi, a_nLevel, a_defName, a_defPlace, a_defRoot, a_loaded, a_count, st, nu, og, a_choice, a_slotF, a_slotX, a_slotHeld)) : wpY_solve post (f_width, f_length, f_place, f_toks, f_nodes, f_defs, a_text, a_tok, a_tokNum, a_tokPlace, a_opened, a_nOp, a_nNum, a_nPlace, a_nA, a_nB, a_nC, a_nLo, a_nHi, a_nLevel, a_defName, a_defPlace, a_defRoot, a_loaded, a_count, a_status, a_number, a_origin, a_choice, a_slotF, a_slotX, a_slotHeld) := by
  have hP0 := hP
  obtain ⟨p1, p2, p3, p4, p5⟩ := hP
  have ls : ∀ (T : Nat → Option ou_O) (o : ou_O) d, ps_s P T → T d = some o → o.1 < 6 ∧ 0 < o.1 := by
    intro T o d hT hd
    rcases ru_t p1 hv hT hd with q | q
    · omega
    · have := q.1; omega
  have w6 := p1.2.1
  have gcu : ∀ d, ou_uc P d → ou_uc P (rl_gc g d) := by
    intro d hu
    have cd : rl_gc g d / 6 = g (d / 6) := by unfold rl_gc; omega
    have cm : rl_gc g d % 6 = d % 6 := by unfold rl_gc; omega
    unfold ou_uc; rw [cd, cm]; exact ⟨(p2.1 _ hu.1).1, hu.2⟩
  -- a sweep
  have sweep : ∀ (A : Nat → Option ou_O) (post2 : Int32 → SY → Prop),
      (∀ T st nu og (s : Prop) (x1 : Int32), ps_I P A (fun c => ∃ d, d < 720 ∧ ou_uc P d ∧ rl_gc g d = c) T s → rl_tY P g T st nu og → (s → x1 = 1) → (¬ s → x1 = 0) → post2 x1 (f_width, f_length, f_place, f_toks, f_nodes, f_defs, a_text, a_tok, a_tokNum, a_tokPlace, a_opened, a_nOp, a_nNum, a_nPlace, a_nA, a_nB, a_nC, a_nLo, a_nHi, a_nLevel, a_defName, a_defPlace, a_defRoot, a_loaded, a_count, st, nu, og, a_choice, a_slotF, a_slotX, a_slotHeld)) →
      ∀ k d T st nu og (s : Prop) (x1 : Int32), d + k = 720 → ps_I P A (fun c => ∃ i, i < d ∧ ou_uc P i ∧ rl_gc g i = c) T s → rl_tY P g T st nu og → (s → x1 = 1) → (¬ s → x1 = 0) → ∀ n, k < n →
        wY_sweep_4 post2 n x1 (nI d) f_width f_length f_place f_toks f_nodes f_defs a_text a_tok a_tokNum a_tokPlace a_opened a_nOp a_nNum a_nPlace a_nA a_nB a_nC a_nLo a_nHi a_nLevel a_defName a_defPlace a_defRoot a_loaded a_count st nu og a_choice a_slotF a_slotX a_slotHeld := by
    intro A post2 hp k
    induction k with
    | zero =>
      intro d T st nu og s x1 hd I ht hs1 hs0 n hn
      obtain ⟨n, rfl⟩ : ∃ w, n = w + 1 := ⟨n - 1, by omega⟩
      have : d = 720 := by omega
      subst this
      refine br_t (nI_le (a := 720) (by decide) (by decide)) ⟨?_, hp T st nu og s x1 I ht hs1 hs0⟩
      by_cases q : s
      · rw [hs1 q]; rfl
      · rw [hs0 q]; rfl
    | succ k ih =>
      intro d T st nu og s x1 hd I ht hs1 hs0 n hn
      obtain ⟨n, rfl⟩ : ∃ w, n = w + 1 := ⟨n - 1, by omega⟩
      have d720 : d < 720 := by omega
      have hid := vp_in_nI (n := d) (N := 720) d720 (by decide)
      have ed : nI d / 6 = nI (d / 6) := pk_div (d := 6) (by omega) (by decide) (by decide)
      have er : nI d - nI d / 6 * 6 = nI (d % 6) := pk_rem (d := 6) (by omega) (by decide) (by decide)
      have ed2 : nI (d / 6) / 24 = nI (d / 6 / 24) := pk_div (d := 24) (by omega) (by decide) (by decide)
      have er2 : nI (d / 6) - nI (d / 6) / 24 * 24 = nI (d / 6 % 24) := pk_rem (d := 24) (by omega) (by decide) (by decide)
      have f5 : d / 6 / 24 < 5 := by omega
      have hin5 := vp_in_nI (n := d / 6 / 24) (N := 5) f5 (by decide)
      have skip : (ou_uc P d → T (rl_gc g d) ≠ none) → ∀ y, y = nI d + 1 → wY_sweep_4 post2 n x1 y f_width f_length f_place f_toks f_nodes f_defs a_text a_tok a_tokNum a_tokPlace a_opened a_nOp a_nNum a_nPlace a_nA a_nB a_nC a_nLo a_nHi a_nLevel a_defName a_defPlace a_defRoot a_loaded a_count st nu og a_choice a_slotF a_slotX a_slotHeld := by
        intro hh y ey
        rw [ey, nI_1]
        refine ih (d + 1) T st nu og s x1 (by omega) ⟨I.1, I.2.1, I.2.2.1, fun ns => ?_⟩ ht hs1 hs0 n (by omega)
        obtain ⟨e, cl⟩ := I.2.2.2 ns
        refine ⟨e, fun c ⟨i, i1, i2, i3⟩ hu ha => ?_⟩
        by_cases q : i = d
        · subst q
          rw [← e, ← i3] at ha
          exact absurd ha (hh i2)
        · exact cl c ⟨i, by omega, i2, i3⟩ hu ha
      refine br_f (nI_ge (b := 720) d720 (by decide)) ⟨by decide, fun x3 e3 => ⟨by decide, fun x4 e4 => ⟨hid, ?_⟩⟩⟩
      rw [ed] at e3
      rw [er] at e4
      subst e3 e4
      rw [nI_clamp (by omega)]
      refine br_c (fun e0 => ?_) (fun e0 => skip (fun hu q => e0 ((ht d hu).1 q)))
      refine pk_le (P 6 0) (d % 6) (fun q => skip (fun hu => by have := hu.2; omega)) (fun q => ⟨by decide, ?_⟩) hw
      rw [er2, ed2]
      refine ⟨hin5, ?_⟩
      rw [nI_clamp (n := d / 6 / 24) (by omega), p3 _ f5]
      by_cases hs : 0 < P 5 (d / 6 / 24)
      · rw [if_pos hs]
        have s24 := p1.2.2.1 (d / 6 / 24)
        refine bq_1 ⟨by decide, by decide, hin5, ?_⟩
        rw [p4 _ f5 hs]
        refine pk_lt (d / 6 % 24) (P 5 (d / 6 / 24)) (fun q2 => ?_) (fun q2 => skip (fun hu => by have := hu.1.2; omega))
        have hu : ou_uc P d := ⟨⟨by omega, q2⟩, q⟩
        have tn : T (rl_gc g d) = none := by
          cases hh : T (rl_gc g d) with
          | none => rfl
          | some o =>
            have := ((ht d hu).2 o hh).1
            rw [this] at e0
            have l := ls T o _ I.1 hh
            exact absurd e0 (nI_ne0 l.2 (by omega))
        refine fd_Y (T := T) hP0 hw hv I.1 ht hu tn (fun st2 nu2 og2 hk h0 h1 => ?_)
        have huc := gcu d hu
        have ccl := ou_uc_lt huc
        have ht2 := so_t p2 hu huc tn ht hk h0 h1
        have goY : ∀ c, (∃ i, i < d + 1 ∧ ou_uc P i ∧ rl_gc g i = c) → (∃ i, i < d ∧ ou_uc P i ∧ rl_gc g i = c) ∨ c = rl_gc g d := by
          rintro c ⟨i, i1, i2, i3⟩
          by_cases e : i = d
          · exact Or.inr (by rw [← i3, e])
          · exact Or.inl ⟨i, by omega, i2, i3⟩
        cases hr : ou_rl P T (rl_gc g d) with
        | none =>
          have I2 := ps_st (Y := fun c => ∃ i, i < d + 1 ∧ ou_uc P i ∧ rl_gc g i = c) (t := s) I ccl goY ⟨fun q => Or.inl q, fun q => q.elim id (fun w => absurd hr w.2.2)⟩
          by_cases q : s
          · rw [hs1 q]
            refine bq_1 (fun y ey => ?_)
            rw [ey, nI_1]
            exact ih (d + 1) _ st2 nu2 og2 s 1 (by omega) I2 ht2 (fun _ => rfl) (fun w => absurd q w) n (by omega)
          · rw [hs0 q]
            refine br_t rfl ⟨hid, br_t (h0 hr) (fun y ey => ?_)⟩
            rw [ey, nI_1]
            exact ih (d + 1) _ st2 nu2 og2 s 0 (by omega) I2 ht2 (fun w => absurd w q) (fun _ => rfl) n (by omega)
        | some o =>
          have so := (h1 o hr).1
          have l := ls (ps_u P T (rl_gc g d)) o _ (ps_uS I.1) (by rw [ps_us tn huc]; exact hr)
          have I2 := ps_st (Y := fun c => ∃ i, i < d + 1 ∧ ou_uc P i ∧ rl_gc g i = c) (t := True) I ccl goY ⟨fun _ => Or.inr ⟨tn, huc, by rw [hr]; simp⟩, fun _ => trivial⟩
          have fin : ∀ y, y = nI d + 1 → wY_sweep_4 post2 n 1 y f_width f_length f_place f_toks f_nodes f_defs a_text a_tok a_tokNum a_tokPlace a_opened a_nOp a_nNum a_nPlace a_nA a_nB a_nC a_nLo a_nHi a_nLevel a_defName a_defPlace a_defRoot a_loaded a_count st2 nu2 og2 a_choice a_slotF a_slotX a_slotHeld := by
            intro y ey
            rw [ey, nI_1]
            exact ih (d + 1) _ st2 nu2 og2 True 1 (by omega) I2 ht2 (fun _ => rfl) (fun w => absurd trivial w) n (by omega)
          by_cases q : s
          · rw [hs1 q]
            exact bq_1 fin
          · rw [hs0 q]
            exact br_t rfl ⟨hid, br_f (by rw [so]; exact nI_ne0 l.2 (by omega)) fin⟩
      · rw [if_neg hs]
        exact br_t rfl (skip (fun hu => by have := hu.1.2; omega))
  -- the sweeps
  have closed : ∀ T, ps_s P T → (∀ c, (∃ d, d < 720 ∧ ou_uc P d ∧ rl_gc g d = c) → ou_uc P c → T c = none → ou_rl P T c = none) → T = ou_E P := by
    intro T hT hc
    refine ps_f hT (fun c hu q => hc c ?_ hu q)
    obtain ⟨r, r1, r2⟩ := p2.2.2.2 _ hu.1
    have b := r1.1
    have b2 := hu.2
    have e1 : (r * 6 + c % 6) / 6 = r := by omega
    have e2 : (r * 6 + c % 6) % 6 = c % 6 := by omega
    refine ⟨r * 6 + c % 6, by omega, ⟨by rw [e1]; exact r1, by rw [e2]; exact b2⟩, ?_⟩
    unfold rl_gc
    rw [e1, e2, r2]; omega
  have outer : ∀ m T st nu og p, ps_s P T → rl_tY P g T st nu og → ct_n (fun c => (T c).isNone) 720 ≤ m → p + m ≤ 720 → ∀ n, m + 1 < n →
      wY_solve_26 post n 1 (nI p) f_width f_length f_place f_toks f_nodes f_defs a_text a_tok a_tokNum a_tokPlace a_opened a_nOp a_nNum a_nPlace a_nA a_nB a_nC a_nLo a_nHi a_nLevel a_defName a_defPlace a_defRoot a_loaded a_count st nu og a_choice a_slotF a_slotX a_slotHeld := by
    intro m
    induction m with
    | zero =>
      intro T st nu og p hT ht hm hp n hn
      obtain ⟨n, rfl⟩ : ∃ w, n = w + 1 + 1 := ⟨n - 2, by omega⟩
      have z := ct_0 (Nat.le_zero.mp hm)
      have E := closed T hT (fun c _ hu q => by have := z c (ou_uc_lt hu); rw [q] at this; exact absurd this (by decide))
      have ht0 := ht
      rw [E] at ht
      refine br_c (fun _ => h st nu og ht) (fun lt => bq_1 ?_)
      refine ⟨721, sweep T _ (fun T2 st2 nu2 og2 s x1 I ht2 s1 s0 => fun y ey => ?_) 720 0 T st nu og False 0 rfl ⟨hT, fun _ _ q => q, fun q => q.elim, fun _ => ⟨rfl, fun c hc => by obtain ⟨d, d1, _⟩ := hc; omega⟩⟩ ht0 (fun q => q.elim) (fun _ => rfl) 721 (by decide)⟩
      have ns : ¬ s := fun q => by have := ps_n I q; omega
      obtain ⟨e, cl⟩ := I.2.2.2 ns
      have E2 := closed T2 I.1 (fun c a b w => by rw [e] at w ⊢; exact cl c a b w)
      rw [E2] at ht2
      rw [s0 ns]
      exact br_c (fun _ => h st2 nu2 og2 ht2) (fun _ => br_t rfl (h st2 nu2 og2 ht2))
    | succ m ih =>
      intro T st nu og p hT ht hm hp n hn
      obtain ⟨n, rfl⟩ : ∃ w, n = w + 1 + 1 := ⟨n - 2, by omega⟩
      refine br_f (nI_ge (b := 720) (by omega) (by decide)) (bq_1 ⟨721, sweep T _ (fun T2 st2 nu2 og2 s x1 I ht2 s1 s0 => fun y ey => ?_) 720 0 T st nu og False 0 rfl ⟨hT, fun _ _ q => q, fun q => q.elim, fun _ => ⟨rfl, fun c hc => by obtain ⟨d, d1, _⟩ := hc; omega⟩⟩ ht (fun q => q.elim) (fun _ => rfl) 721 (by decide)⟩)
      rw [ey, nI_1]
      by_cases q : s
      · have := ps_n I q
        rw [s1 q]
        exact ih T2 st2 nu2 og2 (p + 1) I.1 ht2 (by omega) (by omega) (n + 1) (by omega)
      · obtain ⟨e, cl⟩ := I.2.2.2 q
        have E2 := closed T2 I.1 (fun c a b w => by rw [e] at w ⊢; exact cl c a b w)
        rw [E2] at ht2
        rw [s0 q]
        exact br_c (fun _ => h st2 nu2 og2 ht2) (fun _ => br_t rfl (h st2 nu2 og2 ht2))
  have clr : ∀ k c st, c + k = 720 → (∀ i, i < c → st i = 0) → ∀ n, k < n → wY_solve_2 post f_width f_length f_place f_toks f_nodes f_defs n (nI c) a_text a_tok a_tokNum a_tokPlace a_opened a_nOp a_nNum a_nPlace a_nA a_nB a_nC a_nLo a_nHi a_nLevel a_defName a_defPlace a_defRoot a_loaded a_count st a_number a_origin a_choice a_slotF a_slotX a_slotHeld := by
    intro k
    induction k with
    | zero =>
      intro c st hc hs n hn
      obtain ⟨n, rfl⟩ : ∃ w, n = w + 1 := ⟨n - 1, by omega⟩
      have : c = 720 := by omega
      subst this
      exact br_t (nI_le (a := 720) (by decide) (by decide)) ⟨_, outer 720 (fun _ => none) st a_number a_origin 0 (fun c o q => absurd q (by simp)) (fun d hu => ⟨fun _ => hs d (ou_uc_lt hu), fun o q => absurd q (by simp)⟩) (ct_le _ _) (by omega) 722 (by decide)⟩
    | succ k ih =>
      intro c st hc hs n hn
      obtain ⟨n, rfl⟩ : ∃ w, n = w + 1 := ⟨n - 1, by omega⟩
      refine br_f (nI_ge (b := 720) (by omega) (by decide)) ⟨vp_in_nI (by omega) (by decide), fun A eA y ey => ?_⟩
      rw [nI_clamp (by omega)] at eA
      rw [nI_1] at ey
      subst eA ey
      refine ih (c + 1) _ (by omega) (fun i hi => ?_) n (by omega)
      by_cases e : i = c
      · rw [e, pk_us]
      · rw [pk_un e]; exact hs i (by omega)
  exact ⟨_, clr 720 0 a_status rfl (fun i hi => by omega) 721 (by decide)⟩
end
