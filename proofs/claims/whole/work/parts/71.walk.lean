-- LISTS: walking along second parts
noncomputable def wk_c (P : Nat → Nat → Nat) (c : Nat) : Nat := match ou_E P c with
  | none => 0
  | some o => if o.1 = 1 then (if o.2.2 = 0 then 1 else 2) else 0
noncomputable def wk_j (P : Nat → Nat → Nat) (c : Nat) : Nat := match ou_E P c with
  | none => 0
  | some o => ou_jn o.2.2
noncomputable def wk (P : Nat → Nat → Nat) (c : Nat) : Nat → Nat
  | 0 => c
  | n + 1 => if wk_c P (wk P c n) = 2 then ou_ps P 3 (wk_j P (wk P c n)) else wk P c n
section
variable {P : Nat → Nat → Nat} {c0 : Nat} {c : Nat}
theorem wk_s (h : wk_c P c = 2) : ou_ps P 3 (wk_j P c) = ou_ps P 3 (wk_j P c) := rfl
theorem wk_st {c n : Nat} (h : wk_c P (wk P c n) ≠ 2) : ∀ m, wk P c (n + m) = wk P c n := by
  intro m
  induction m with
  | zero => rfl
  | succ m ih =>
    show (if wk_c P (wk P c (n + m)) = 2 then _ else wk P c (n + m)) = wk P c n
    rw [ih, if_neg h]
theorem wk_su {c n : Nat} (h : wk_c P (wk P c n) = 2) : wk P c (n + 1) = ou_ps P 3 (wk_j P (wk P c n)) := if_pos h
theorem wk_3 (c : Nat) : wk_c P c = 0 ∨ wk_c P c = 1 ∨ wk_c P c = 2 := by
  unfold wk_c
  cases ou_E P c with
  | none => exact Or.inl rfl
  | some o =>
    dsimp only
    split
    · split
      · exact Or.inr (Or.inl rfl)
      · exact Or.inr (Or.inr rfl)
    · exact Or.inl rfl
theorem wk_0 (hP : pg_ok P) (hv : rl_V P c0) (h : wk_c P c = 0) : sl_k P c ≠ 1 ∧ (∀ o, ou_E P c = some o → o.1 ≠ 1) := by
  unfold wk_c at h
  unfold sl_k
  cases hE : ou_E P c with
  | none => exact ⟨by decide, fun o q => absurd q (by simp)⟩
  | some o =>
    rw [hE] at h
    dsimp only at h
    have n1 : o.1 ≠ 1 := by
      intro q
      rw [if_pos q] at h
      split at h <;> omega
    refine ⟨?_, fun o2 q => by rw [← Option.some.inj q]; exact n1⟩
    have t := ru_t (T := ou_E P) hP hv (fun d p q => ou_E_s.mp q) hE
    have l : o.1 < 6 := by
      rcases t with t | t
      · have := t.1; omega
      · have := t.1; omega
    intro q
    exact n1 ((nI_eq (a := o.1) (b := 1) (by omega) (by decide)).mp q)
theorem wk_1 (h : wk_c P c = 1) : ∃ o, ou_E P c = some o ∧ o.1 = 1 ∧ o.2.2 = 0 := by
  unfold wk_c at h
  cases hE : ou_E P c with
  | none => rw [hE] at h; exact absurd h (by decide)
  | some o =>
    rw [hE] at h
    dsimp only at h
    by_cases a : o.1 = 1
    · rw [if_pos a] at h
      by_cases b : o.2.2 = 0
      · exact ⟨o, rfl, a, b⟩
      · rw [if_neg b] at h; omega
    · rw [if_neg a] at h; omega
theorem wk_2 (hP : pg_ok P) (hv : rl_V P c0) (h3 : tt_K P c0 (c / 6) = 3) (h : wk_c P c = 2) : ∃ o, ou_E P c = some o ∧ o.1 = 1 ∧ o.2.1 = 3 ∧ o.2.2 ≠ 0 ∧ o.2.2 = lN (wk_j P c + 1) ∧ wk_j P c < 720 ∧ ou_uc P (wk_j P c) ∧ P 0 (wk_j P c / 6) = 24 ∧ ou_jn o.2.2 = wk_j P c := by
  unfold wk_c at h
  cases hE : ou_E P c with
  | none => rw [hE] at h; exact absurd h (by decide)
  | some o =>
    rw [hE] at h
    dsimp only at h
    by_cases a : o.1 = 1
    · rw [if_pos a] at h
      by_cases b : o.2.2 = 0
      · rw [if_pos b] at h; omega
      · have t := ru_t (T := ou_E P) hP hv (fun d p q => ou_E_s.mp q) hE
        have ej : wk_j P c = ou_jn o.2.2 := by unfold wk_j; rw [hE]
        rcases t with ⟨_, t2, _, t4⟩ | t
        · rcases t4 (by rw [t2]; exact h3) with q | ⟨j, j1, j2, j3, j4⟩
          · exact absurd q b
          · have e2 : ou_jn o.2.2 = j := by rw [j4, ou_jn_e j1]
            rw [ej, e2]
            exact ⟨o, rfl, a, by rw [t2]; exact h3, b, j4, j1, j2, j3, e2⟩
        · have := t.1; omega
    · rw [if_neg a] at h; omega
theorem wk_p (hP : pg_ok P) (hv : rl_V P c0) {j : Nat} (hu : ou_uc P j) (h24 : P 0 (j / 6) = 24) : ou_uc P (ou_ps P 2 j) ∧ tt_K P c0 (ou_ps P 2 j / 6) = 1 ∧ ou_uc P (ou_ps P 3 j) ∧ tt_K P c0 (ou_ps P 3 j / 6) = 3 := by
  have hm := hv.1 _ hu.1
  rw [h24] at hm
  simp [ki_m] at hm
  refine ⟨ru_p (j := 0) hP hu (by rw [h24]; decide), ?_, ru_p (j := 1) hP hu (by rw [h24]; decide), ?_⟩
  · rw [ou_ps_d]; exact hm.1
  · rw [ou_ps_d]; exact hm.2
theorem wk_in (hP : pg_ok P) (hv : rl_V P c0) (hu : ou_uc P c) (h3 : tt_K P c0 (c / 6) = 3) : ∀ n, ou_uc P (wk P c n) ∧ tt_K P c0 (wk P c n / 6) = 3 := by
  intro n
  induction n with
  | zero => exact ⟨hu, h3⟩
  | succ n ih =>
    by_cases q : wk_c P (wk P c n) = 2
    · rw [wk_su q]
      obtain ⟨o, _, _, _, _, _, _, j2, j3, _⟩ := wk_2 hP hv ih.2 q
      have := wk_p hP hv j2 j3
      exact ⟨this.2.2.1, this.2.2.2⟩
    · rw [wk_st q 1]; exact ih
end
-- X
section
variable {f_width f_textLength f_foundPlace f_tokenCount f_frameCount f_operandCount f_defCount f_nodeEnd : Int32} {a_text a_tokenCode a_tokenPlace a_frameCode a_framePlace a_operand a_defPlace a_defFirst a_defEnd a_nodeOp a_nodeNumber a_nodePlace a_nodeDepth a_nodeKind a_part a_size a_kindFound a_choice a_status : Nat → Int32} {a_result : Nat → Int64} {a_slotFunction a_slotArgument : Nat → Int32} {P : Nat → Nat → Nat} {c0 : Nat}
theorem wk_X0 (hv : rl_V P c0) (hP : xl_P P a_size a_nodeOp a_nodeNumber a_nodePlace a_part) (ht : rl_tX P (ou_E P) a_status a_result) {c : Nat} (hu : ou_uc P c) (h3 : tt_K P c0 (c / 6) = 3) :
    a_status c = sl_k P c ∧ (wk_c P c = 0 → sl_k P c ≠ 1) ∧ (wk_c P c = 1 → sl_k P c = 1 ∧ a_result c = 0) ∧
    (wk_c P c = 2 → sl_k P c = 1 ∧ a_result c ≠ 0 ∧ ∀ w, w < 2 → ∀ (post : Int32 → Prop), post (nI (ou_ps P (2 + w) (wk_j P c))) → wpX_partOfList post (f_width, f_textLength, f_foundPlace, f_tokenCount, f_frameCount, f_operandCount, f_defCount, f_nodeEnd, a_text, a_tokenCode, a_tokenPlace, a_frameCode, a_framePlace, a_operand, a_defPlace, a_defFirst, a_defEnd, a_nodeOp, a_nodeNumber, a_nodePlace, a_nodeDepth, a_nodeKind, a_part, a_size, a_kindFound, a_choice, a_status, a_result, a_slotFunction, a_slotArgument) (nI c) (nI w)) := by
  have hl := ou_uc_lt hu
  refine ⟨sl_k2 hP.1 hu ht, fun q => (wk_0 hP.1 hv q).1, fun q => ?_, fun q => ?_⟩
  · obtain ⟨o, o1, o2, o3⟩ := wk_1 q
    refine ⟨by unfold sl_k; rw [o1]; show nI o.1 = 1; rw [o2]; rfl, ?_⟩
    rw [((ht c hu).2 o o1).2 o2]; exact o3
  · obtain ⟨o, o1, o2, o3, o4, o5, j1, j2, j3, _⟩ := wk_2 hP.1 hv h3 q
    have re : a_result c = o.2.2 := ((ht c hu).2 o o1).2 o2
    refine ⟨by unfold sl_k; rw [o1]; show nI o.1 = 1; rw [o2]; rfl, by rw [re]; exact o4, fun w hw post h => ?_⟩
    obtain ⟨n1, n2, n3, n4, n5⟩ := hP.2.2.2.1 _ j2.1
    have pw : a_part (wk_j P c / 6 * 3 + w) = nI (P (2 + w) (wk_j P c / 6)) ∧ P (2 + w) (wk_j P c / 6) < 120 := by
      obtain ⟨_, _, _, o4⟩ := hP.1.2.2.2 _ j2.1
      have n2 : pg_n (P 0 (wk_j P c / 6)) = 2 := by rw [j3]; decide
      have := o4 w (by omega)
      have := j2.1.1
      refine ⟨?_, by omega⟩
      have : w = 0 ∨ w = 1 := by omega
      rcases this with z | z <;> subst z
      · exact n3
      · exact n4
    exact st_l hl (re.trans o5) j1 hw pw.1 pw.2 h
theorem wk_X (hv : rl_V P c0) (hP : xl_P P a_size a_nodeOp a_nodeNumber a_nodePlace a_part) (ht : rl_tX P (ou_E P) a_status a_result) {c : Nat} (hu : ou_uc P c) (h3 : tt_K P c0 (c / 6) = 3) {k : Nat} (hk : k < 100) {post : Int32 → Prop} (h : post (nI (wk P c k))) :
    ∃ n, wX_passParts_11 post (nI k) f_width f_textLength f_foundPlace f_tokenCount f_frameCount f_operandCount f_defCount f_nodeEnd a_text a_tokenCode a_tokenPlace a_frameCode a_framePlace a_operand a_defPlace a_defFirst a_defEnd a_nodeOp a_nodeNumber a_nodePlace a_nodeDepth a_nodeKind a_part a_size a_kindFound a_choice a_status a_result a_slotFunction a_slotArgument n (nI c) 0 := by
  have key : ∀ r i, i + r = k → ∀ n, r < n → wX_passParts_11 post (nI k) f_width f_textLength f_foundPlace f_tokenCount f_frameCount f_operandCount f_defCount f_nodeEnd a_text a_tokenCode a_tokenPlace a_frameCode a_framePlace a_operand a_defPlace a_defFirst a_defEnd a_nodeOp a_nodeNumber a_nodePlace a_nodeDepth a_nodeKind a_part a_size a_kindFound a_choice a_status a_result a_slotFunction a_slotArgument n (nI (wk P c i)) (nI i) := by
    intro r
    induction r with
    | zero =>
      intro i hi n hn
      obtain ⟨n, rfl⟩ : ∃ m, n = m + 1 := ⟨n - 1, by omega⟩
      have ei : i = k := by omega
      subst ei
      exact br_t (nI_le (Nat.le_refl _) (by omega)) h
    | succ r ih =>
      intro i hi n hn
      obtain ⟨n, rfl⟩ : ∃ m, n = m + 1 := ⟨n - 1, by omega⟩
      obtain ⟨w1, w2⟩ := wk_in hP.1 hv hu h3 i
      obtain ⟨z0, z1, z2, z3⟩ := wk_X0 hv hP ht w1 w2
      have hl := ou_uc_lt w1
      have hin : vp_in (nI (wk P c i)) 720 := vp_in_nI hl (by decide)
      have stop : wk_c P (wk P c i) ≠ 2 → post (nI (wk P c i)) := fun q => by
        have := wk_st q r.succ
        rw [(by omega : i + r.succ = k)] at this
        rw [← this]; exact h
      refine br_f (nI_ge (by omega) (by omega)) ⟨hin, ?_⟩
      rw [nI_clamp (by omega), z0]
      rcases wk_3 (P := P) (wk P c i) with q | q | q
      · exact br_f (z1 q) (stop (by omega))
      · exact br_t (z2 q).1 ⟨hin, br_t (z2 q).2 (stop (by omega))⟩
      · refine br_t (z3 q).1 ⟨hin, br_f (z3 q).2.1 ((z3 q).2.2 1 (by decide) _ (fun y ey => ?_))⟩
        rw [ey, nI_1]
        have := ih (i + 1) (by omega) n (by omega)
        rw [wk_su q] at this
        exact this
  exact ⟨_, key k 0 (by omega) _ (Nat.lt_succ_self _)⟩
end
-- Y
section
variable {f_width f_length f_place f_toks f_nodes f_defs : Int32} {a_text a_tok a_tokNum a_tokPlace a_opened a_nOp a_nNum a_nPlace a_nA a_nB a_nC a_nLo a_nHi a_nLevel a_defName a_defPlace a_defRoot a_loaded a_count a_status : Nat → Int32} {a_number : Nat → Int64} {a_origin a_choice a_slotF a_slotX a_slotHeld : Nat → Int32} {P : Nat → Nat → Nat} {c0 : Nat} {g : Nat → Nat}
theorem wk_Y0 (hv : rl_V P c0) (hP : yl_P P g a_loaded a_count a_nOp a_nNum a_nA a_nB a_nC) (ht : rl_tY P g (ou_E P) a_status a_number a_origin) {d : Nat} (hd : ou_uc P d) (h3 : tt_K P c0 (rl_gc g d / 6) = 3) :
    (wk_c P (rl_gc g d) = 0 → a_status d ≠ 1) ∧ (wk_c P (rl_gc g d) = 1 → a_status d = 1 ∧ a_number d = 0) ∧
    (wk_c P (rl_gc g d) = 2 → a_status d = 1 ∧ a_number d = 1 ∧ ∃ q a b, a_origin d = nI q ∧ q < 720 ∧ a_nA (q / 6) = nI a ∧ a_nB (q / 6) = nI b ∧ ou_uc P (a * 6 + q % 6) ∧ ou_uc P (b * 6 + q % 6) ∧ rl_gc g (a * 6 + q % 6) = ou_ps P 2 (wk_j P (rl_gc g d)) ∧ rl_gc g (b * 6 + q % 6) = ou_ps P 3 (wk_j P (rl_gc g d))) := by
  obtain ⟨t0, t1⟩ := ht d hd
  refine ⟨fun q => ?_, fun q => ?_, fun q => ?_⟩
  · have w := (wk_0 hP.1 hv q).2
    cases hE : ou_E P (rl_gc g d) with
    | none => rw [t0 hE]; decide
    | some o =>
      have n1 := w o hE
      have t := ru_t (T := ou_E P) hP.1 hv (fun d p q => ou_E_s.mp q) hE
      have l : o.1 < 6 := by
        rcases t with t | t
        · have := t.1; omega
        · have := t.1; omega
      rw [(t1 o hE).1]
      intro z
      exact n1 ((nI_eq (a := o.1) (b := 1) (by omega) (by decide)).mp z)
  · obtain ⟨o, o1, o2, o3⟩ := wk_1 q
    obtain ⟨s1, s2⟩ := t1 o o1
    have t := ru_t (T := ou_E P) hP.1 hv (fun d p q => ou_E_s.mp q) o1
    have tag : o.2.1 = 3 := by
      rcases t with ⟨_, t2, _⟩ | t
      · rw [t2]; exact h3
      · have := t.1; omega
    refine ⟨by rw [s1, o2]; rfl, ((s2 o2).2 tag).1 o3⟩
  · obtain ⟨o, o1, o2, o3, o4, o5, j1, j2, j3, j4⟩ := wk_2 hP.1 hv h3 q
    obtain ⟨s1, s2⟩ := t1 o o1
    obtain ⟨nu1, p, pu, pe, pj⟩ := ((s2 o2).2 o3).2 o4
    rw [j4] at pj
    refine ⟨by rw [s1, o2]; rfl, nu1, ?_⟩
    have pl := ou_uc_lt pu
    have e6 : wk_j P (rl_gc g d) / 6 = g (p / 6) ∧ wk_j P (rl_gc g d) % 6 = p % 6 := by rw [← pj]; unfold rl_gc; omega
    obtain ⟨n1, n2, n3, n4, n5⟩ := hP.2.2.2.2 _ pu.1
    rw [← e6.1, j3] at n3 n4
    obtain ⟨a, a1, a2, a3⟩ := n3 (by decide)
    obtain ⟨b, b1, b2, b3⟩ := n4 (by decide)
    have ea : (a * 6 + p % 6) / 6 = a ∧ (a * 6 + p % 6) % 6 = p % 6 := by omega
    have eb : (b * 6 + p % 6) / 6 = b ∧ (b * 6 + p % 6) % 6 = p % 6 := by omega
    refine ⟨p, a, b, pe, pl, a1, b1, ⟨by rw [ea.1]; exact a2, by rw [ea.2]; exact pu.2⟩, ⟨by rw [eb.1]; exact b2, by rw [eb.2]; exact pu.2⟩, ?_, ?_⟩
    · unfold rl_gc ou_ps; rw [ea.1, ea.2, a3]; show P 2 (wk_j P (rl_gc g d) / 6) * 6 + p % 6 = P 2 (wk_j P (rl_gc g d) / 6) * 6 + wk_j P (rl_gc g d) % 6; rw [e6.2]
    · unfold rl_gc ou_ps; rw [eb.1, eb.2, b3]; show P 3 (wk_j P (rl_gc g d) / 6) * 6 + p % 6 = P 3 (wk_j P (rl_gc g d) / 6) * 6 + wk_j P (rl_gc g d) % 6; rw [e6.2]
theorem wk_Y (hv : rl_V P c0) (hP : yl_P P g a_loaded a_count a_nOp a_nNum a_nA a_nB a_nC) (ht : rl_tY P g (ou_E P) a_status a_number a_origin) {f x : Nat} (hu : ou_uc P (f * 144 + x)) (h3 : tt_K P c0 (rl_gc g (f * 144 + x) / 6) = 3) {k : Nat} (hk : k < 100) {post : Int32 → Prop}
    (h : ∀ d, ou_uc P d → rl_gc g d = wk P (rl_gc g (f * 144 + x)) k → post (nI d)) : wpY_passed post (f_width, f_length, f_place, f_toks, f_nodes, f_defs, a_text, a_tok, a_tokNum, a_tokPlace, a_opened, a_nOp, a_nNum, a_nPlace, a_nA, a_nB, a_nC, a_nLo, a_nHi, a_nLevel, a_defName, a_defPlace, a_defRoot, a_loaded, a_count, a_status, a_number, a_origin, a_choice, a_slotF, a_slotX, a_slotHeld) (nI f) (nI x) (nI k) := by
  have guc : ∀ d, ou_uc P d → ou_uc P (rl_gc g d) := by
    intro d hd
    have hw := hP.1.2.1
    have e : rl_gc g d / 6 = g (d / 6) ∧ rl_gc g d % 6 = d % 6 := by unfold rl_gc; omega
    exact ⟨by rw [e.1]; exact (hP.2.1.1 _ hd.1).1, by rw [e.2]; exact hd.2⟩
  have key : ∀ r i d, i + r = k → ou_uc P d → rl_gc g d = wk P (rl_gc g (f * 144 + x)) i → ∀ n, r < n → wY_passed_12 post (nI k) f_width f_length f_place f_toks f_nodes f_defs a_text a_tok a_tokNum a_tokPlace a_opened a_nOp a_nNum a_nPlace a_nA a_nB a_nC a_nLo a_nHi a_nLevel a_defName a_defPlace a_defRoot a_loaded a_count a_status a_number a_origin a_choice a_slotF a_slotX a_slotHeld n (nI d) (nI i) := by
    intro r
    induction r with
    | zero =>
      intro i d hi hd he n hn
      obtain ⟨n, rfl⟩ : ∃ m, n = m + 1 := ⟨n - 1, by omega⟩
      have ei : i = k := by omega
      subst ei
      exact br_t (nI_le (Nat.le_refl _) (by omega)) (h d hd he)
    | succ r ih =>
      intro i d hi hd he n hn
      obtain ⟨n, rfl⟩ : ∃ m, n = m + 1 := ⟨n - 1, by omega⟩
      obtain ⟨w1, w2⟩ := wk_in hP.1 hv (guc _ hu) h3 i
      rw [← he] at w1 w2
      obtain ⟨z1, z2, z3⟩ := wk_Y0 hv hP ht hd w2
      have hl := ou_uc_lt hd
      have hin : vp_in (nI d) 720 := vp_in_nI hl (by decide)
      have stop : wk_c P (rl_gc g d) ≠ 2 → post (nI d) := fun q => by
        rw [he] at q
        have := wk_st q r.succ
        rw [(by omega : i + r.succ = k)] at this
        exact h d hd (he.trans this.symm)
      refine br_f (nI_ge (by omega) (by omega)) ⟨hin, ?_⟩
      rw [nI_clamp (by omega)]
      rcases wk_3 (P := P) (rl_gc g d) with q | q | q
      · exact br_f (z1 q) (stop (by omega))
      · exact br_t (z2 q).1 ⟨hin, br_f (by rw [(z2 q).2]; decide) (stop (by omega))⟩
      · obtain ⟨s1, s2, p, a, b, e1, e2, e3, e4, e5, e6, e7, e8⟩ := z3 q
        refine br_t s1 ⟨hin, br_t s2 ⟨hin, by decide, ?_⟩⟩
        rw [e1]
        have ed : nI p / 6 = nI (p / 6) := pk_div (d := 6) (by omega) (by decide) (by decide)
        have er : nI p - nI p / 6 * 6 = nI (p % 6) := pk_rem (d := 6) (by omega) (by decide) (by decide)
        rw [er, ed]
        refine ⟨vp_in_nI (by omega) (by decide), hin, by decide, fun y ey z ez => ?_⟩
        rw [nI_clamp (by omega), e4, st_x] at ey
        rw [nI_1] at ez
        subst ey ez
        refine ih (i + 1) _ (by omega) e6 ?_ n (by omega)
        rw [he] at q e8
        rw [e8, wk_su q]
  refine fun y ey => ?_
  have e144 : nI f * 144 + nI x = nI (f * 144 + x) := by
    have : nI f * 144 = nI (f * 144) := pk_mul _ 144
    rw [this, nI_add]
  rw [e144] at ey
  subst ey
  exact ⟨_, key k 0 _ (by omega) hu rfl _ (Nat.lt_succ_self _)⟩
theorem to_Y (hv : rl_V P c0) (hP : yl_P P g a_loaded a_count a_nOp a_nNum a_nA a_nB a_nC) (ht : rl_tY P g (ou_E P) a_status a_number a_origin) {d : Nat} (hd : ou_uc P d) {post : Int32 → Prop} (h : post (sl_k P (rl_gc g d))) : wpY_told post (f_width, f_length, f_place, f_toks, f_nodes, f_defs, a_text, a_tok, a_tokNum, a_tokPlace, a_opened, a_nOp, a_nNum, a_nPlace, a_nA, a_nB, a_nC, a_nLo, a_nHi, a_nLevel, a_defName, a_defPlace, a_defRoot, a_loaded, a_count, a_status, a_number, a_origin, a_choice, a_slotF, a_slotX, a_slotHeld) (nI d) := by
  have hl := ou_uc_lt hd
  have hin : vp_in (nI d) 720 := vp_in_nI hl (by decide)
  obtain ⟨t0, t1⟩ := ht d hd
  refine ⟨hin, ?_⟩
  rw [nI_clamp (by omega)]
  unfold sl_k at h
  cases hE : ou_E P (rl_gc g d) with
  | none => rw [hE] at h; exact br_t (t0 hE) h
  | some o =>
    rw [hE] at h
    have t := ru_t (T := ou_E P) hP.1 hv (fun d p q => ou_E_s.mp q) hE
    have l : 0 < o.1 ∧ o.1 < 6 := by
      rcases t with t | t
      · have := t.1; omega
      · have := t.1; omega
    rw [(t1 o hE).1]
    exact br_f (nI_ne0 l.1 (by omega)) ⟨hin, h⟩
end
