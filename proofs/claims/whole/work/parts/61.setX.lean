-- X settles a cell
section
variable {f_width f_textLength f_foundPlace f_tokenCount f_frameCount f_operandCount f_defCount f_nodeEnd : Int32} {a_text a_tokenCode a_tokenPlace a_frameCode a_framePlace a_operand a_defPlace a_defFirst a_defEnd a_nodeOp a_nodeNumber a_nodePlace a_nodeDepth a_nodeKind a_part a_size a_kindFound a_choice a_status : Nat → Int32} {a_result : Nat → Int64} {a_slotFunction a_slotArgument : Nat → Int32} {P : Nat → Nat → Nat} {T : Nat → Option ou_O} {c c0 : Nat}
theorem st_g {post : SX → Prop} (hc : c < 720) {v : Int64} {o : ou_O} (hr : ou_rl P T c = some o) (ho : o.1 = 1) (hv : o.2.2 = v) (h : ∀ st re, (∀ i, i ≠ c → st i = a_status i ∧ re i = a_result i) → (ou_rl P T c = none → st c = 2) → (∀ o, ou_rl P T c = some o → st c = nI o.1 ∧ (o.1 = 1 → re c = o.2.2)) → post (f_width, f_textLength, f_foundPlace, f_tokenCount, f_frameCount, f_operandCount, f_defCount, f_nodeEnd, a_text, a_tokenCode, a_tokenPlace, a_frameCode, a_framePlace, a_operand, a_defPlace, a_defFirst, a_defEnd, a_nodeOp, a_nodeNumber, a_nodePlace, a_nodeDepth, a_nodeKind, a_part, a_size, a_kindFound, a_choice, st, re, a_slotFunction, a_slotArgument)) : wpX_give post (f_width, f_textLength, f_foundPlace, f_tokenCount, f_frameCount, f_operandCount, f_defCount, f_nodeEnd, a_text, a_tokenCode, a_tokenPlace, a_frameCode, a_framePlace, a_operand, a_defPlace, a_defFirst, a_defEnd, a_nodeOp, a_nodeNumber, a_nodePlace, a_nodeDepth, a_nodeKind, a_part, a_size, a_kindFound, a_choice, a_status, a_result, a_slotFunction, a_slotArgument) (nI c) v := by
  have hin := vp_in_nI (n := c) (N := 720) hc (by decide)
  refine ⟨hin, fun A eA => ⟨hin, fun B eB => ?_⟩⟩
  rw [nI_clamp (by omega)] at eA eB
  subst eA eB
  refine h _ _ (fun i hi => ⟨pk_un hi, pk_uLn hi⟩) (fun q => by rw [hr] at q; exact absurd q (by simp)) (fun o2 q => ?_)
  rw [hr] at q
  have := Option.some.inj q
  subst this
  rw [pk_us, pk_uLs, ho]
  exact ⟨rfl, fun _ => hv.symm⟩
theorem st_s {post : SX → Prop} (hc : c < 720) {s : Nat} {o : ou_O} (hr : ou_rl P T c = some o) (ho : o.1 = s) (hs : s ≠ 1) (h : ∀ st re, (∀ i, i ≠ c → st i = a_status i ∧ re i = a_result i) → (ou_rl P T c = none → st c = 2) → (∀ o, ou_rl P T c = some o → st c = nI o.1 ∧ (o.1 = 1 → re c = o.2.2)) → post (f_width, f_textLength, f_foundPlace, f_tokenCount, f_frameCount, f_operandCount, f_defCount, f_nodeEnd, a_text, a_tokenCode, a_tokenPlace, a_frameCode, a_framePlace, a_operand, a_defPlace, a_defFirst, a_defEnd, a_nodeOp, a_nodeNumber, a_nodePlace, a_nodeDepth, a_nodeKind, a_part, a_size, a_kindFound, a_choice, st, re, a_slotFunction, a_slotArgument)) : vp_in (nI c) 720 ∧ ∀ A, A = upd a_status (nI c).toNatClampNeg (nI s) → post (f_width, f_textLength, f_foundPlace, f_tokenCount, f_frameCount, f_operandCount, f_defCount, f_nodeEnd, a_text, a_tokenCode, a_tokenPlace, a_frameCode, a_framePlace, a_operand, a_defPlace, a_defFirst, a_defEnd, a_nodeOp, a_nodeNumber, a_nodePlace, a_nodeDepth, a_nodeKind, a_part, a_size, a_kindFound, a_choice, A, a_result, a_slotFunction, a_slotArgument) := by
  have hin := vp_in_nI (n := c) (N := 720) hc (by decide)
  refine ⟨hin, fun A eA => ?_⟩
  rw [nI_clamp (by omega)] at eA
  subst eA
  refine h _ _ (fun i hi => ⟨pk_un hi, rfl⟩) (fun q => by rw [hr] at q; exact absurd q (by simp)) (fun o2 q => ?_)
  rw [hr] at q
  have := Option.some.inj q
  subst this
  rw [pk_us, ho]
  exact ⟨rfl, fun w => absurd w hs⟩
theorem st_c {post : SX → Prop} (hc : c < 720) {d : Nat} (hd : ou_uc P d) (hr : ou_rl P T c = T d) (ht : rl_tX P T a_status a_result) (h : ∀ st re, (∀ i, i ≠ c → st i = a_status i ∧ re i = a_result i) → (ou_rl P T c = none → st c = 2) → (∀ o, ou_rl P T c = some o → st c = nI o.1 ∧ (o.1 = 1 → re c = o.2.2)) → post (f_width, f_textLength, f_foundPlace, f_tokenCount, f_frameCount, f_operandCount, f_defCount, f_nodeEnd, a_text, a_tokenCode, a_tokenPlace, a_frameCode, a_framePlace, a_operand, a_defPlace, a_defFirst, a_defEnd, a_nodeOp, a_nodeNumber, a_nodePlace, a_nodeDepth, a_nodeKind, a_part, a_size, a_kindFound, a_choice, st, re, a_slotFunction, a_slotArgument)) : wpX_copy post (f_width, f_textLength, f_foundPlace, f_tokenCount, f_frameCount, f_operandCount, f_defCount, f_nodeEnd, a_text, a_tokenCode, a_tokenPlace, a_frameCode, a_framePlace, a_operand, a_defPlace, a_defFirst, a_defEnd, a_nodeOp, a_nodeNumber, a_nodePlace, a_nodeDepth, a_nodeKind, a_part, a_size, a_kindFound, a_choice, a_status, a_result, a_slotFunction, a_slotArgument) (nI c) (nI d) := by
  have hin := vp_in_nI (n := c) (N := 720) hc (by decide)
  have dl := ou_uc_lt hd
  have hid := vp_in_nI (n := d) (N := 720) dl (by decide)
  refine ⟨hid, hin, fun A eA => ⟨hid, hin, fun B eB => ?_⟩⟩
  rw [nI_clamp (n := c) (by omega), nI_clamp (n := d) (by omega)] at eA eB
  subst eA eB
  obtain ⟨t0, t1⟩ := ht d hd
  refine h _ _ (fun i hi => ⟨pk_un hi, pk_uLn hi⟩) (fun q => ?_) (fun o q => ?_)
  · rw [pk_us]; exact t0 (by rw [← hr]; exact q)
  · rw [pk_us, pk_uLs]; exact t1 o (by rw [← hr]; exact q)
theorem st_l {post : Int32 → Prop} {d j w : Nat} (hd : d < 720) (hre : a_result d = lN (j + 1)) (hj : j < 720) (hw : w < 2) {q : Nat} (hpt : a_part (j / 6 * 3 + w) = nI q) (hq : q < 120) (h : post (nI (q * 6 + j % 6))) : wpX_partOfList post (f_width, f_textLength, f_foundPlace, f_tokenCount, f_frameCount, f_operandCount, f_defCount, f_nodeEnd, a_text, a_tokenCode, a_tokenPlace, a_frameCode, a_framePlace, a_operand, a_defPlace, a_defFirst, a_defEnd, a_nodeOp, a_nodeNumber, a_nodePlace, a_nodeDepth, a_nodeKind, a_part, a_size, a_kindFound, a_choice, a_status, a_result, a_slotFunction, a_slotArgument) (nI d) (nI w) := by
  have hin := vp_in_nI (n := d) (N := 720) hd (by decide)
  refine ⟨hin, fun y ey => ⟨by decide, ?_⟩⟩
  rw [nI_clamp (by omega), hre] at ey
  have e1 : lN (j + 1) - 1 = lN j := by
    have : lN (j + 1) - lN 1 = lN (j + 1 - 1) := lN_sub (by omega)
    rw [Nat.add_sub_cancel] at this
    exact this
  rw [e1, lN_i] at ey
  subst ey
  have ed : nI j / 6 = nI (j / 6) := pk_div (d := 6) (by omega) (by decide) (by decide)
  have er : nI j - nI j / 6 * 6 = nI (j % 6) := pk_rem (d := 6) (by omega) (by decide) (by decide)
  have e3 : nI (j / 6) * 3 + nI w = nI (j / 6 * 3 + w) := by
    have : nI (j / 6) * 3 = nI (j / 6 * 3) := pk_mul _ 3
    rw [this, nI_add]
  rw [er, ed, e3]
  refine ⟨vp_in_nI (by omega) (by decide), by decide, ?_⟩
  rw [nI_clamp (by omega), hpt]
  have e6 : nI q * 6 + nI (j % 6) = nI (q * 6 + j % 6) := by
    have : nI q * 6 = nI (q * 6) := pk_mul _ 6
    rw [this, nI_add]
  rw [e6]; exact h
theorem st_x {u x : Nat} : nI u * 6 + nI x = nI (u * 6 + x) := by
  have : nI u * 6 = nI (u * 6) := pk_mul _ 6
  rw [this, nI_add]
theorem st_X (hP : xl_P P a_size a_nodeOp a_nodeNumber a_nodePlace a_part) (hw : f_width = nI (P 6 0)) (hv : rl_V P c0) (hT : ps_s P T) (ht : rl_tX P T a_status a_result) (hu : ou_uc P c) {post : SX → Prop} (h : ∀ st re, (∀ i, i ≠ c → st i = a_status i ∧ re i = a_result i) → (ou_rl P T c = none → st c = 2) → (∀ o, ou_rl P T c = some o → st c = nI o.1 ∧ (o.1 = 1 → re c = o.2.2)) → post (f_width, f_textLength, f_foundPlace, f_tokenCount, f_frameCount, f_operandCount, f_defCount, f_nodeEnd, a_text, a_tokenCode, a_tokenPlace, a_frameCode, a_framePlace, a_operand, a_defPlace, a_defFirst, a_defEnd, a_nodeOp, a_nodeNumber, a_nodePlace, a_nodeDepth, a_nodeKind, a_part, a_size, a_kindFound, a_choice, st, re, a_slotFunction, a_slotArgument)) : wpX_settle post (f_width, f_textLength, f_foundPlace, f_tokenCount, f_frameCount, f_operandCount, f_defCount, f_nodeEnd, a_text, a_tokenCode, a_tokenPlace, a_frameCode, a_framePlace, a_operand, a_defPlace, a_defFirst, a_defEnd, a_nodeOp, a_nodeNumber, a_nodePlace, a_nodeDepth, a_nodeKind, a_part, a_size, a_kindFound, a_choice, a_status, a_result, a_slotFunction, a_slotArgument) (nI (c / 6)) (nI (c % 6)) := by
  obtain ⟨p1, p2, p3, p4, p5⟩ := hP
  have cl := ou_uc_lt hu
  obtain ⟨n1, n2, n3, n4, n5⟩ := p4 _ hu.1
  obtain ⟨o1, o2, o3, o4⟩ := p1.2.2.2 _ hu.1
  have u120 := hu.1.1
  have hinu := vp_in_nI (n := c / 6) (N := 320) (by omega) (by decide)
  have ec : c / 6 * 6 + c % 6 = c := by omega
  have w6 := p1.2.1
  have kt := ki_ty p1 hv
  intro x3 e3
  rw [st_x, ec] at e3
  subst e3
  refine ⟨hinu, fun k ek => ?_⟩
  rw [nI_clamp (by omega), n1] at ek
  subst ek
  have e30 : nI (c / 6) * 3 = nI (c / 6 * 3) := pk_mul _ 3
  have e31 : nI (c / 6 * 3) + 1 = nI (c / 6 * 3 + 1) := nI_1 _
  have e32 : nI (c / 6 * 3) + 2 = nI (c / 6 * 3 + 2) := nI_add _ 2
  have eps : ∀ k, P k (c / 6) * 6 + c % 6 = ou_ps P k c := fun k => rfl
  -- the strict ones
  have strict : ¬ ou_lf (P 0 (c / 6)) = true → P 0 (c / 6) ≠ 6 → wpX_settleStrict (fun u => match u with | (f_width9, f_textLength9, f_foundPlace9, f_tokenCount9, f_frameCount9, f_operandCount9, f_defCount9, f_nodeEnd9, a_text9, a_tokenCode9, a_tokenPlace9, a_frameCode9, a_framePlace9, a_operand9, a_defPlace9, a_defFirst9, a_defEnd9, a_nodeOp9, a_nodeNumber9, a_nodePlace9, a_nodeDepth9, a_nodeKind9, a_part9, a_size9, a_kindFound9, a_choice9, a_status9, a_result9, a_slotFunction9, a_slotArgument9) => post (f_width9, f_textLength9, f_foundPlace9, f_tokenCount9, f_frameCount9, f_operandCount9, f_defCount9, f_nodeEnd9, a_text9, a_tokenCode9, a_tokenPlace9, a_frameCode9, a_framePlace9, a_operand9, a_defPlace9, a_defFirst9, a_defEnd9, a_nodeOp9, a_nodeNumber9, a_nodePlace9, a_nodeDepth9, a_nodeKind9, a_part9, a_size9, a_kindFound9, a_choice9, a_status9, a_result9, a_slotFunction9, a_slotArgument9)) (f_width, f_textLength, f_foundPlace, f_tokenCount, f_frameCount, f_operandCount, f_defCount, f_nodeEnd, a_text, a_tokenCode, a_tokenPlace, a_frameCode, a_framePlace, a_operand, a_defPlace, a_defFirst, a_defEnd, a_nodeOp, a_nodeNumber, a_nodePlace, a_nodeDepth, a_nodeKind, a_part, a_size, a_kindFound, a_choice, a_status, a_result, a_slotFunction, a_slotArgument) (nI (c / 6)) (nI (c % 6)) := by
    intro nl n6
    have pn : 0 < pg_n (P 0 (c / 6)) := by
      unfold pg_n
      split
      · omega
      · split
        · rename_i q; exact absurd (by rcases q with q | q | q | q | q <;> rw [q] <;> rfl) nl
        · split <;> omega
    have ua : ou_uc P (ou_ps P 2 c) := ru_p p1 hu pn
    have al := ou_uc_lt ua
    have hina := vp_in_nI (n := ou_ps P 2 c) (N := 720) al (by decide)
    obtain ⟨t0, t1⟩ := ht _ ua
    intro x3 e3
    rw [st_x, ec] at e3
    subst e3
    rw [e30]
    refine ⟨vp_in_nI (by omega) (by decide), fun x4 e4 => ⟨by rw [e31]; exact vp_in_nI (by omega) (by decide), fun x5 e5 => ⟨by rw [e32]; exact vp_in_nI (by omega) (by decide), fun x6 e6 => ?_⟩⟩⟩
    rw [nI_clamp (by omega), n3, st_x, eps] at e4
    rw [e31, nI_clamp (by omega), n4, st_x, eps] at e5
    rw [e32, nI_clamp (by omega), n5, st_x, eps] at e6
    subst e4 e5 e6
    refine ⟨hina, ?_⟩
    rw [nI_clamp (by omega)]
    cases ha : T (ou_ps P 2 c) with
    | none =>
      rw [t0 ha]
      exact br_f (by decide) (st_c cl ua (by rw [ru_n nl ha, ha]) ht h)
    | some o =>
      obtain ⟨s1, s2⟩ := t1 o ha
      have ty := ru_t p1 hv hT ha
      rw [s1]
      by_cases h1 : o.1 = 1
      · have re := s2 h1
        rw [h1]
        refine br_t rfl ⟨hinu, fun k ek => ?_⟩
        rw [nI_clamp (by omega), n1] at ek
        subst ek
        obtain ⟨_, ta, tb, tl⟩ : o.1 = 1 ∧ o.2.1 = tt_K P c0 (P 2 (c / 6)) ∧ (o.2.1 = 2 → o.2.2 = 0 ∨ o.2.2 = 1) ∧ (o.2.1 = 3 → o.2.2 = 0 ∨ ∃ j, j < 720 ∧ ou_uc P j ∧ P 0 (j / 6) = 24 ∧ o.2.2 = lN (j + 1)) := by
          rcases ty with ty | ty
          · rw [ou_ps_d] at ty; exact ty
          · have := ty.1; omega
        have met := hv.1 _ hu.1
        have cs := ky_23 o1
        have ub : 1 < pg_n (P 0 (c / 6)) → ou_uc P (ou_ps P 3 c) := fun q => ru_p (j := 1) p1 hu q
        have ud : 2 < pg_n (P 0 (c / 6)) → ou_uc P (ou_ps P 4 c) := fun q => ru_p (j := 2) p1 hu q
        have list : P 0 (c / 6) = 7 ∨ P 0 (c / 6) = 8 → ¬ o.2.2 = 0 → ∃ j, j < 720 ∧ ou_uc P j ∧ P 0 (j / 6) = 24 ∧ o.2.2 = lN (j + 1) := by
          intro q nz
          have m3 : tt_K P c0 (P 2 (c / 6)) = 3 := by
            rcases q with q | q <;> rw [q] at met <;> exact met
          rcases tl (by rw [ta]; exact m3) with z | z
          · exact absurd z nz
          · exact z
        have hdtl : ∀ w, (w = 0 ∧ P 0 (c / 6) = 7 ∨ w = 1 ∧ P 0 (c / 6) = 8) → wpX_settlePart (fun u => match u with | (f_width9, f_textLength9, f_foundPlace9, f_tokenCount9, f_frameCount9, f_operandCount9, f_defCount9, f_nodeEnd9, a_text9, a_tokenCode9, a_tokenPlace9, a_frameCode9, a_framePlace9, a_operand9, a_defPlace9, a_defFirst9, a_defEnd9, a_nodeOp9, a_nodeNumber9, a_nodePlace9, a_nodeDepth9, a_nodeKind9, a_part9, a_size9, a_kindFound9, a_choice9, a_status9, a_result9, a_slotFunction9, a_slotArgument9) => post (f_width9, f_textLength9, f_foundPlace9, f_tokenCount9, f_frameCount9, f_operandCount9, f_defCount9, f_nodeEnd9, a_text9, a_tokenCode9, a_tokenPlace9, a_frameCode9, a_framePlace9, a_operand9, a_defPlace9, a_defFirst9, a_defEnd9, a_nodeOp9, a_nodeNumber9, a_nodePlace9, a_nodeDepth9, a_nodeKind9, a_part9, a_size9, a_kindFound9, a_choice9, a_status9, a_result9, a_slotFunction9, a_slotArgument9)) (f_width, f_textLength, f_foundPlace, f_tokenCount, f_frameCount, f_operandCount, f_defCount, f_nodeEnd, a_text, a_tokenCode, a_tokenPlace, a_frameCode, a_framePlace, a_operand, a_defPlace, a_defFirst, a_defEnd, a_nodeOp, a_nodeNumber, a_nodePlace, a_nodeDepth, a_nodeKind, a_part, a_size, a_kindFound, a_choice, a_status, a_result, a_slotFunction, a_slotArgument) (nI c) (nI (ou_ps P 2 c)) (nI w) := by
          intro w hww
          refine ⟨hina, ?_⟩
          rw [nI_clamp (by omega), re]
          by_cases z : o.2.2 = 0
          · refine br_t z (st_s (s := 5) cl (o := (5, 0, 0)) ?_ rfl (by decide) h)
            rcases hww with ⟨_, q⟩ | ⟨_, q⟩
            · rw [ru_7 q ha h1, if_pos z]
            · rw [ru_8 q ha h1, if_pos z]
          · obtain ⟨j, j1, j2, j3, j4⟩ := list (by omega) z
            have nj := p4 _ j2.1
            have jl := j2.1.1
            refine br_f z ?_
            rcases hww with ⟨rfl, q⟩ | ⟨rfl, q⟩
            · have uj : ou_uc P (ou_ps P 2 j) := ru_p (j := 0) p1 j2 (by rw [j3]; decide)
              have b := uj.1.1
              rw [ou_ps_d] at b
              refine st_l al (re.trans j4) j1 (by omega) nj.2.2.1 b ?_
              exact st_c cl uj (by rw [ru_7 q ha h1, if_neg z, j4, ou_jn_e j1]; rfl) ht h
            · have uj : ou_uc P (ou_ps P 3 j) := ru_p (j := 1) p1 j2 (by rw [j3]; decide)
              have b := uj.1.1
              rw [ou_ps_d] at b
              refine st_l al (re.trans j4) j1 (by omega) nj.2.2.2.1 b ?_
              exact st_c cl uj (by rw [ru_8 q ha h1, if_neg z, j4, ou_jn_e j1]; rfl) ht h
        have two : 14 ≤ P 0 (c / 6) ∧ P 0 (c / 6) ≤ 20 → vp_in (nI (c / 6)) 320 ∧ wpX_settleTwoSided (fun u => match u with | (f_width9, f_textLength9, f_foundPlace9, f_tokenCount9, f_frameCount9, f_operandCount9, f_defCount9, f_nodeEnd9, a_text9, a_tokenCode9, a_tokenPlace9, a_frameCode9, a_framePlace9, a_operand9, a_defPlace9, a_defFirst9, a_defEnd9, a_nodeOp9, a_nodeNumber9, a_nodePlace9, a_nodeDepth9, a_nodeKind9, a_part9, a_size9, a_kindFound9, a_choice9, a_status9, a_result9, a_slotFunction9, a_slotArgument9) => post (f_width9, f_textLength9, f_foundPlace9, f_tokenCount9, f_frameCount9, f_operandCount9, f_defCount9, f_nodeEnd9, a_text9, a_tokenCode9, a_tokenPlace9, a_frameCode9, a_framePlace9, a_operand9, a_defPlace9, a_defFirst9, a_defEnd9, a_nodeOp9, a_nodeNumber9, a_nodePlace9, a_nodeDepth9, a_nodeKind9, a_part9, a_size9, a_kindFound9, a_choice9, a_status9, a_result9, a_slotFunction9, a_slotArgument9)) (f_width, f_textLength, f_foundPlace, f_tokenCount, f_frameCount, f_operandCount, f_defCount, f_nodeEnd, a_text, a_tokenCode, a_tokenPlace, a_frameCode, a_framePlace, a_operand, a_defPlace, a_defFirst, a_defEnd, a_nodeOp, a_nodeNumber, a_nodePlace, a_nodeDepth, a_nodeKind, a_part, a_size, a_kindFound, a_choice, a_status, a_result, a_slotFunction, a_slotArgument) (nI c) (a_nodeOp (nI (c / 6)).toNatClampNeg) (nI (ou_ps P 2 c)) (nI (ou_ps P 3 c)) := by
          intro q
          have uub := ub (by rw [nd_n2 (by omega)]; decide)
          have bl := ou_uc_lt uub
          have hinb := vp_in_nI (n := ou_ps P 3 c) (N := 720) bl (by decide)
          obtain ⟨b0, b1⟩ := ht _ uub
          have ru := ru_2 q ha h1
          refine ⟨hinu, hinb, ?_⟩
          rw [nI_clamp (n := ou_ps P 3 c) (by omega), nI_clamp (n := c / 6) (by omega), nI_clamp (n := ou_ps P 2 c) (by omega), n1]
          cases hb : T (ou_ps P 3 c) with
          | none =>
            rw [hb] at ru
            rw [b0 hb]
            exact br_f (by decide) (st_c cl uub (by rw [ru, hb]; rfl) ht h)
          | some o2 =>
            rw [hb] at ru
            obtain ⟨z1, z2⟩ := b1 o2 hb
            have ty2 := ru_t p1 hv hT hb
            rw [z1]
            by_cases g1 : o2.1 = 1
            · have re2 := z2 g1
              have ru : ou_rl P T c = some (ou_ar (P 0 (c / 6)) o.2.2 o2.2.2) := by rw [ru]; show (if o2.1 = 1 then _ else _) = _; rw [if_pos g1]
              rw [g1, re, re2]
              refine br_t rfl ⟨hina, fun x ex => ⟨hinb, fun y ey => ?_⟩⟩
              subst ex ey
              clear hdtl list ub ud tb tl met ty ty2
              have c7 : P 0 (c / 6) = 14 ∨ P 0 (c / 6) = 15 ∨ P 0 (c / 6) = 16 ∨ P 0 (c / 6) = 17 ∨ P 0 (c / 6) = 18 ∨ P 0 (c / 6) = 19 ∨ P 0 (c / 6) = 20 := by omega
              have m63 : ¬ (o2.2.2 = 0 ∧ (P 0 (c / 6) = 17 ∨ P 0 (c / 6) = 18)) → wX_settleTwoSided_63 (fun u => match u with | (f_width9, f_textLength9, f_foundPlace9, f_tokenCount9, f_frameCount9, f_operandCount9, f_defCount9, f_nodeEnd9, a_text9, a_tokenCode9, a_tokenPlace9, a_frameCode9, a_framePlace9, a_operand9, a_defPlace9, a_defFirst9, a_defEnd9, a_nodeOp9, a_nodeNumber9, a_nodePlace9, a_nodeDepth9, a_nodeKind9, a_part9, a_size9, a_kindFound9, a_choice9, a_status9, a_result9, a_slotFunction9, a_slotArgument9) => post (f_width9, f_textLength9, f_foundPlace9, f_tokenCount9, f_frameCount9, f_operandCount9, f_defCount9, f_nodeEnd9, a_text9, a_tokenCode9, a_tokenPlace9, a_frameCode9, a_framePlace9, a_operand9, a_defPlace9, a_defFirst9, a_defEnd9, a_nodeOp9, a_nodeNumber9, a_nodePlace9, a_nodeDepth9, a_nodeKind9, a_part9, a_size9, a_kindFound9, a_choice9, a_status9, a_result9, a_slotFunction9, a_slotArgument9)) (nI c) (nI (xc_t (P 0 (c / 6)))) o.2.2 o2.2.2 f_width f_textLength f_foundPlace f_tokenCount f_frameCount f_operandCount f_defCount f_nodeEnd a_text a_tokenCode a_tokenPlace a_frameCode a_framePlace a_operand a_defPlace a_defFirst a_defEnd a_nodeOp a_nodeNumber a_nodePlace a_nodeDepth a_nodeKind a_part a_size a_kindFound a_choice a_status a_result a_slotFunction a_slotArgument := by
                intro nz
                unfold ou_ar at ru
                rw [if_neg nz] at ru
                rcases c7 with z | z | z | z | z | z | z <;> rw [z] at ru nz ⊢
                · exact br_f (by decide) (br_f (by decide) (br_t rfl (st_g cl ru rfl rfl h)))
                · exact br_f (by decide) (br_f (by decide) (br_f (by decide) (br_t rfl (st_g cl ru rfl rfl h))))
                · exact br_f (by decide) (br_t rfl (st_g cl ru rfl rfl h))
                · exact br_f (by decide) (br_f (by decide) (br_f (by decide) (br_f (by decide) (br_t rfl ⟨fun q => nz ⟨q, Or.inl rfl⟩, st_g cl ru rfl rfl h⟩))))
                · exact br_t rfl ⟨fun q => nz ⟨q, Or.inr rfl⟩, st_g cl ru rfl rfl h⟩
                · refine br_f (by decide) (br_f (by decide) (br_f (by decide) (br_f (by decide) (br_f (by decide) (br_t rfl ?_)))))
                  by_cases w : o2.2.2 ≤ o.2.2
                  · exact br_t w (st_g cl ru rfl (by show (if o.2.2 < o2.2.2 then (1 : Int64) else 0) = 0; rw [if_neg (Int64.not_lt.mpr w)]) h)
                  · exact br_f w (st_g cl ru rfl (by show (if o.2.2 < o2.2.2 then (1 : Int64) else 0) = 1; rw [if_pos (Int64.not_le.mp w)]) h)
                · refine br_f (by decide) (br_f (by decide) (br_f (by decide) (br_f (by decide) (br_f (by decide) (br_f (by decide) ?_)))))
                  by_cases w : o.2.2 = o2.2.2
                  · exact br_t w (st_g cl ru rfl (by show (if o.2.2 = o2.2.2 then (1 : Int64) else 0) = 1; rw [if_pos w]) h)
                  · exact br_f w (st_g cl ru rfl (by show (if o.2.2 = o2.2.2 then (1 : Int64) else 0) = 0; rw [if_neg w]) h)
              by_cases zz : o2.2.2 = 0
              · refine br_t zz ?_
                by_cases d17 : P 0 (c / 6) = 17
                · have ru2 : ou_rl P T c = some (3, 0, 0) := by rw [ru]; unfold ou_ar; rw [if_pos ⟨zz, Or.inl d17⟩]
                  rw [d17]
                  exact br_t rfl (st_s (s := 3) cl ru2 rfl (by decide) h)
                · by_cases d18 : P 0 (c / 6) = 18
                  · have ru2 : ou_rl P T c = some (3, 0, 0) := by rw [ru]; unfold ou_ar; rw [if_pos ⟨zz, Or.inr d18⟩]
                    rw [d18]
                    exact br_f (by decide) (br_t rfl (st_s (s := 3) cl ru2 rfl (by decide) h))
                  · have m := m63 (fun w => w.2.elim d17 d18)
                    rcases c7 with z | z | z | z | z | z | z
                    · rw [z] at m ⊢; exact br_f (by decide) (br_f (by decide) m)
                    · rw [z] at m ⊢; exact br_f (by decide) (br_f (by decide) m)
                    · rw [z] at m ⊢; exact br_f (by decide) (br_f (by decide) m)
                    · exact absurd z d17
                    · exact absurd z d18
                    · rw [z] at m ⊢; exact br_f (by decide) (br_f (by decide) m)
                    · rw [z] at m ⊢; exact br_f (by decide) (br_f (by decide) m)
              · exact br_f zz (m63 (fun w => zz w.1))
            · have ru : ou_rl P T c = T (ou_ps P 3 c) := by rw [ru, hb]; show (if o2.1 = 1 then _ else _) = _; rw [if_neg g1]
              have o25 : o2.1 < 6 := by
                rcases ty2 with w | w
                · exact absurd w.1 g1
                · have := w.1; omega
              exact br_f (fun w => g1 ((nI_eq (b := 1) (by omega) (by decide)).mp w)) (st_c cl uub ru ht h)
        -- by the op
        rcases cs with q | q | q | q | q | q | q | q | q | q | q | q | q | q | q | q | q | q | q | q | q | q | q
        · exact absurd (by rw [q]; rfl) nl
        · exact absurd (by rw [q]; rfl) nl
        · exact absurd (by rw [q]; rfl) nl
        · exact absurd (by rw [q]; rfl) nl
        · exact absurd (by rw [q]; rfl) nl
        · -- if
          have b3 := ub (by rw [q]; decide)
          have b4 := ud (by rw [q]; decide)
          rw [q]
          refine br_f (by decide) (br_f (by decide) (br_f (by decide) (br_f (by decide) (br_f (by decide) (br_f (by decide) (br_t rfl ⟨hina, ?_⟩))))))
          rw [re]
          by_cases z : o.2.2 = 0
          · exact br_t z (st_c cl b4 (by rw [ru_3 q ha h1, if_pos z]) ht h)
          · exact br_f z (st_c cl b3 (by rw [ru_3 q ha h1, if_neg z]) ht h)
        · exact absurd q n6
        · -- hd
          have m := hdtl 0 (Or.inl ⟨rfl, q⟩)
          rw [q]
          exact br_f (by decide) (br_f (by decide) (br_f (by decide) (br_f (by decide) (br_f (by decide) (br_t rfl m)))))
        · -- tl
          have m := hdtl 1 (Or.inr ⟨rfl, q⟩)
          rw [q]
          exact br_f (by decide) (br_f (by decide) (br_f (by decide) (br_f (by decide) (br_f (by decide) (br_f (by decide) (br_f (by decide) (br_t rfl m)))))))
        · -- nul
          have r := ru_23 (Or.inr q) ha h1
          rw [q]
          refine br_f (by decide) (br_f (by decide) (br_f (by decide) (br_f (by decide) (br_f (by decide) (br_f (by decide) (br_f (by decide) (br_f (by decide) (br_t rfl ⟨hina, ?_⟩))))))))
          rw [nI_clamp (by omega), re]
          by_cases z : o.2.2 = 0
          · rw [if_pos z] at r; exact br_t z (st_g cl r rfl rfl h)
          · rw [if_neg z] at r; exact br_f z (st_g cl r rfl rfl h)
        · -- a call
          obtain ⟨f5, fs⟩ := o3 q
          have r := ru_13 q ha h1
          rw [q]
          refine br_f (by decide) (br_t rfl ⟨hinu, hina, ?_⟩)
          rw [re, nI_clamp (n := c / 6) (by omega), n2]
          have ew : f_width.toInt64 = lN (P 6 0) := by rw [hw]; exact nI_l (by omega)
          by_cases z : o.2.2 < 0
          · rw [if_pos (Or.inl z)] at r
            exact br_t z (st_s (s := 4) cl r rfl (by decide) h)
          · refine br_f z ?_
            rw [ew]
            by_cases z2 : lN (P 6 0) ≤ o.2.2
            · rw [if_pos (Or.inr z2)] at r
              exact br_f (Int64.not_lt.mpr z2) (st_s (s := 4) cl r rfl (by decide) h)
            · have nz : ¬ (o.2.2 < 0 ∨ lN (P 6 0) ≤ o.2.2) := fun w => w.elim z z2
              rw [if_neg nz] at r
              refine br_t (Int64.not_le.mp z2) ?_
              obtain ⟨x, x1, x2, x3⟩ := ou_arg (by omega) nz
              rw [x3] at r
              rw [x2, lN_i]
              refine ⟨vp_in_nI f5 (by decide), ?_⟩
              rw [nI_clamp (by omega), p3 _ f5]
              have uc := sl_cfl p1 f5 fs x1
              have e : (nI (P 1 (c / 6)) * 24 + nI (P 5 (P 1 (c / 6))) - 1) * 6 + nI x = nI (ou_cf P (P 1 (c / 6)) x) := by
                have a : nI (P 1 (c / 6)) * 24 = nI (P 1 (c / 6) * 24) := pk_mul _ 24
                rw [a, nI_add]
                have b : nI (P 1 (c / 6) * 24 + P 5 (P 1 (c / 6))) - 1 = nI (P 1 (c / 6) * 24 + P 5 (P 1 (c / 6)) - 1) := pk_sub (b := 1) (by omega)
                rw [b, st_x]; rfl
              rw [e]
              exact st_c cl uc r ht h
        · have m := two (by omega)
          rw [nI_clamp (by omega), n1, q] at m
          rw [nI_clamp (by omega), n1, q]
          exact br_f (by decide) (br_f (by decide) (br_f (by decide) (br_f (by decide) (br_f (by decide) (br_f (by decide) (br_f (by decide) (br_f (by decide) (br_f (by decide) m))))))))
        · have m := two (by omega)
          rw [nI_clamp (by omega), n1, q] at m
          rw [nI_clamp (by omega), n1, q]
          exact br_f (by decide) (br_f (by decide) (br_f (by decide) (br_f (by decide) (br_f (by decide) (br_f (by decide) (br_f (by decide) (br_f (by decide) (br_f (by decide) m))))))))
        · have m := two (by omega)
          rw [nI_clamp (by omega), n1, q] at m
          rw [nI_clamp (by omega), n1, q]
          exact br_f (by decide) (br_f (by decide) (br_f (by decide) (br_f (by decide) (br_f (by decide) (br_f (by decide) (br_f (by decide) (br_f (by decide) (br_f (by decide) m))))))))
        · have m := two (by omega)
          rw [nI_clamp (by omega), n1, q] at m
          rw [nI_clamp (by omega), n1, q]
          exact br_f (by decide) (br_f (by decide) (br_f (by decide) (br_f (by decide) (br_f (by decide) (br_f (by decide) (br_f (by decide) (br_f (by decide) (br_f (by decide) m))))))))
        · have m := two (by omega)
          rw [nI_clamp (by omega), n1, q] at m
          rw [nI_clamp (by omega), n1, q]
          exact br_f (by decide) (br_f (by decide) (br_f (by decide) (br_f (by decide) (br_f (by decide) (br_f (by decide) (br_f (by decide) (br_f (by decide) (br_f (by decide) m))))))))
        · have m := two (by omega)
          rw [nI_clamp (by omega), n1, q] at m
          rw [nI_clamp (by omega), n1, q]
          exact br_f (by decide) (br_f (by decide) (br_f (by decide) (br_f (by decide) (br_f (by decide) (br_f (by decide) (br_f (by decide) (br_f (by decide) (br_f (by decide) m))))))))
        · have m := two (by omega)
          rw [nI_clamp (by omega), n1, q] at m
          rw [nI_clamp (by omega), n1, q]
          exact br_f (by decide) (br_f (by decide) (br_f (by decide) (br_f (by decide) (br_f (by decide) (br_f (by decide) (br_f (by decide) (br_f (by decide) (br_f (by decide) m))))))))
        · -- and
          have b3 := ub (by rw [q]; decide)
          rw [q]
          refine br_f (by decide) (br_f (by decide) (br_f (by decide) (br_t rfl ⟨hina, ?_⟩)))
          rw [re]
          by_cases z : o.2.2 = 0
          · exact br_t z (st_c cl ua (by rw [ru_21 q ha h1, if_pos z, ha]) ht h)
          · exact br_f z (st_c cl b3 (by rw [ru_21 q ha h1, if_neg z]) ht h)
        · -- or
          have b3 := ub (by rw [q]; decide)
          rw [q]
          refine br_f (by decide) (br_f (by decide) (br_f (by decide) (br_f (by decide) (br_t rfl ⟨hina, ?_⟩))))
          rw [re]
          by_cases z : o.2.2 = 0
          · exact br_t z (st_c cl b3 (by rw [ru_22 q ha h1, if_pos z]) ht h)
          · exact br_f z (st_c cl ua (by rw [ru_22 q ha h1, if_neg z, ha]) ht h)
        · -- not
          have r := ru_23 (Or.inl q) ha h1
          rw [q]
          refine br_f (by decide) (br_f (by decide) (br_t rfl ⟨hina, ?_⟩))
          rw [nI_clamp (by omega), re]
          by_cases z : o.2.2 = 0
          · rw [if_pos z] at r; exact br_t z (st_g cl r rfl rfl h)
          · rw [if_neg z] at r; exact br_f z (st_g cl r rfl rfl h)
        · exact absurd (by rw [q]; rfl) nl
        · -- negate
          have r := ru_28 q ha h1
          rw [q]
          refine br_t rfl ⟨hina, ?_⟩
          rw [re]
          exact st_g cl r rfl rfl h
      · have o5 : o.1 < 6 := by
          rcases ty with w | w
          · exact absurd w.1 h1
          · have := w.1; omega
        exact br_f (fun w => h1 ((nI_eq (b := 1) (by omega) (by decide)).mp w)) (st_c cl ua (by rw [ru_e nl ha n6 h1, ha]) ht h)
  by_cases t6 : P 0 (c / 6) = 6
  · -- try
    have ua : ou_uc P (ou_ps P 2 c) := ru_p (j := 0) p1 hu (by rw [t6]; decide)
    have ub : ou_uc P (ou_ps P 3 c) := ru_p (j := 1) p1 hu (by rw [t6]; decide)
    have al := ou_uc_lt ua
    have hina := vp_in_nI (n := ou_ps P 2 c) (N := 720) al (by decide)
    obtain ⟨t0, t1⟩ := ht _ ua
    rw [t6]
    refine br_f (by decide) (br_f (by decide) (br_f (by decide) (br_f (by decide) (br_f (by decide) (br_t rfl ?_)))))
    intro x3 e3
    rw [st_x, ec] at e3
    subst e3
    rw [e30]
    refine ⟨vp_in_nI (by omega) (by decide), fun x4 e4 => ⟨by rw [e31]; exact vp_in_nI (by omega) (by decide), fun x5 e5 => ⟨?_, ?_⟩⟩⟩
    · rw [nI_clamp (by omega), n3, st_x, eps] at e4
      rw [e4]; exact hina
    · rw [nI_clamp (by omega), n3, st_x, eps] at e4
      rw [e31, nI_clamp (by omega), n4, st_x, eps] at e5
      subst e4 e5
      rw [nI_clamp (by omega)]
      cases ha : T (ou_ps P 2 c) with
      | none =>
        rw [t0 ha]
        exact br_f (by decide) ⟨hina, br_f (by decide) ⟨hina, br_f (by decide) (br_t rfl (st_c cl ua (by rw [ru_n (by rw [t6]; decide) ha, ha]) ht h))⟩⟩
      | some o =>
        obtain ⟨s1, s2⟩ := t1 o ha
        have ty := ru_t p1 hv hT ha
        have r := ru_6 t6 ha
        rw [s1]
        rcases ty with ty | ty
        · rw [if_pos ty.1] at r
          rw [ty.1]
          exact br_f (by decide) ⟨hina, br_f (by decide) ⟨hina, br_f (by decide) (br_t rfl (st_c cl ua (by rw [r, ha]) ht h))⟩⟩
        · rw [if_neg (by omega)] at r
          have cp : wX_settleTry_72 (fun u => match u with | (f_width9, f_textLength9, f_foundPlace9, f_tokenCount9, f_frameCount9, f_operandCount9, f_defCount9, f_nodeEnd9, a_text9, a_tokenCode9, a_tokenPlace9, a_frameCode9, a_framePlace9, a_operand9, a_defPlace9, a_defFirst9, a_defEnd9, a_nodeOp9, a_nodeNumber9, a_nodePlace9, a_nodeDepth9, a_nodeKind9, a_part9, a_size9, a_kindFound9, a_choice9, a_status9, a_result9, a_slotFunction9, a_slotArgument9) => post (f_width9, f_textLength9, f_foundPlace9, f_tokenCount9, f_frameCount9, f_operandCount9, f_defCount9, f_nodeEnd9, a_text9, a_tokenCode9, a_tokenPlace9, a_frameCode9, a_framePlace9, a_operand9, a_defPlace9, a_defFirst9, a_defEnd9, a_nodeOp9, a_nodeNumber9, a_nodePlace9, a_nodeDepth9, a_nodeKind9, a_part9, a_size9, a_kindFound9, a_choice9, a_status9, a_result9, a_slotFunction9, a_slotArgument9)) (nI c) (nI (ou_ps P 2 c)) (nI (ou_ps P 3 c)) f_width f_textLength f_foundPlace f_tokenCount f_frameCount f_operandCount f_defCount f_nodeEnd a_text a_tokenCode a_tokenPlace a_frameCode a_framePlace a_operand a_defPlace a_defFirst a_defEnd a_nodeOp a_nodeNumber a_nodePlace a_nodeDepth a_nodeKind a_part a_size a_kindFound a_choice a_status a_result a_slotFunction a_slotArgument := bq_1 (st_c cl ub r ht h)
          rcases ty.1 with w | w | w <;> rw [w]
          · exact br_t rfl cp
          · exact br_f (by decide) ⟨hina, br_t rfl cp⟩
          · exact br_f (by decide) ⟨hina, br_f (by decide) ⟨hina, br_t rfl cp⟩⟩
  · by_cases lf : ou_lf (P 0 (c / 6)) = true
    · have r := ru_l (T := T) lf
      have hh : P 0 (c / 6) = 1 ∨ P 0 (c / 6) = 2 ∨ P 0 (c / 6) = 10 ∨ P 0 (c / 6) = 11 ∨ P 0 (c / 6) = 12 ∨ P 0 (c / 6) = 24 := by
        simp [ou_lf] at lf; omega
      rcases hh with q | q | q | q | q | q <;> unfold ou_lv at r
      · rw [if_pos q] at r
        rw [q]
        refine br_t rfl ⟨hinu, ?_⟩
        have := o2 q
        rw [nI_clamp (by omega), n2, nI_l (by omega)]
        exact st_g cl r rfl rfl h
      · rw [if_neg (by omega), if_pos q] at r
        rw [q]
        refine br_f (by decide) (br_f (by decide) (br_t rfl ?_))
        rw [nI_l (by omega)]
        exact st_g cl r rfl rfl h
      · rw [if_neg (by omega), if_neg (by omega), if_pos q] at r
        rw [q]
        exact br_f (by decide) (br_f (by decide) (br_f (by decide) (br_f (by decide) (br_t rfl (st_g cl r rfl rfl h)))))
      · rw [if_neg (by omega), if_neg (by omega), if_neg (by omega), if_pos q] at r
        rw [q]
        exact br_f (by decide) (br_f (by decide) (br_f (by decide) (br_f (by decide) (br_f (by decide) (br_f (by decide) (br_t rfl (st_g cl r rfl rfl h)))))))
      · rw [if_neg (by omega), if_neg (by omega), if_neg (by omega), if_neg (by omega), if_pos q] at r
        rw [q]
        exact br_f (by decide) (br_f (by decide) (br_f (by decide) (br_t rfl (st_g cl r rfl rfl h))))
      · rw [if_neg (by omega), if_neg (by omega), if_neg (by omega), if_neg (by omega), if_neg (by omega)] at r
        rw [q]
        refine br_f (by decide) (br_t rfl ?_)
        rw [nI_1, nI_l (by omega)]
        exact st_g cl r rfl rfl h
    · have m := strict lf t6
      have cs := ky_23 o1
      rcases cs with q | q | q | q | q | q | q | q | q | q | q | q | q | q | q | q | q | q | q | q | q | q | q
      · exact absurd (by rw [q]; rfl) lf
      · exact absurd (by rw [q]; rfl) lf
      · exact absurd (by rw [q]; rfl) lf
      · exact absurd (by rw [q]; rfl) lf
      · exact absurd (by rw [q]; rfl) lf
      · rw [q]; exact br_f (by decide) (br_f (by decide) (br_f (by decide) (br_f (by decide) (br_f (by decide) (br_f (by decide) (br_f (by decide) m))))))
      · exact absurd q t6
      · rw [q]; exact br_f (by decide) (br_f (by decide) (br_f (by decide) (br_f (by decide) (br_f (by decide) (br_f (by decide) (br_f (by decide) m))))))
      · rw [q]; exact br_f (by decide) (br_f (by decide) (br_f (by decide) (br_f (by decide) (br_f (by decide) (br_f (by decide) (br_f (by decide) m))))))
      · rw [q]; exact br_f (by decide) (br_f (by decide) (br_f (by decide) (br_f (by decide) (br_f (by decide) (br_f (by decide) (br_f (by decide) m))))))
      · rw [q]; exact br_f (by decide) (br_f (by decide) (br_f (by decide) (br_f (by decide) (br_f (by decide) (br_f (by decide) (br_f (by decide) m))))))
      · rw [q]; exact br_f (by decide) (br_f (by decide) (br_f (by decide) (br_f (by decide) (br_f (by decide) (br_f (by decide) (br_f (by decide) m))))))
      · rw [q]; exact br_f (by decide) (br_f (by decide) (br_f (by decide) (br_f (by decide) (br_f (by decide) (br_f (by decide) (br_f (by decide) m))))))
      · rw [q]; exact br_f (by decide) (br_f (by decide) (br_f (by decide) (br_f (by decide) (br_f (by decide) (br_f (by decide) (br_f (by decide) m))))))
      · rw [q]; exact br_f (by decide) (br_f (by decide) (br_f (by decide) (br_f (by decide) (br_f (by decide) (br_f (by decide) (br_f (by decide) m))))))
      · rw [q]; exact br_f (by decide) (br_f (by decide) (br_f (by decide) (br_f (by decide) (br_f (by decide) (br_f (by decide) (br_f (by decide) m))))))
      · rw [q]; exact br_f (by decide) (br_f (by decide) (br_f (by decide) (br_f (by decide) (br_f (by decide) (br_f (by decide) (br_f (by decide) m))))))
      · rw [q]; exact br_f (by decide) (br_f (by decide) (br_f (by decide) (br_f (by decide) (br_f (by decide) (br_f (by decide) (br_f (by decide) m))))))
      · rw [q]; exact br_f (by decide) (br_f (by decide) (br_f (by decide) (br_f (by decide) (br_f (by decide) (br_f (by decide) (br_f (by decide) m))))))
      · rw [q]; exact br_f (by decide) (br_f (by decide) (br_f (by decide) (br_f (by decide) (br_f (by decide) (br_f (by decide) (br_f (by decide) m))))))
      · rw [q]; exact br_f (by decide) (br_f (by decide) (br_f (by decide) (br_f (by decide) (br_f (by decide) (br_f (by decide) (br_f (by decide) m))))))
      · exact absurd (by rw [q]; rfl) lf
      · rw [q]; exact br_f (by decide) (br_f (by decide) (br_f (by decide) (br_f (by decide) (br_f (by decide) (br_f (by decide) (br_f (by decide) m))))))
end
