-- Y finds a cell
def yo_P (P : Nat → Nat → Nat) (g : Nat → Nat) (o : ou_O) (s : Int32) (n : Int64) (q : Int32) : Prop :=
  s = nI o.1 ∧ (o.1 = 1 → (o.2.1 ≠ 3 → n = o.2.2) ∧ (o.2.1 = 3 → (o.2.2 = 0 → n = 0) ∧ (o.2.2 ≠ 0 → n = 1 ∧ ∃ k, ou_uc P k ∧ q = nI k ∧ rl_gc g k = ou_jn o.2.2)))
section
variable {f_width f_length f_place f_toks f_nodes f_defs : Int32} {a_text a_tok a_tokNum a_tokPlace a_opened a_nOp a_nNum a_nPlace a_nA a_nB a_nC a_nLo a_nHi a_nLevel a_defName a_defPlace a_defRoot a_loaded a_count a_status : Nat → Int32} {a_number : Nat → Int64} {a_origin a_choice a_slotF a_slotX a_slotHeld : Nat → Int32} {P : Nat → Nat → Nat} {T : Nat → Option ou_O} {d c0 : Nat} {g : Nat → Nat} {post : SY → Prop}
theorem fd_d (hd : d < 720) {o : ou_O} {v : Int64} (hr : ou_rl P T (rl_gc g d) = some o) (ho : yo_P P g o 1 v (a_origin d)) (h : ∀ st nu og, (∀ i, i ≠ d → st i = a_status i ∧ nu i = a_number i ∧ og i = a_origin i) → (ou_rl P T (rl_gc g d) = none → st d = 0) → (∀ o, ou_rl P T (rl_gc g d) = some o → yo_P P g o (st d) (nu d) (og d)) → post (f_width, f_length, f_place, f_toks, f_nodes, f_defs, a_text, a_tok, a_tokNum, a_tokPlace, a_opened, a_nOp, a_nNum, a_nPlace, a_nA, a_nB, a_nC, a_nLo, a_nHi, a_nLevel, a_defName, a_defPlace, a_defRoot, a_loaded, a_count, st, nu, og, a_choice, a_slotF, a_slotX, a_slotHeld)) : wpY_done post (f_width, f_length, f_place, f_toks, f_nodes, f_defs, a_text, a_tok, a_tokNum, a_tokPlace, a_opened, a_nOp, a_nNum, a_nPlace, a_nA, a_nB, a_nC, a_nLo, a_nHi, a_nLevel, a_defName, a_defPlace, a_defRoot, a_loaded, a_count, a_status, a_number, a_origin, a_choice, a_slotF, a_slotX, a_slotHeld) (nI d) v := by
  have hin := vp_in_nI (n := d) (N := 720) hd (by decide)
  refine ⟨hin, fun A eA => ⟨hin, fun B eB => ?_⟩⟩
  rw [nI_clamp (by omega)] at eA eB
  subst eA eB
  refine h _ _ _ (fun i hi => ⟨pk_un hi, pk_uLn hi, rfl⟩) (fun q => by rw [hr] at q; exact absurd q (by simp)) (fun o2 q => ?_)
  rw [hr] at q
  have := Option.some.inj q
  subst this
  rw [pk_us, pk_uLs]; exact ho
theorem fd_s (hd : d < 720) {o : ou_O} {s : Nat} (hr : ou_rl P T (rl_gc g d) = some o) (ho : o.1 = s) (hs : s ≠ 1) (h : ∀ st nu og, (∀ i, i ≠ d → st i = a_status i ∧ nu i = a_number i ∧ og i = a_origin i) → (ou_rl P T (rl_gc g d) = none → st d = 0) → (∀ o, ou_rl P T (rl_gc g d) = some o → yo_P P g o (st d) (nu d) (og d)) → post (f_width, f_length, f_place, f_toks, f_nodes, f_defs, a_text, a_tok, a_tokNum, a_tokPlace, a_opened, a_nOp, a_nNum, a_nPlace, a_nA, a_nB, a_nC, a_nLo, a_nHi, a_nLevel, a_defName, a_defPlace, a_defRoot, a_loaded, a_count, st, nu, og, a_choice, a_slotF, a_slotX, a_slotHeld)) : vp_in (nI d) 720 ∧ ∀ A, A = upd a_status (nI d).toNatClampNeg (nI s) → post (f_width, f_length, f_place, f_toks, f_nodes, f_defs, a_text, a_tok, a_tokNum, a_tokPlace, a_opened, a_nOp, a_nNum, a_nPlace, a_nA, a_nB, a_nC, a_nLo, a_nHi, a_nLevel, a_defName, a_defPlace, a_defRoot, a_loaded, a_count, A, a_number, a_origin, a_choice, a_slotF, a_slotX, a_slotHeld) := by
  have hin := vp_in_nI (n := d) (N := 720) hd (by decide)
  refine ⟨hin, fun A eA => ?_⟩
  rw [nI_clamp (by omega)] at eA
  subst eA
  refine h _ _ _ (fun i hi => ⟨pk_un hi, rfl, rfl⟩) (fun q => by rw [hr] at q; exact absurd q (by simp)) (fun o2 q => ?_)
  rw [hr] at q
  have := Option.some.inj q
  subst this
  rw [pk_us]
  exact ⟨by rw [ho], fun q => absurd (ho ▸ q) hs⟩
theorem fd_c (hd : d < 720) {e : Nat} (he : ou_uc P e) (hr : ou_rl P T (rl_gc g d) = T (rl_gc g e)) (ht : rl_tY P g T a_status a_number a_origin) (h : ∀ st nu og, (∀ i, i ≠ d → st i = a_status i ∧ nu i = a_number i ∧ og i = a_origin i) → (ou_rl P T (rl_gc g d) = none → st d = 0) → (∀ o, ou_rl P T (rl_gc g d) = some o → yo_P P g o (st d) (nu d) (og d)) → post (f_width, f_length, f_place, f_toks, f_nodes, f_defs, a_text, a_tok, a_tokNum, a_tokPlace, a_opened, a_nOp, a_nNum, a_nPlace, a_nA, a_nB, a_nC, a_nLo, a_nHi, a_nLevel, a_defName, a_defPlace, a_defRoot, a_loaded, a_count, st, nu, og, a_choice, a_slotF, a_slotX, a_slotHeld)) : wpY_same post (f_width, f_length, f_place, f_toks, f_nodes, f_defs, a_text, a_tok, a_tokNum, a_tokPlace, a_opened, a_nOp, a_nNum, a_nPlace, a_nA, a_nB, a_nC, a_nLo, a_nHi, a_nLevel, a_defName, a_defPlace, a_defRoot, a_loaded, a_count, a_status, a_number, a_origin, a_choice, a_slotF, a_slotX, a_slotHeld) (nI d) (nI e) := by
  have hin := vp_in_nI (n := d) (N := 720) hd (by decide)
  have el := ou_uc_lt he
  have hie := vp_in_nI (n := e) (N := 720) el (by decide)
  refine ⟨hie, hin, fun A eA => ⟨hie, hin, fun B eB => ⟨hie, hin, fun C eC => ?_⟩⟩⟩
  rw [nI_clamp (n := d) (by omega), nI_clamp (n := e) (by omega)] at eA eB eC
  subst eA eB eC
  obtain ⟨t0, t1⟩ := ht e he
  refine h _ _ _ (fun i hi => ⟨pk_un hi, pk_uLn hi, pk_un hi⟩) (fun q => ?_) (fun o q => ?_)
  · rw [pk_us]; exact t0 (by rw [← hr]; exact q)
  · rw [pk_us, pk_uLs, pk_us]; exact t1 o (by rw [← hr]; exact q)
theorem fd_Y (hP : yl_P P g a_loaded a_count a_nOp a_nNum a_nA a_nB a_nC) (hw : f_width = nI (P 6 0)) (hv : rl_V P c0) (hT : ps_s P T) (ht : rl_tY P g T a_status a_number a_origin) (hu : ou_uc P d) (hn : T (rl_gc g d) = none)
    (h : ∀ st nu og, (∀ i, i ≠ d → st i = a_status i ∧ nu i = a_number i ∧ og i = a_origin i) → (ou_rl P T (rl_gc g d) = none → st d = 0) → (∀ o, ou_rl P T (rl_gc g d) = some o → yo_P P g o (st d) (nu d) (og d)) → post (f_width, f_length, f_place, f_toks, f_nodes, f_defs, a_text, a_tok, a_tokNum, a_tokPlace, a_opened, a_nOp, a_nNum, a_nPlace, a_nA, a_nB, a_nC, a_nLo, a_nHi, a_nLevel, a_defName, a_defPlace, a_defRoot, a_loaded, a_count, st, nu, og, a_choice, a_slotF, a_slotX, a_slotHeld)) : wpY_find post (f_width, f_length, f_place, f_toks, f_nodes, f_defs, a_text, a_tok, a_tokNum, a_tokPlace, a_opened, a_nOp, a_nNum, a_nPlace, a_nA, a_nB, a_nC, a_nLo, a_nHi, a_nLevel, a_defName, a_defPlace, a_defRoot, a_loaded, a_count, a_status, a_number, a_origin, a_choice, a_slotF, a_slotX, a_slotHeld) (nI (d / 6)) (nI (d % 6)) (nI d) := by
  obtain ⟨p1, p2, p3, p4, p5⟩ := hP
  have dl := ou_uc_lt hu
  have hid := vp_in_nI (n := d) (N := 720) dl (by decide)
  obtain ⟨gu, g24⟩ := p2.1 _ hu.1
  obtain ⟨n1, n2, n3, n4, n5⟩ := p5 _ hu.1
  obtain ⟨o1, o2, o3, o4⟩ := p1.2.2.2 _ gu
  have cd : rl_gc g d / 6 = g (d / 6) := by unfold rl_gc; omega
  have cm : rl_gc g d % 6 = d % 6 := by unfold rl_gc; omega
  have huc : ou_uc P (rl_gc g d) := by unfold ou_uc; rw [cd, cm]; exact ⟨gu, hu.2⟩
  have ccl := ou_uc_lt huc
  have u120 := hu.1.1
  have w6 := p1.2.1
  have hinr := vp_in_nI (n := d / 6) (N := 320) (by omega) (by decide)
  have x6 : ∀ a : Nat, nI a * 6 + nI (d % 6) = nI (a * 6 + d % 6) := fun a => st_x
  -- a part's cell
  have cell : ∀ k a, ou_us P a → g a = P k (g (d / 6)) → ou_uc P (a * 6 + d % 6) ∧ rl_gc g (a * 6 + d % 6) = ou_ps P k (rl_gc g d) := by
    intro k a ha hg
    have e1 : (a * 6 + d % 6) / 6 = a := by omega
    have e2 : (a * 6 + d % 6) % 6 = d % 6 := by omega
    refine ⟨⟨by rw [e1]; exact ha, by rw [e2]; exact hu.2⟩, ?_⟩
    unfold ou_ps
    rw [cd, cm]
    unfold rl_gc
    rw [e1, e2, hg]
  refine ⟨hinr, fun t et => ?_⟩
  rw [nI_clamp (by omega), n1] at et
  subst et
  have t28 : P 0 (g (d / 6)) ≤ 28 := o1.2.1
  have ne : ∀ {a b : Nat}, a ≤ 28 → b ≤ 28 → a ≠ b → ¬ nI a = nI b := fun h1 h2 h3 q => h3 ((nI_eq (by omega) (by omega)).mp q)
  by_cases lf : ou_lf (P 0 (g (d / 6))) = true
  · have r := ru_l (P := P) (T := T) (c := rl_gc g d) (by rw [cd]; exact lf)
    have hh : P 0 (g (d / 6)) = 1 ∨ P 0 (g (d / 6)) = 2 ∨ P 0 (g (d / 6)) = 10 ∨ P 0 (g (d / 6)) = 11 ∨ P 0 (g (d / 6)) = 12 ∨ P 0 (g (d / 6)) = 24 := by
      simp [ou_lf] at lf; omega
    unfold ou_lv at r
    rw [cd, cm] at r
    rcases hh with q | q | q | q | q | q
    · rw [if_pos q] at r
      rw [q]
      refine br_t rfl ⟨hinr, ?_⟩
      have := o2 q
      rw [nI_clamp (by omega), n2, nI_l (by omega)]
      exact fd_d dl r ⟨rfl, fun _ => ⟨fun _ => rfl, fun q => absurd q (by simp)⟩⟩ h
    · rw [if_neg (by omega), if_pos q] at r
      rw [q]
      refine br_f (by decide) (br_t rfl ?_)
      rw [nI_l (by omega)]
      exact fd_d dl r ⟨rfl, fun _ => ⟨fun _ => rfl, fun q => absurd q (by simp)⟩⟩ h
    · rw [if_neg (by omega), if_neg (by omega), if_pos q] at r
      rw [q]
      refine br_f (by decide) (br_f (by decide) (br_f (by decide) (br_f (by decide) (br_t rfl (br_f (by decide) ?_)))))
      refine fd_d dl r ⟨rfl, fun _ => ⟨fun q => absurd rfl q, fun _ => ⟨fun _ => rfl, fun q => absurd rfl q⟩⟩⟩ (fun st nu og k1 k2 k3 => ⟨hid, fun A eA => ?_⟩)
      rw [nI_clamp (by omega)] at eA
      subst eA
      refine h st nu _ (fun i hi => ⟨(k1 i hi).1, (k1 i hi).2.1, by rw [pk_un hi]; exact (k1 i hi).2.2⟩) k2 (fun o q2 => ?_)
      have k := k3 o q2
      rw [r] at q2
      have := Option.some.inj q2
      subst this
      exact ⟨k.1, fun w => ⟨(k.2 w).1, fun w2 => ⟨((k.2 w).2 w2).1, fun w3 => absurd rfl w3⟩⟩⟩
    · rw [if_neg (by omega), if_neg (by omega), if_neg (by omega), if_pos q] at r
      rw [q]
      refine br_f (by decide) (br_f (by decide) (br_t rfl (br_t rfl ?_)))
      exact fd_d dl r ⟨rfl, fun _ => ⟨fun _ => rfl, fun q => absurd q (by simp)⟩⟩ h
    · rw [if_neg (by omega), if_neg (by omega), if_neg (by omega), if_neg (by omega), if_pos q] at r
      rw [q]
      refine br_f (by decide) (br_f (by decide) (br_f (by decide) (br_t rfl (br_f (by decide) ?_))))
      exact fd_d dl r ⟨rfl, fun _ => ⟨fun _ => rfl, fun q => absurd q (by simp)⟩⟩ h
    · rw [if_neg (by omega), if_neg (by omega), if_neg (by omega), if_neg (by omega), if_neg (by omega)] at r
      rw [q]
      refine br_f (by decide) (br_f (by decide) (br_f (by decide) (br_f (by decide) (br_f (by decide) (br_t rfl (br_t rfl ?_))))))
      have nz : lN (rl_gc g d + 1) ≠ 0 := fun w => by
        have w : lN (rl_gc g d + 1) = lN 0 := w
        rw [lN_eq (by omega) (by omega)] at w; omega
      -- number first, then the origin
      refine ⟨hid, fun A eA => ⟨hid, fun B eB => ⟨hid, fun C eC => ?_⟩⟩⟩
      rw [nI_clamp (by omega)] at eA eB eC
      subst eA eB eC
      refine h _ _ _ (fun i hi => ⟨pk_un hi, pk_uLn hi, pk_un hi⟩) (fun q2 => by rw [r] at q2; exact absurd q2 (by simp)) (fun o q2 => ?_)
      rw [r] at q2
      have := Option.some.inj q2
      subst this
      rw [pk_us, pk_uLs, pk_us]
      exact ⟨rfl, fun _ => ⟨fun w => absurd rfl w, fun _ => ⟨fun w => absurd w nz, fun _ => ⟨rfl, d, hu, rfl, (ou_jn_e ccl).symm⟩⟩⟩⟩
  · have nl : ¬ ou_lf (P 0 (rl_gc g d / 6)) = true := by rw [cd]; exact lf
    have pn : 0 < pg_n (P 0 (g (d / 6))) := by
      unfold pg_n
      split
      · omega
      · split
        · rename_i q; exact absurd (by rcases q with q | q | q | q | q <;> rw [q] <;> rfl) lf
        · split <;> omega
    obtain ⟨a, a1, a2, a3⟩ := n3 pn
    obtain ⟨ua, ca⟩ := cell 2 a a2 a3
    have al := ou_uc_lt ua
    have hina := vp_in_nI (n := a * 6 + d % 6) (N := 720) al (by decide)
    obtain ⟨t0, t1⟩ := ht _ ua
    rw [ca] at t0 t1
    have strict : ∀ q : SY → Prop, True := fun _ => trivial
    have l1 : P 0 (g (d / 6)) ≠ 1 ∧ P 0 (g (d / 6)) ≠ 2 ∧ P 0 (g (d / 6)) ≠ 11 ∧ P 0 (g (d / 6)) ≠ 12 ∧ P 0 (g (d / 6)) ≠ 10 ∧ P 0 (g (d / 6)) ≠ 24 := by
      refine ⟨?_, ?_, ?_, ?_, ?_, ?_⟩ <;> intro q <;> exact lf (by rw [q]; rfl)
    refine br_f (ne (b := 1) t28 (by decide) l1.1) (br_f (ne (b := 2) t28 (by decide) l1.2.1) (br_f (ne (b := 11) t28 (by decide) l1.2.2.1) (br_f (ne (b := 12) t28 (by decide) l1.2.2.2.1) (br_f (ne (b := 10) t28 (by decide) l1.2.2.2.2.1) (br_f (ne (b := 24) t28 (by decide) l1.2.2.2.2.2) ⟨hinr, fun x5 e5 => ?_⟩)))))
    rw [nI_clamp (by omega), a1, x6] at e5
    subst e5
    refine ⟨hina, ?_⟩
    rw [nI_clamp (by omega)]
    cases ha : T (ou_ps P 2 (rl_gc g d)) with
    | none =>
      rw [t0 ha]
      refine br_t rfl (h _ _ _ (fun i hi => ⟨rfl, rfl, rfl⟩) (fun _ => (ht d hu).1 hn) (fun o q => ?_))
      rw [ru_n nl ha] at q; exact absurd q (by simp)
    | some o =>
      obtain ⟨s1, s2⟩ := t1 o ha
      have ty := ru_t p1 hv hT ha
      have o16 : 0 < o.1 ∧ o.1 < 6 := by
        rcases ty with w | w
        · omega
        · have := w.1; omega
      rw [s1]
      refine br_f (nI_ne0 o16.1 (by omega)) ?_
      have gb : 1 < pg_n (P 0 (g (d / 6))) → ∃ b, a_nB (d / 6) = nI b ∧ ou_uc P (b * 6 + d % 6) ∧ rl_gc g (b * 6 + d % 6) = ou_ps P 3 (rl_gc g d) := by
        intro q
        obtain ⟨b, b1, b2, b3⟩ := n4 q
        obtain ⟨b4, b5⟩ := cell 3 b b2 b3
        exact ⟨b, b1, b4, b5⟩
      have gcc : 2 < pg_n (P 0 (g (d / 6))) → ∃ b, a_nC (d / 6) = nI b ∧ ou_uc P (b * 6 + d % 6) ∧ rl_gc g (b * 6 + d % 6) = ou_ps P 4 (rl_gc g d) := by
        intro q
        obtain ⟨b, b1, b2, b3⟩ := n5 q
        obtain ⟨b4, b5⟩ := cell 4 b b2 b3
        exact ⟨b, b1, b4, b5⟩
      by_cases t6 : P 0 (g (d / 6)) = 6
      · obtain ⟨b, b1, b2, b3⟩ := gb (by rw [t6]; decide)
        have r := ru_6 (c := rl_gc g d) (by rw [cd]; exact t6) ha
        rw [t6]
        refine br_t rfl ⟨hina, ?_⟩
        refine pk_eq o.1 1 (fun q => ?_) (fun q => ⟨hinr, ?_⟩)
        · rw [if_pos q] at r
          exact fd_c dl ua (by rw [r, ca, ha]) ht h
        · rw [if_neg q] at r
          rw [nI_clamp (by omega), b1, x6]
          exact fd_c dl b2 (by rw [r, b3]) ht h
      · refine br_f (ne (b := 6) t28 (by decide) t6) ⟨hina, ?_⟩
        refine pk_eq o.1 1 (fun h1 => ?_) (fun h1 => ⟨hina, ?_⟩)
        · obtain ⟨sn, sl⟩ := s2 h1
          obtain ⟨_, ta, tb, tl⟩ : o.1 = 1 ∧ o.2.1 = tt_K P c0 (P 2 (g (d / 6))) ∧ (o.2.1 = 2 → o.2.2 = 0 ∨ o.2.2 = 1) ∧ (o.2.1 = 3 → o.2.2 = 0 ∨ ∃ j, j < 720 ∧ ou_uc P j ∧ P 0 (j / 6) = 24 ∧ o.2.2 = lN (j + 1)) := by
            rcases ty with ty | ty
            · rw [ou_ps_d, cd] at ty; exact ty
            · have := ty.1; omega
          have met := hv.1 _ gu
          have sn2 : o.2.1 ≠ 3 → a_number (a * 6 + d % 6) = o.2.2 := sn
          have ab : ∀ k, tt_K P c0 (P 2 (g (d / 6))) = k → o.2.1 = k := fun k e => ta.trans e
          have cs := ky_23 o1
          have e0 : (0 : Int32).toInt64 = 0 := by decide
          have e1 : (1 : Int32).toInt64 = 1 := by decide
          -- hd, tl, nul
          have ofl : (P 0 (g (d / 6)) = 7 ∨ P 0 (g (d / 6)) = 8 ∨ P 0 (g (d / 6)) = 9) → wY_find_347 post (nI d) (nI (P 0 (g (d / 6)))) (nI (a * 6 + d % 6)) f_width f_length f_place f_toks f_nodes f_defs a_text a_tok a_tokNum a_tokPlace a_opened a_nOp a_nNum a_nPlace a_nA a_nB a_nC a_nLo a_nHi a_nLevel a_defName a_defPlace a_defRoot a_loaded a_count a_status a_number a_origin a_choice a_slotF a_slotX a_slotHeld := by
            intro q
            have m3 : tt_K P c0 (P 2 (g (d / 6))) = 3 := by
              rcases q with q | q | q <;> rw [q] at met <;> exact met
            have tag := ab 3 m3
            obtain ⟨l0, l1⟩ := sl tag
            refine ⟨hina, fun x4 e4 => ⟨by decide, fun x5 e5 => ?_⟩⟩
            rw [nI_clamp (by omega)] at e4
            by_cases z : o.2.2 = 0
            · have nu := l0 z
              rcases q with q | q | q
              · have r := ru_7 (c := rl_gc g d) (by rw [cd]; exact q) ha h1
                rw [if_pos z] at r
                rw [q]
                refine br_f (by decide) ⟨hina, ?_⟩
                rw [nI_clamp (by omega), nu]
                exact br_t rfl (fd_s (s := 5) dl r rfl (by decide) h)
              · have r := ru_8 (c := rl_gc g d) (by rw [cd]; exact q) ha h1
                rw [if_pos z] at r
                rw [q]
                refine br_f (by decide) ⟨hina, ?_⟩
                rw [nI_clamp (by omega), nu]
                exact br_t rfl (fd_s (s := 5) dl r rfl (by decide) h)
              · have r := ru_23 (c := rl_gc g d) (Or.inr (by rw [cd]; exact q)) ha h1
                rw [if_pos z] at r
                rw [q]
                refine br_t rfl ⟨hina, ?_⟩
                rw [nI_clamp (by omega), nu]
                exact fd_d dl r ⟨rfl, fun _ => ⟨fun _ => by decide, fun w => absurd w (by simp)⟩⟩ h
            · obtain ⟨nu, k, k1, k2, k3⟩ := l1 z
              obtain ⟨j, j1, j2, j3, j4⟩ : ∃ j, j < 720 ∧ ou_uc P j ∧ P 0 (j / 6) = 24 ∧ o.2.2 = lN (j + 1) := by
                rcases tl tag with w | w
                · exact absurd w z
                · exact w
              have jn : ou_jn o.2.2 = j := by rw [j4, ou_jn_e j1]
              rw [jn] at k3
              have kl := ou_uc_lt k1
              have ed : nI k / 6 = nI (k / 6) := pk_div (d := 6) (by omega) (by decide) (by decide)
              have er : nI k - nI k / 6 * 6 = nI (k % 6) := pk_rem (d := 6) (by omega) (by decide) (by decide)
              rw [k2] at e4
              subst e4
              rw [ed] at e5
              subst e5
              have gk : g (k / 6) = j / 6 := by unfold rl_gc at k3; omega
              have km : k % 6 = j % 6 := by unfold rl_gc at k3; omega
              obtain ⟨_, _, m3, m4, _⟩ := p5 _ k1.1
              have hink := vp_in_nI (n := k / 6) (N := 320) (by have := k1.1.1; omega) (by decide)
              have pcell : ∀ i b, ou_us P b → g b = P i (g (k / 6)) → ou_uc P (b * 6 + k % 6) ∧ rl_gc g (b * 6 + k % 6) = ou_ps P i j := by
                intro i b hb hg
                have f1 : (b * 6 + k % 6) / 6 = b := by omega
                have f2 : (b * 6 + k % 6) % 6 = k % 6 := by omega
                refine ⟨⟨by rw [f1]; exact hb, by rw [f2]; exact k1.2⟩, ?_⟩
                unfold rl_gc ou_ps
                rw [f1, f2, hg, gk, km]
              rcases q with q | q | q
              · have r := ru_7 (c := rl_gc g d) (by rw [cd]; exact q) ha h1
                rw [if_neg z, jn] at r
                obtain ⟨b, b1, b2, b3⟩ := m3 (by rw [gk, j3]; decide)
                obtain ⟨b4, b5⟩ := pcell 2 b b2 b3
                rw [q]
                refine br_f (by decide) ⟨hina, ?_⟩
                rw [nI_clamp (by omega), nu]
                refine br_f (by decide) (br_t rfl ⟨hink, by decide, ?_⟩)
                rw [nI_clamp (by omega), b1, er, st_x]
                exact fd_c dl b4 (by rw [r, b5]) ht h
              · have r := ru_8 (c := rl_gc g d) (by rw [cd]; exact q) ha h1
                rw [if_neg z, jn] at r
                obtain ⟨b, b1, b2, b3⟩ := m4 (by rw [gk, j3]; decide)
                obtain ⟨b4, b5⟩ := pcell 3 b b2 b3
                rw [q]
                refine br_f (by decide) ⟨hina, ?_⟩
                rw [nI_clamp (by omega), nu]
                refine br_f (by decide) (br_f (by decide) ⟨hink, by decide, ?_⟩)
                rw [nI_clamp (by omega), b1, er, st_x]
                exact fd_c dl b4 (by rw [r, b5]) ht h
              · have r := ru_23 (c := rl_gc g d) (Or.inr (by rw [cd]; exact q)) ha h1
                rw [if_neg z] at r
                rw [q]
                refine br_t rfl ⟨hina, ?_⟩
                rw [nI_clamp (by omega), nu]
                exact fd_d dl r ⟨rfl, fun _ => ⟨fun _ => by decide, fun w => absurd w (by simp)⟩⟩ h
          have two : 14 ≤ P 0 (g (d / 6)) ∧ P 0 (g (d / 6)) ≤ 20 → vp_in (nI (d / 6)) 320 ∧ wpY_twoSides (fun u => match u with | (f_width9, f_length9, f_place9, f_toks9, f_nodes9, f_defs9, a_text9, a_tok9, a_tokNum9, a_tokPlace9, a_opened9, a_nOp9, a_nNum9, a_nPlace9, a_nA9, a_nB9, a_nC9, a_nLo9, a_nHi9, a_nLevel9, a_defName9, a_defPlace9, a_defRoot9, a_loaded9, a_count9, a_status9, a_number9, a_origin9, a_choice9, a_slotF9, a_slotX9, a_slotHeld9) => post (f_width9, f_length9, f_place9, f_toks9, f_nodes9, f_defs9, a_text9, a_tok9, a_tokNum9, a_tokPlace9, a_opened9, a_nOp9, a_nNum9, a_nPlace9, a_nA9, a_nB9, a_nC9, a_nLo9, a_nHi9, a_nLevel9, a_defName9, a_defPlace9, a_defRoot9, a_loaded9, a_count9, a_status9, a_number9, a_origin9, a_choice9, a_slotF9, a_slotX9, a_slotHeld9)) (f_width, f_length, f_place, f_toks, f_nodes, f_defs, a_text, a_tok, a_tokNum, a_tokPlace, a_opened, a_nOp, a_nNum, a_nPlace, a_nA, a_nB, a_nC, a_nLo, a_nHi, a_nLevel, a_defName, a_defPlace, a_defRoot, a_loaded, a_count, a_status, a_number, a_origin, a_choice, a_slotF, a_slotX, a_slotHeld) (nI (P 0 (g (d / 6)))) (nI d) (nI (a * 6 + d % 6)) (a_nB (nI (d / 6)).toNatClampNeg * 6 + nI (d % 6)) := by
            intro q
            obtain ⟨b, b1, b2, b3⟩ := gb (by rw [nd_n2 (by omega)]; decide)
            have bl := ou_uc_lt b2
            have hinb := vp_in_nI (n := b * 6 + d % 6) (N := 720) bl (by decide)
            obtain ⟨u0, u1⟩ := ht _ b2
            rw [b3] at u0 u1
            have ru := ru_2 (c := rl_gc g d) (by rw [cd]; exact q) ha h1
            rw [cd] at ru
            have kinds : tt_K P c0 (P 2 (g (d / 6))) ≠ 3 ∧ tt_K P c0 (P 3 (g (d / 6))) ≠ 3 := by
              have c7 : P 0 (g (d / 6)) = 14 ∨ P 0 (g (d / 6)) = 15 ∨ P 0 (g (d / 6)) = 16 ∨ P 0 (g (d / 6)) = 17 ∨ P 0 (g (d / 6)) = 18 ∨ P 0 (g (d / 6)) = 19 ∨ P 0 (g (d / 6)) = 20 := by omega
              have k1 : (14 ≤ P 0 (g (d / 6)) ∧ P 0 (g (d / 6)) ≤ 19) → tt_K P c0 (P 2 (g (d / 6))) = 1 ∧ tt_K P c0 (P 3 (g (d / 6))) = 1 := by
                intro w
                have c6 : P 0 (g (d / 6)) = 14 ∨ P 0 (g (d / 6)) = 15 ∨ P 0 (g (d / 6)) = 16 ∨ P 0 (g (d / 6)) = 17 ∨ P 0 (g (d / 6)) = 18 ∨ P 0 (g (d / 6)) = 19 := by omega
                rcases c6 with z | z | z | z | z | z <;> rw [z] at met <;> exact met
              by_cases e20 : P 0 (g (d / 6)) = 20
              · rw [e20] at met
                have met : tt_K P c0 (P 2 (g (d / 6))) = tt_K P c0 (P 3 (g (d / 6))) ∧ tt_K P c0 (P 2 (g (d / 6))) ≠ 3 := met
                exact ⟨met.2, by rw [← met.1]; exact met.2⟩
              · have := k1 (by omega)
                rw [this.1, this.2]; decide
            have na := sn2 (by rw [ta]; exact kinds.1)
            refine ⟨hinr, ?_⟩
            rw [nI_clamp (n := d / 6) (by omega), b1, x6]
            refine ⟨hina, fun x ex => ⟨hinb, fun y ey => ⟨hinb, ?_⟩⟩⟩
            rw [nI_clamp (by omega), na] at ex
            rw [nI_clamp (by omega)] at ey ⊢
            cases hb : T (ou_ps P 3 (rl_gc g d)) with
            | none =>
              rw [hb] at ru
              have ru : ou_rl P T (rl_gc g d) = none := ru
              rw [u0 hb]
              refine br_f (by decide) ⟨hinb, hid, fun A eA => ?_⟩
              rw [nI_clamp (by omega)] at eA
              subst eA
              refine h _ _ _ (fun i hi => ⟨pk_un hi, rfl, rfl⟩) (fun _ => pk_us) (fun o q => by rw [ru] at q; exact absurd q (by simp))
            | some o2 =>
              rw [hb] at ru
              obtain ⟨z1, z2⟩ := u1 o2 hb
              have ty2 := ru_t p1 hv hT hb
              rw [z1]
              have o26 : o2.1 < 6 := by
                rcases ty2 with w | w
                · omega
                · have := w.1; omega
              refine pk_eq o2.1 1 (fun g1 => ?_) (fun g1 => ⟨hinb, hid, fun A eA => ?_⟩)
              · have t2 : o2.2.1 = tt_K P c0 (P 3 (g (d / 6))) := by
                  rcases ty2 with w | w
                  · rw [ou_ps_d, cd] at w; exact w.2.1
                  · have := w.1; omega
                have nb := (z2 g1).1 (by rw [t2]; exact kinds.2)
                rw [nb] at ey
                subst ex ey
                have ru : ou_rl P T (rl_gc g d) = some (ou_ar (P 0 (g (d / 6))) o.2.2 o2.2.2) := by rw [ru]; show (if o2.1 = 1 then _ else _) = _; rw [if_pos g1]
                have c7 : P 0 (g (d / 6)) = 14 ∨ P 0 (g (d / 6)) = 15 ∨ P 0 (g (d / 6)) = 16 ∨ P 0 (g (d / 6)) = 17 ∨ P 0 (g (d / 6)) = 18 ∨ P 0 (g (d / 6)) = 19 ∨ P 0 (g (d / 6)) = 20 := by omega
                clear ofl met
                have yy : ∀ v : Int64, yo_P P g (1, 1, v) 1 v (a_origin d) := fun v => ⟨rfl, fun _ => ⟨fun _ => rfl, fun w => absurd w (by simp)⟩⟩
                have y2 : ∀ v : Int64, yo_P P g (1, 2, v) 1 v (a_origin d) := fun v => ⟨rfl, fun _ => ⟨fun _ => rfl, fun w => absurd w (by simp)⟩⟩
                unfold ou_ar at ru
                rcases c7 with z | z | z | z | z | z | z <;> rw [z] at ru ⊢
                · rw [if_neg (by omega)] at ru
                  exact br_t rfl (fd_d dl ru (yy _) h)
                · rw [if_neg (by omega)] at ru
                  exact br_f (by decide) (br_t rfl (fd_d dl ru (yy _) h))
                · rw [if_neg (by omega)] at ru
                  exact br_f (by decide) (br_f (by decide) (br_t rfl (fd_d dl ru (yy _) h)))
                · refine br_f (by decide) (br_f (by decide) (br_f (by decide) (br_f (by decide) (br_f (by decide) ?_))))
                  by_cases w : o2.2.2 = 0
                  · rw [if_pos ⟨w, Or.inl rfl⟩] at ru
                    exact br_t w (fd_s (s := 3) dl ru rfl (by decide) h)
                  · rw [if_neg (fun q => w q.1)] at ru
                    exact br_f w (br_t rfl ⟨w, fd_d dl ru (yy _) h⟩)
                · refine br_f (by decide) (br_f (by decide) (br_f (by decide) (br_f (by decide) (br_f (by decide) ?_))))
                  by_cases w : o2.2.2 = 0
                  · rw [if_pos ⟨w, Or.inr rfl⟩] at ru
                    exact br_t w (fd_s (s := 3) dl ru rfl (by decide) h)
                  · rw [if_neg (fun q => w q.1)] at ru
                    exact br_f w (br_f (by decide) ⟨w, fd_d dl ru (yy _) h⟩)
                · rw [if_neg (by omega)] at ru
                  refine br_f (by decide) (br_f (by decide) (br_f (by decide) (br_t rfl ?_)))
                  have ru : ou_rl P T (rl_gc g d) = some (1, 2, if o.2.2 < o2.2.2 then 1 else 0) := ru
                  by_cases w : o2.2.2 ≤ o.2.2
                  · rw [if_neg (Int64.not_lt.mpr w)] at ru
                    exact br_t w (fd_d dl ru (y2 _) h)
                  · rw [if_pos (Int64.not_le.mp w)] at ru
                    exact br_f w (fd_d dl ru (y2 _) h)
                · rw [if_neg (by omega)] at ru
                  refine br_f (by decide) (br_f (by decide) (br_f (by decide) (br_f (by decide) (br_t rfl ?_))))
                  have ru : ou_rl P T (rl_gc g d) = some (1, 2, if o.2.2 = o2.2.2 then 1 else 0) := ru
                  by_cases w : o.2.2 = o2.2.2
                  · rw [if_pos w] at ru
                    exact br_t w (fd_d dl ru (y2 _) h)
                  · rw [if_neg w] at ru
                    exact br_f w (fd_d dl ru (y2 _) h)
              · have ru : ou_rl P T (rl_gc g d) = some o2 := by rw [ru]; show (if o2.1 = 1 then _ else _) = _; rw [if_neg g1]
                exact (fd_s dl ru rfl g1 h).2 A (by rw [eA])
          have andor : (P 0 (g (d / 6)) = 21 ∨ P 0 (g (d / 6)) = 22) → wY_find_278 post (nI (d / 6)) (nI (d % 6)) (nI d) (nI (P 0 (g (d / 6)))) (nI (a * 6 + d % 6)) f_width f_length f_place f_toks f_nodes f_defs a_text a_tok a_tokNum a_tokPlace a_opened a_nOp a_nNum a_nPlace a_nA a_nB a_nC a_nLo a_nHi a_nLevel a_defName a_defPlace a_defRoot a_loaded a_count a_status a_number a_origin a_choice a_slotF a_slotX a_slotHeld := by
            intro q
            have m2 : tt_K P c0 (P 2 (g (d / 6))) = 2 := by
              rcases q with q | q <;> rw [q] at met <;> exact met.1
            have tag := ab 2 m2
            have nu := sn2 (by rw [tag]; decide)
            obtain ⟨b, b1, b2, b3⟩ := gb (by rcases q with q | q <;> rw [q] <;> decide)
            have cpa : ou_rl P T (rl_gc g d) = some o → wY_find_320 post (nI (a * 6 + d % 6)) (nI d) f_width f_length f_place f_toks f_nodes f_defs a_text a_tok a_tokNum a_tokPlace a_opened a_nOp a_nNum a_nPlace a_nA a_nB a_nC a_nLo a_nHi a_nLevel a_defName a_defPlace a_defRoot a_loaded a_count a_status a_number a_origin a_choice a_slotF a_slotX a_slotHeld := fun r => fd_c dl ua (by rw [r, ca, ha]) ht h
            have cpb : ou_rl P T (rl_gc g d) = T (ou_ps P 3 (rl_gc g d)) → vp_in (nI (d / 6)) 320 ∧ wY_find_320 post (a_nB (nI (d / 6)).toNatClampNeg * 6 + nI (d % 6)) (nI d) f_width f_length f_place f_toks f_nodes f_defs a_text a_tok a_tokNum a_tokPlace a_opened a_nOp a_nNum a_nPlace a_nA a_nB a_nC a_nLo a_nHi a_nLevel a_defName a_defPlace a_defRoot a_loaded a_count a_status a_number a_origin a_choice a_slotF a_slotX a_slotHeld := fun r => ⟨hinr, by rw [nI_clamp (by omega), b1, x6]; exact fd_c dl b2 (by rw [r, b3]) ht h⟩
            refine ⟨hina, ?_⟩
            rw [nI_clamp (by omega), nu]
            rcases q with q | q
            · have r := ru_21 (c := rl_gc g d) (by rw [cd]; exact q) ha h1
              rw [q]
              refine br_t rfl ?_
              rcases tb tag with v | v
              · rw [if_pos v] at r
                exact br_t (by rw [v]; decide) (cpa r)
              · rw [if_neg (by rw [v]; decide)] at r
                exact br_f (by rw [v]; decide) (cpb r)
            · have r := ru_22 (c := rl_gc g d) (by rw [cd]; exact q) ha h1
              rw [q]
              refine br_f (by decide) ?_
              rcases tb tag with v | v
              · rw [if_pos v] at r
                exact br_f (by rw [v]; decide) (cpb r)
              · rw [if_neg (by rw [v]; decide)] at r
                exact br_t (by rw [v]; decide) (cpa r)
          rcases cs with q | q | q | q | q | q | q | q | q | q | q | q | q | q | q | q | q | q | q | q | q | q | q
          · exact absurd q l1.1
          · exact absurd q l1.2.1
          · exact absurd q l1.2.2.2.2.1
          · exact absurd q l1.2.2.1
          · exact absurd q l1.2.2.2.1
          · -- if
            rw [q] at met
            have tag := ab 2 met.1
            have nu := sn2 (by rw [tag]; decide)
            obtain ⟨b, b1, b2, b3⟩ := gb (by rw [q]; decide)
            obtain ⟨e, f1, f2, f3⟩ := gcc (by rw [q]; decide)
            have r := ru_3 (c := rl_gc g d) (by rw [cd]; exact q) ha h1
            rw [q]
            refine br_t rfl ⟨hina, ?_⟩
            rw [nu]
            rcases tb tag with v | v
            · rw [if_pos v] at r
              refine br_f (by rw [v]; decide) ⟨hinr, ?_⟩
              rw [nI_clamp (by omega), f1, x6]
              exact fd_c dl f2 (by rw [r, f3]) ht h
            · rw [if_neg (by rw [v]; decide)] at r
              refine br_t v ⟨hinr, ?_⟩
              rw [nI_clamp (by omega), b1, x6]
              exact fd_c dl b2 (by rw [r, b3]) ht h
          · exact absurd q t6
          · have m := ofl (Or.inl q)
            rw [q] at m ⊢
            exact br_f (by decide) (br_f (by decide) (br_f (by decide) (br_t rfl m)))
          · have m := ofl (Or.inr (Or.inl q))
            rw [q] at m ⊢
            exact br_f (by decide) (br_f (by decide) (br_f (by decide) (br_f (by decide) (br_t rfl m))))
          · have m := ofl (Or.inr (Or.inr q))
            rw [q] at m ⊢
            exact br_f (by decide) (br_f (by decide) (br_f (by decide) (br_f (by decide) (br_f (by decide) (br_t rfl m)))))
          · -- a call
            rw [q] at met
            have tag := ab 1 met
            have nu := sn2 (by rw [tag]; decide)
            obtain ⟨f5, fs⟩ := o3 q
            have r := ru_13 (c := rl_gc g d) (by rw [cd]; exact q) ha h1
            rw [cd] at r
            have ew : f_width.toInt64 = lN (P 6 0) := by rw [hw]; exact nI_l (by omega)
            rw [q]
            refine br_f (by decide) (br_f (by decide) (br_f (by decide) (br_f (by decide) (br_f (by decide) (br_f (by decide) (br_t rfl ⟨hina, ?_⟩))))))
            rw [nu]
            by_cases z : o.2.2 < 0
            · rw [if_pos (Or.inl z)] at r
              exact br_t z (fd_s (s := 4) dl r rfl (by decide) h)
            · refine br_f z ⟨hina, ?_⟩
              rw [ew]
              by_cases z2 : lN (P 6 0) ≤ o.2.2
              · rw [if_pos (Or.inr z2)] at r
                exact br_f (Int64.not_lt.mpr z2) (fd_s (s := 4) dl r rfl (by decide) h)
              · have nz : ¬ (o.2.2 < 0 ∨ lN (P 6 0) ≤ o.2.2) := fun w => w.elim z z2
                rw [if_neg nz] at r
                obtain ⟨x, x1, x2, x3⟩ := ou_arg (by omega) nz
                rw [x3] at r
                refine br_t (Int64.not_le.mp z2) ⟨hinr, hina, ?_⟩
                rw [nI_clamp (by omega), n2, x2, lN_i]
                obtain ⟨gy, uy⟩ := sl_gy p1 p2 f5 fs x1
                have e144 : nI (P 1 (g (d / 6))) * 144 + nI x = nI (P 1 (g (d / 6)) * 144 + x) := by
                  have : nI (P 1 (g (d / 6))) * 144 = nI (P 1 (g (d / 6)) * 144) := pk_mul _ 144
                  rw [this, nI_add]
                rw [e144]
                exact fd_c dl uy (by rw [r, gy]) ht h
          · have m := two (by omega)
            rw [q] at m ⊢
            exact br_f (by decide) (br_f (by decide) (br_f (by decide) (br_f (by decide) (br_f (by decide) (br_f (by decide) (br_f (by decide) (br_f (by decide) (br_f (by decide) m))))))))
          · have m := two (by omega)
            rw [q] at m ⊢
            exact br_f (by decide) (br_f (by decide) (br_f (by decide) (br_f (by decide) (br_f (by decide) (br_f (by decide) (br_f (by decide) (br_f (by decide) (br_f (by decide) m))))))))
          · have m := two (by omega)
            rw [q] at m ⊢
            exact br_f (by decide) (br_f (by decide) (br_f (by decide) (br_f (by decide) (br_f (by decide) (br_f (by decide) (br_f (by decide) (br_f (by decide) (br_f (by decide) m))))))))
          · have m := two (by omega)
            rw [q] at m ⊢
            exact br_f (by decide) (br_f (by decide) (br_f (by decide) (br_f (by decide) (br_f (by decide) (br_f (by decide) (br_f (by decide) (br_f (by decide) (br_f (by decide) m))))))))
          · have m := two (by omega)
            rw [q] at m ⊢
            exact br_f (by decide) (br_f (by decide) (br_f (by decide) (br_f (by decide) (br_f (by decide) (br_f (by decide) (br_f (by decide) (br_f (by decide) (br_f (by decide) m))))))))
          · have m := two (by omega)
            rw [q] at m ⊢
            exact br_f (by decide) (br_f (by decide) (br_f (by decide) (br_f (by decide) (br_f (by decide) (br_f (by decide) (br_f (by decide) (br_f (by decide) (br_f (by decide) m))))))))
          · have m := two (by omega)
            rw [q] at m ⊢
            exact br_f (by decide) (br_f (by decide) (br_f (by decide) (br_f (by decide) (br_f (by decide) (br_f (by decide) (br_f (by decide) (br_f (by decide) (br_f (by decide) m))))))))
          · have m := andor (Or.inl q)
            rw [q] at m ⊢
            exact br_f (by decide) (br_t rfl m)
          · have m := andor (Or.inr q)
            rw [q] at m ⊢
            exact br_f (by decide) (br_f (by decide) (br_t rfl m))
          · -- not
            rw [q] at met
            have tag := ab 2 met
            have nu := sn2 (by rw [tag]; decide)
            have r := ru_23 (c := rl_gc g d) (Or.inl (by rw [cd]; exact q)) ha h1
            rw [q]
            refine br_f (by decide) (br_f (by decide) (br_f (by decide) (br_f (by decide) (br_f (by decide) (br_f (by decide) (br_f (by decide) (br_f (by decide) (br_t rfl (br_f (by decide) ⟨hina, ?_⟩)))))))))
            rw [nI_clamp (by omega), nu]
            rcases tb tag with v | v
            · rw [if_pos v] at r
              exact fd_d dl r ⟨rfl, fun _ => ⟨fun _ => by rw [v]; decide, fun w => absurd w (by simp)⟩⟩ h
            · rw [if_neg (by rw [v]; decide)] at r
              exact fd_d dl r ⟨rfl, fun _ => ⟨fun _ => by rw [v]; decide, fun w => absurd w (by simp)⟩⟩ h
          · exact absurd q l1.2.2.2.2.2
          · -- negate
            rw [q] at met
            have tag := ab 1 met
            have nu := sn2 (by rw [tag]; decide)
            have r := ru_28 (c := rl_gc g d) (by rw [cd]; exact q) ha h1
            rw [q]
            refine br_f (by decide) (br_f (by decide) (br_f (by decide) (br_f (by decide) (br_f (by decide) (br_f (by decide) (br_f (by decide) (br_t rfl (br_t rfl ⟨hina, ?_⟩))))))))
            rw [nI_clamp (by omega), nu]
            exact fd_d dl r ⟨rfl, fun _ => ⟨fun _ => rfl, fun w => absurd w (by simp)⟩⟩ h
        · have r := ru_e nl ha (by rw [cd]; exact t6) h1
          exact fd_s dl r rfl h1 h
end
