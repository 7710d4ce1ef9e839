-- Y looks for a misfit
section
variable {f_width f_length f_place f_toks f_nodes f_defs : Int32} {a_text a_tok a_tokNum a_tokPlace a_opened a_nOp a_nNum a_nPlace a_nA a_nB a_nC a_nLo a_nHi a_nLevel a_defName a_defPlace a_defRoot a_loaded a_count a_status : Nat → Int32} {a_number : Nat → Int64} {a_origin a_choice a_slotF a_slotX a_slotHeld : Nat → Int32} {post : Int32 → SY → Prop} {J : Int32 → Int32 → Int32 → (Nat → Int32) → (Nat → Int32) → (Nat → Int32) → (Nat → Int32) → (Nat → Int32) → (Nat → Int32) → (Nat → Int32) → (Nat → Int32) → (Nat → Int32) → (Nat → Int32) → (Nat → Int32) → (Nat → Int32) → (Nat → Int32) → (Nat → Int32) → (Nat → Int32) → (Nat → Int32) → (Nat → Int32) → (Nat → Int32) → (Nat → Int32) → (Nat → Int32) → (Nat → Int64) → (Nat → Int32) → (Nat → Int32) → (Nat → Int32) → (Nat → Int32) → (Nat → Int32) → Prop}
theorem mf_n {x1 x2 x3 : Int32} (h : post x3 (f_width, f_length, f_place, f_toks, f_nodes, f_defs, a_text, a_tok, a_tokNum, a_tokPlace, a_opened, a_nOp, a_nNum, a_nPlace, a_nA, a_nB, a_nC, a_nLo, a_nHi, a_nLevel, a_defName, a_defPlace, a_defRoot, a_loaded, a_count, a_status, a_number, a_origin, a_choice, a_slotF, a_slotX, a_slotHeld)) : wY_misfit_417 post J x1 x2 x3 (-1) f_width f_length f_place f_toks f_nodes f_defs a_text a_tok a_tokNum a_tokPlace a_opened a_nOp a_nNum a_nPlace a_nA a_nB a_nC a_nLo a_nHi a_nLevel a_defName a_defPlace a_defRoot a_loaded a_count a_status a_number a_origin a_choice a_slotF a_slotX a_slotHeld := br_f (by decide) h
theorem mf_y {x1 : Int32} {w i w2 : Nat} (hw : w < 5) (hw2 : w2 ≤ 5) (h : J x1 (nI w2) (nI (i + 1)) a_text a_tok a_tokNum a_tokPlace a_opened a_nOp a_nNum a_nPlace a_nA a_nB a_nC a_nLo a_nHi a_nLevel a_defName a_defPlace a_defRoot a_loaded a_count a_status a_number a_origin a_choice a_slotF a_slotX a_slotHeld) : wY_misfit_417 post J x1 (nI w) (nI i) (nI w2) f_width f_length f_place f_toks f_nodes f_defs a_text a_tok a_tokNum a_tokPlace a_opened a_nOp a_nNum a_nPlace a_nA a_nB a_nC a_nLo a_nHi a_nLevel a_defName a_defPlace a_defRoot a_loaded a_count a_status a_number a_origin a_choice a_slotF a_slotX a_slotHeld := by
  refine br_t (nI_pos' (by omega)) (br_f (fun q => by have := (nI_eq (b := 5) (by omega) (by decide)).mp q; omega) (fun y ey => ?_))
  rw [ey, nI_1]; exact h
theorem mf_p {m i w2 : Nat} (hm : m < 200) (hw2 : w2 ≤ 5) (h : J (nI (m + 1)) (nI w2) (nI (i + 1)) a_text a_tok a_tokNum a_tokPlace (upd a_opened m 26) a_nOp a_nNum a_nPlace a_nA a_nB a_nC a_nLo a_nHi a_nLevel a_defName a_defPlace a_defRoot a_loaded a_count a_status a_number a_origin a_choice a_slotF a_slotX a_slotHeld) : wY_misfit_417 post J (nI m) 5 (nI i) (nI w2) f_width f_length f_place f_toks f_nodes f_defs a_text a_tok a_tokNum a_tokPlace a_opened a_nOp a_nNum a_nPlace a_nA a_nB a_nC a_nLo a_nHi a_nLevel a_defName a_defPlace a_defRoot a_loaded a_count a_status a_number a_origin a_choice a_slotF a_slotX a_slotHeld := by
  refine br_t (nI_pos' (by omega)) (br_t rfl (fun y ey => ⟨vp_in_nI hm (by decide), fun A eA z ez => ?_⟩))
  rw [nI_clamp (by omega)] at eA
  rw [nI_1] at ey ez
  subst ey eA ez
  exact h
-- in want 2 and 3
theorem mf_k {x1 : Int32} {w i k w2 : Nat} (hw : w < 5) (hk : k ≤ 27) (h26 : k ≠ 26) (hw2 : w2 = 3 ∨ w2 = 4 ∨ w2 = 5) (h : J x1 (nI w2) (nI (i + 1)) a_text a_tok a_tokNum a_tokPlace a_opened a_nOp a_nNum a_nPlace a_nA a_nB a_nC a_nLo a_nHi a_nLevel a_defName a_defPlace a_defRoot a_loaded a_count a_status a_number a_origin a_choice a_slotF a_slotX a_slotHeld) : wY_misfit_233 post J x1 (nI w) (nI i) (nI k) (nI w2) f_width f_length f_place f_toks f_nodes f_defs a_text a_tok a_tokNum a_tokPlace a_opened a_nOp a_nNum a_nPlace a_nA a_nB a_nC a_nLo a_nHi a_nLevel a_defName a_defPlace a_defRoot a_loaded a_count a_status a_number a_origin a_choice a_slotF a_slotX a_slotHeld :=
  br_f (fun q => h26 ((nI_eq (b := 26) (by omega) (by decide)).mp q)) (br_f (fun q => by have := (nI_eq (b := 2) (by omega) (by decide)).mp q; omega) (mf_y hw (by omega) h))
theorem mf_q {m w i k : Nat} (hm : m < 200) (hw : w < 5) (hk : k ≤ 27) (h : J (nI (m + 1)) 2 (nI (i + 1)) a_text a_tok a_tokNum a_tokPlace (upd a_opened m (nI k)) a_nOp a_nNum a_nPlace a_nA a_nB a_nC a_nLo a_nHi a_nLevel a_defName a_defPlace a_defRoot a_loaded a_count a_status a_number a_origin a_choice a_slotF a_slotX a_slotHeld) : wY_misfit_233 post J (nI m) (nI w) (nI i) (nI k) 2 f_width f_length f_place f_toks f_nodes f_defs a_text a_tok a_tokNum a_tokPlace a_opened a_nOp a_nNum a_nPlace a_nA a_nB a_nC a_nLo a_nHi a_nLevel a_defName a_defPlace a_defRoot a_loaded a_count a_status a_number a_origin a_choice a_slotF a_slotX a_slotHeld := by
  have g : wY_misfit_246 post J (nI m) (nI w) (nI i) (nI k) 2 f_width f_length f_place f_toks f_nodes f_defs a_text a_tok a_tokNum a_tokPlace a_opened a_nOp a_nNum a_nPlace a_nA a_nB a_nC a_nLo a_nHi a_nLevel a_defName a_defPlace a_defRoot a_loaded a_count a_status a_number a_origin a_choice a_slotF a_slotX a_slotHeld := by
    intro y ey
    refine ⟨vp_in_nI hm (by decide), fun A eA => ?_⟩
    rw [nI_clamp (by omega)] at eA
    rw [nI_1] at ey
    subst ey eA
    exact mf_y (w2 := 2) hw (by omega) h
  exact br_c (fun _ => g) (fun _ => br_t rfl g)
theorem mf_s {x1 : Int32} {w i k : Nat} (hw : w < 5) (hk : k ≤ 27) (h26 : k ≠ 26) (h : post (nI i) (f_width, f_length, f_place, f_toks, f_nodes, f_defs, a_text, a_tok, a_tokNum, a_tokPlace, a_opened, a_nOp, a_nNum, a_nPlace, a_nA, a_nB, a_nC, a_nLo, a_nHi, a_nLevel, a_defName, a_defPlace, a_defRoot, a_loaded, a_count, a_status, a_number, a_origin, a_choice, a_slotF, a_slotX, a_slotHeld)) : wY_misfit_233 post J x1 (nI w) (nI i) (nI k) (-1) f_width f_length f_place f_toks f_nodes f_defs a_text a_tok a_tokNum a_tokPlace a_opened a_nOp a_nNum a_nPlace a_nA a_nB a_nC a_nLo a_nHi a_nLevel a_defName a_defPlace a_defRoot a_loaded a_count a_status a_number a_origin a_choice a_slotF a_slotX a_slotHeld :=
  br_f (fun q => h26 ((nI_eq (b := 26) (by omega) (by decide)).mp q)) (br_f (by decide) (mf_n h))
-- in want 4
theorem mf_4 {o o2 : List Nat} {i k w2 : Nat} (hk : k ≤ 27) (hl : o.length < 200) (hw2 : w2 ≤ 5) (ha : ar_L a_opened o)
    (e : (k = 4 ∧ o ≠ [] ∧ o2 = 4 :: o.tail) ∨ ((k = 5 ∨ k = 27) ∧ o ≠ [] ∧ o2 = o.tail) ∨ (k ≠ 4 ∧ k ≠ 5 ∧ k ≠ 27 ∧ o2 = o))
    (h : ∀ opd, ar_L opd o2 → J (nI o2.length) (nI w2) (nI (i + 1)) a_text a_tok a_tokNum a_tokPlace opd a_nOp a_nNum a_nPlace a_nA a_nB a_nC a_nLo a_nHi a_nLevel a_defName a_defPlace a_defRoot a_loaded a_count a_status a_number a_origin a_choice a_slotF a_slotX a_slotHeld) : wY_misfit_369 post J (nI o.length) 4 (nI i) (nI k) (nI w2) f_width f_length f_place f_toks f_nodes f_defs a_text a_tok a_tokNum a_tokPlace a_opened a_nOp a_nNum a_nPlace a_nA a_nB a_nC a_nLo a_nHi a_nLevel a_defName a_defPlace a_defRoot a_loaded a_count a_status a_number a_origin a_choice a_slotF a_slotX a_slotHeld := by
  refine br_f (nI_pos (by omega)) ?_
  have fin : ∀ x1 : Int32, k ≠ 4 → J x1 (nI w2) (nI (i + 1)) a_text a_tok a_tokNum a_tokPlace a_opened a_nOp a_nNum a_nPlace a_nA a_nB a_nC a_nLo a_nHi a_nLevel a_defName a_defPlace a_defRoot a_loaded a_count a_status a_number a_origin a_choice a_slotF a_slotX a_slotHeld → wY_misfit_396 post J x1 4 (nI i) (nI k) (nI w2) f_width f_length f_place f_toks f_nodes f_defs a_text a_tok a_tokNum a_tokPlace a_opened a_nOp a_nNum a_nPlace a_nA a_nB a_nC a_nLo a_nHi a_nLevel a_defName a_defPlace a_defRoot a_loaded a_count a_status a_number a_origin a_choice a_slotF a_slotX a_slotHeld := fun x1 n4 g =>
    br_f (nI_pos (by omega)) (br_f (fun q => n4 ((nI_eq (b := 4) (by omega) (by decide)).mp q)) (mf_y (w := 4) (by omega) hw2 g))
  rcases e with ⟨rfl, ne, rfl⟩ | ⟨hk5, ne, rfl⟩ | ⟨n4, n5, n27, rfl⟩
  · cases o with
    | nil => exact absurd rfl ne
    | cons a r =>
      rw [List.length_cons] at hl
      refine br_t rfl (fun y ey => ?_)
      rw [List.length_cons, pk_m1] at ey
      subst ey
      refine br_f (nI_pos (by omega)) (br_t rfl (fun y ey => ⟨vp_in_nI (by omega) (by decide), fun A eA => ?_⟩))
      rw [nI_clamp (by omega)] at eA
      rw [nI_1] at ey
      subst ey eA
      exact mf_y (w := 4) (by omega) hw2 (h _ (ar_p (c := 4) ha.2))
  · cases o with
    | nil => exact absurd rfl ne
    | cons a r =>
      have g : wY_misfit_393 post J (nI (a :: r).length) 4 (nI i) (nI k) (nI w2) f_width f_length f_place f_toks f_nodes f_defs a_text a_tok a_tokNum a_tokPlace a_opened a_nOp a_nNum a_nPlace a_nA a_nB a_nC a_nLo a_nHi a_nLevel a_defName a_defPlace a_defRoot a_loaded a_count a_status a_number a_origin a_choice a_slotF a_slotX a_slotHeld := by
        intro y ey
        rw [List.length_cons, pk_m1] at ey
        subst ey
        exact fin _ (by omega) (h _ ha.2)
      refine br_f (fun q => by have := (nI_eq (b := 4) (by omega) (by decide)).mp q; omega) (br_c (fun _ => g) (fun _ => br_c (fun _ => g) (fun n27 => ?_)))
      rcases hk5 with q | q
      · subst q; exact absurd rfl ‹¬ nI 5 = 5›
      · subst q; exact absurd rfl n27
  · refine br_f (fun q => n4 ((nI_eq (b := 4) (by omega) (by decide)).mp q)) (br_f (fun q => n5 ((nI_eq (b := 5) (by omega) (by decide)).mp q)) (br_f (fun q => n27 ((nI_eq (b := 27) (by omega) (by decide)).mp q)) (fin _ n4 (h _ ha))))
theorem mf_5 {x1 : Int32} {i k : Nat} (hk : k ≤ 27) (h : post (nI i) (f_width, f_length, f_place, f_toks, f_nodes, f_defs, a_text, a_tok, a_tokNum, a_tokPlace, a_opened, a_nOp, a_nNum, a_nPlace, a_nA, a_nB, a_nC, a_nLo, a_nHi, a_nLevel, a_defName, a_defPlace, a_defRoot, a_loaded, a_count, a_status, a_number, a_origin, a_choice, a_slotF, a_slotX, a_slotHeld)) : wY_misfit_369 post J x1 4 (nI i) (nI k) (-1) f_width f_length f_place f_toks f_nodes f_defs a_text a_tok a_tokNum a_tokPlace a_opened a_nOp a_nNum a_nPlace a_nA a_nB a_nC a_nLo a_nHi a_nLevel a_defName a_defPlace a_defRoot a_loaded a_count a_status a_number a_origin a_choice a_slotF a_slotX a_slotHeld :=
  br_t (by decide) (br_t (by decide) (mf_n h))
theorem mf_st {o : List Nat} {w i k : Nat} (hw : w ≤ 5) (hk : k ≤ 27) (hl : o.length < 200) (hb : o.headD 0 ≤ 27) (ha : ar_L a_opened o)
    (h1 : ∀ w2 o2 opd, ms_s w o k = some (w2, o2) → ar_L opd o2 → J (nI o2.length) (nI w2) (nI (i + 1)) a_text a_tok a_tokNum a_tokPlace opd a_nOp a_nNum a_nPlace a_nA a_nB a_nC a_nLo a_nHi a_nLevel a_defName a_defPlace a_defRoot a_loaded a_count a_status a_number a_origin a_choice a_slotF a_slotX a_slotHeld)
    (h0 : ms_s w o k = none → post (nI i) (f_width, f_length, f_place, f_toks, f_nodes, f_defs, a_text, a_tok, a_tokNum, a_tokPlace, a_opened, a_nOp, a_nNum, a_nPlace, a_nA, a_nB, a_nC, a_nLo, a_nHi, a_nLevel, a_defName, a_defPlace, a_defRoot, a_loaded, a_count, a_status, a_number, a_origin, a_choice, a_slotF, a_slotX, a_slotHeld)) : wY_misfit_38 post J (nI o.length) (nI w) (nI i) (nI k) (nI (o.headD 0)) f_width f_length f_place f_toks f_nodes f_defs a_text a_tok a_tokNum a_tokPlace a_opened a_nOp a_nNum a_nPlace a_nA a_nB a_nC a_nLo a_nHi a_nLevel a_defName a_defPlace a_defRoot a_loaded a_count a_status a_number a_origin a_choice a_slotF a_slotX a_slotHeld := by
  have hc : w = 0 ∨ w = 1 ∨ w = 2 ∨ w = 3 ∨ w = 4 ∨ w = 5 := by omega
  have w23 : (w = 2 ∨ w = 3) → wY_misfit_106 post J (nI o.length) (nI w) (nI i) (nI k) (-1) f_width f_length f_place f_toks f_nodes f_defs a_text a_tok a_tokNum a_tokPlace a_opened a_nOp a_nNum a_nPlace a_nA a_nB a_nC a_nLo a_nHi a_nLevel a_defName a_defPlace a_defRoot a_loaded a_count a_status a_number a_origin a_choice a_slotF a_slotX a_slotHeld := by
    intro hw23
    have ms : ms_s w o k = (if k = 1 ∨ k = 2 ∨ k = 10 ∨ k = 11 ∨ k = 12 then some (4, o) else if k = 15 ∨ k = 23 then some (3, o) else if k = 26 then some (2, 26 :: o) else
        if k = 13 ∨ k = 7 ∨ k = 8 ∨ k = 9 then some (5, o) else if w = 2 ∧ (k = 3 ∨ k = 6) then some (2, k :: o) else none) := by
      unfold ms_s
      rw [if_neg (by omega), if_neg (by omega), if_neg (by omega), if_pos hw23]
    have leaf : (k = 1 ∨ k = 2 ∨ k = 10 ∨ k = 11 ∨ k = 12) → wY_misfit_139 post J (nI o.length) (nI w) (nI i) (nI k) f_width f_length f_place f_toks f_nodes f_defs a_text a_tok a_tokNum a_tokPlace a_opened a_nOp a_nNum a_nPlace a_nA a_nB a_nC a_nLo a_nHi a_nLevel a_defName a_defPlace a_defRoot a_loaded a_count a_status a_number a_origin a_choice a_slotF a_slotX a_slotHeld := fun q =>
      mf_k (w2 := 4) (by omega) hk (by omega) (by omega) (h1 4 o a_opened (by rw [ms, if_pos q]) ha)
    have un : (k = 15 ∨ k = 23) → wY_misfit_159 post J (nI o.length) (nI w) (nI i) (nI k) f_width f_length f_place f_toks f_nodes f_defs a_text a_tok a_tokNum a_tokPlace a_opened a_nOp a_nNum a_nPlace a_nA a_nB a_nC a_nLo a_nHi a_nLevel a_defName a_defPlace a_defRoot a_loaded a_count a_status a_number a_origin a_choice a_slotF a_slotX a_slotHeld := fun q =>
      mf_k (w2 := 3) (by omega) hk (by omega) (by omega) (h1 3 o a_opened (by rw [ms, if_neg (by omega), if_pos q]) ha)
    have call : (k = 13 ∨ k = 7 ∨ k = 8 ∨ k = 9) → wY_misfit_206 post J (nI o.length) (nI w) (nI i) (nI k) f_width f_length f_place f_toks f_nodes f_defs a_text a_tok a_tokNum a_tokPlace a_opened a_nOp a_nNum a_nPlace a_nA a_nB a_nC a_nLo a_nHi a_nLevel a_defName a_defPlace a_defRoot a_loaded a_count a_status a_number a_origin a_choice a_slotF a_slotX a_slotHeld := fun q =>
      mf_k (w2 := 5) (by omega) hk (by omega) (by omega) (h1 5 o a_opened (by rw [ms, if_neg (by omega), if_neg (by omega), if_neg (by omega), if_pos q]) ha)
    have opn : w = 2 → (k = 3 ∨ k = 6) → wY_misfit_230 post J (nI o.length) (nI w) (nI i) (nI k) f_width f_length f_place f_toks f_nodes f_defs a_text a_tok a_tokNum a_tokPlace a_opened a_nOp a_nNum a_nPlace a_nA a_nB a_nC a_nLo a_nHi a_nLevel a_defName a_defPlace a_defRoot a_loaded a_count a_status a_number a_origin a_choice a_slotF a_slotX a_slotHeld := fun q2 q =>
      mf_q hl (by omega) hk (h1 2 (k :: o) _ (by rw [ms, if_neg (by omega), if_neg (by omega), if_neg (by omega), if_neg (by omega), if_pos ⟨q2, q⟩]) (ar_p ha))
    refine pk_eq k 1 (fun c => leaf (by omega)) (fun c1 => pk_eq k 2 (fun c => leaf (by omega)) (fun c2 => pk_eq k 10 (fun c => leaf (by omega)) (fun c3 => pk_eq k 11 (fun c => leaf (by omega)) (fun c4 => pk_eq k 12 (fun c => leaf (by omega)) (fun c5 =>
      pk_eq k 15 (fun c => un (by omega)) (fun c6 => pk_eq k 23 (fun c => un (by omega)) (fun c7 => pk_eq k 26 (fun c => ?_) (fun c8 => pk_eq k 13 (fun c => call (by omega)) (fun c9 => pk_eq k 7 (fun c => call (by omega)) (fun c10 =>
      pk_eq k 8 (fun c => call (by omega)) (fun c11 => pk_eq k 9 (fun c => call (by omega)) (fun c12 => pk_eq w 2 (fun c => pk_eq k 3 (fun d => opn c (by omega)) (fun d => pk_eq k 6 (fun d2 => opn c (by omega)) (fun d2 => ?_))) (fun c => ?_)))))))))))))
    · exact mf_q hl (by omega) hk (h1 2 (26 :: o) _ (by rw [ms, if_neg (by omega), if_neg (by omega), if_pos c]) (by rw [c]; exact ar_p ha))
    · exact mf_s (by omega) hk c8 (h0 (by rw [ms, if_neg (by omega), if_neg (by omega), if_neg (by omega), if_neg (by omega), if_neg (by omega)]))
    · exact mf_s (by omega) hk c8 (h0 (by rw [ms, if_neg (by omega), if_neg (by omega), if_neg (by omega), if_neg (by omega), if_neg (by omega)]))
  rcases hc with rfl | rfl | rfl | rfl | rfl | rfl
  · refine br_t rfl (pk_eq k 13 (fun c => mf_y (w := 0) (w2 := 1) (by omega) (by omega) (h1 1 o a_opened (by unfold ms_s; rw [if_pos rfl, if_pos c]) ha)) (fun c => ?_))
    exact br_f (by decide) (br_f (by decide) (br_f (by decide) (br_f (by decide) (br_f (by decide) (mf_n (h0 (by unfold ms_s; rw [if_pos rfl, if_neg c])))))))
  · refine br_f (by decide) (br_t rfl (pk_eq k 20 (fun c => mf_y (w := 1) (w2 := 2) (by omega) (by omega) (h1 2 o a_opened (by unfold ms_s; rw [if_neg (by decide), if_pos rfl, if_pos c]) ha)) (fun c => ?_)))
    exact br_f (by decide) (br_f (by decide) (br_f (by decide) (br_f (by decide) (mf_n (h0 (by unfold ms_s; rw [if_neg (by decide), if_pos rfl, if_neg c]))))))
  · exact br_f (by decide) (br_f (by decide) (br_f (by decide) (br_t rfl (w23 (Or.inl rfl)))))
  · exact br_f (by decide) (br_f (by decide) (br_f (by decide) (br_f (by decide) (br_t rfl (w23 (Or.inr rfl))))))
  · have ms : ms_s 4 o k = (if 14 ≤ k ∧ k ≤ 22 then some (3, o) else if k = 24 then some (2, o) else if k = 4 ∧ o.headD 0 = 3 then some (2, 4 :: o.tail) else
        if k = 5 ∧ (o.headD 0 = 4 ∨ o.headD 0 = 6) then some (2, o.tail) else if k = 27 ∧ o.headD 0 = 26 then some (4, o.tail) else if k = 25 ∧ o = [] then some (0, o) else none) := by
      unfold ms_s
      rw [if_neg (by decide), if_neg (by decide), if_neg (by decide), if_neg (by decide)]
    have hd : ∀ x, o.headD 0 = x → x ≠ 0 → o ≠ [] := by
      intro x q n z; rw [z] at q; exact n q.symm
    have stop : ∀ g, ms_s 4 o k = none → (g = wY_misfit_369 post J (nI o.length) 4 (nI i) (nI k) (-1) f_width f_length f_place f_toks f_nodes f_defs a_text a_tok a_tokNum a_tokPlace a_opened a_nOp a_nNum a_nPlace a_nA a_nB a_nC a_nLo a_nHi a_nLevel a_defName a_defPlace a_defRoot a_loaded a_count a_status a_number a_origin a_choice a_slotF a_slotX a_slotHeld) → g := by
      intro g q e; rw [e]; exact mf_5 hk (h0 q)
    have hh : ∀ b : Nat, b < 2 ^ 31 → ar_L a_opened o → o.headD 0 < 2 ^ 31 ∨ True := fun _ _ _ => Or.inr trivial
    have m285 : ¬ (14 ≤ k ∧ k ≤ 22) → wY_misfit_285 post J (nI o.length) 4 (nI i) (nI k) (nI (o.headD 0)) (-1) f_width f_length f_place f_toks f_nodes f_defs a_text a_tok a_tokNum a_tokPlace a_opened a_nOp a_nNum a_nPlace a_nA a_nB a_nC a_nLo a_nHi a_nLevel a_defName a_defPlace a_defRoot a_loaded a_count a_status a_number a_origin a_choice a_slotF a_slotX a_slotHeld := by
      intro nb
      have m355 : k ≠ 24 → ¬ (k = 4 ∧ o.headD 0 = 3) → ¬ (k = 5 ∧ (o.headD 0 = 4 ∨ o.headD 0 = 6)) → ¬ (k = 27 ∧ o.headD 0 = 26) → wY_misfit_355 post J (nI o.length) 4 (nI i) (nI k) (-1) f_width f_length f_place f_toks f_nodes f_defs a_text a_tok a_tokNum a_tokPlace a_opened a_nOp a_nNum a_nPlace a_nA a_nB a_nC a_nLo a_nHi a_nLevel a_defName a_defPlace a_defRoot a_loaded a_count a_status a_number a_origin a_choice a_slotF a_slotX a_slotHeld := by
        intro n24 n4 n5 n27
        refine pk_eq k 25 (fun c => pk_eq o.length 0 (fun d => ?_) (fun d => ?_)) (fun c => ?_)
        · have eo : o = [] := List.length_eq_zero_iff.mp d
          exact mf_4 (w2 := 0) (o2 := o) hk hl (by omega) ha (Or.inr (Or.inr ⟨by omega, by omega, by omega, rfl⟩)) (fun opd ho => h1 0 o opd (by rw [ms, if_neg nb, if_neg n24, if_neg n4, if_neg n5, if_neg n27, if_pos ⟨c, eo⟩]) ho)
        · exact mf_5 hk (h0 (by rw [ms, if_neg nb, if_neg n24, if_neg n4, if_neg n5, if_neg n27, if_neg (fun q => d (by rw [q.2]; rfl))]))
        · exact mf_5 hk (h0 (by rw [ms, if_neg nb, if_neg n24, if_neg n4, if_neg n5, if_neg n27, if_neg (fun q => c q.1)]))
      have m335 : k ≠ 24 → ¬ (k = 4 ∧ o.headD 0 = 3) → ¬ (k = 5 ∧ (o.headD 0 = 4 ∨ o.headD 0 = 6)) → wY_misfit_335 post J (nI o.length) 4 (nI i) (nI k) (nI (o.headD 0)) (-1) f_width f_length f_place f_toks f_nodes f_defs a_text a_tok a_tokNum a_tokPlace a_opened a_nOp a_nNum a_nPlace a_nA a_nB a_nC a_nLo a_nHi a_nLevel a_defName a_defPlace a_defRoot a_loaded a_count a_status a_number a_origin a_choice a_slotF a_slotX a_slotHeld := by
        intro n24 n4 n5
        refine pk_eq k 27 (fun c => pk_eq (o.headD 0) 26 (fun d => ?_) (fun d => m355 n24 n4 n5 (fun q => d q.2))) (fun c => m355 n24 n4 n5 (fun q => c q.1))
        exact mf_4 (w2 := 4) (o2 := o.tail) hk hl (by omega) ha (Or.inr (Or.inl ⟨Or.inr c, hd 26 d (by decide), rfl⟩)) (fun opd ho => h1 4 o.tail opd (by rw [ms, if_neg nb, if_neg n24, if_neg n4, if_neg n5, if_pos ⟨c, d⟩]) ho)
      have m310 : k ≠ 24 → ¬ (k = 4 ∧ o.headD 0 = 3) → wY_misfit_310 post J (nI o.length) 4 (nI i) (nI k) (nI (o.headD 0)) (-1) f_width f_length f_place f_toks f_nodes f_defs a_text a_tok a_tokNum a_tokPlace a_opened a_nOp a_nNum a_nPlace a_nA a_nB a_nC a_nLo a_nHi a_nLevel a_defName a_defPlace a_defRoot a_loaded a_count a_status a_number a_origin a_choice a_slotF a_slotX a_slotHeld := by
        intro n24 n4
        have y : k = 5 → (o.headD 0 = 4 ∨ o.headD 0 = 6) → wY_misfit_329 post J (nI o.length) 4 (nI i) (nI k) f_width f_length f_place f_toks f_nodes f_defs a_text a_tok a_tokNum a_tokPlace a_opened a_nOp a_nNum a_nPlace a_nA a_nB a_nC a_nLo a_nHi a_nLevel a_defName a_defPlace a_defRoot a_loaded a_count a_status a_number a_origin a_choice a_slotF a_slotX a_slotHeld := fun c d =>
          mf_4 (w2 := 2) (o2 := o.tail) hk hl (by omega) ha (Or.inr (Or.inl ⟨Or.inl c, d.elim (fun q => hd 4 q (by decide)) (fun q => hd 6 q (by decide)), rfl⟩)) (fun opd ho => h1 2 o.tail opd (by rw [ms, if_neg nb, if_neg n24, if_neg n4, if_pos ⟨c, d⟩]) ho)
        exact pk_eq k 5 (fun c => pk_eq (o.headD 0) 4 (fun d => y c (Or.inl d)) (fun d => pk_eq (o.headD 0) 6 (fun d2 => y c (Or.inr d2)) (fun d2 => m335 n24 n4 (fun q => q.2.elim d d2)))) (fun c => m335 n24 n4 (fun q => c q.1))
      refine pk_eq k 24 (fun c => ?_) (fun n24 => pk_eq k 4 (fun c => pk_eq (o.headD 0) 3 (fun d => ?_) (fun d => m310 n24 (fun q => d q.2))) (fun c => m310 n24 (fun q => c q.1)))
      · exact mf_4 (w2 := 2) (o2 := o) hk hl (by omega) ha (Or.inr (Or.inr ⟨by omega, by omega, by omega, rfl⟩)) (fun opd ho => h1 2 o opd (by rw [ms, if_neg nb, if_pos c]) ho)
      · exact mf_4 (w2 := 2) (o2 := 4 :: o.tail) hk hl (by omega) ha (Or.inl ⟨c, hd 3 d (by decide), rfl⟩) (fun opd ho => h1 2 (4 :: o.tail) opd (by rw [ms, if_neg nb, if_neg n24, if_pos ⟨c, d⟩]) ho)
    refine br_f (by decide) (br_f (by decide) (br_f (by decide) (br_f (by decide) (br_f (by decide) (br_t rfl (pk_lt k 14 (fun c => m285 (by omega)) (fun c => pk_lt 22 k (fun d => m285 (by omega)) (fun d => ?_))))))))
    exact mf_4 (w2 := 3) (o2 := o) hk hl (by omega) ha (Or.inr (Or.inr ⟨by omega, by omega, by omega, rfl⟩)) (fun opd ho => h1 3 o opd (by rw [ms, if_pos ⟨c, d⟩]) ho)
  · refine br_f (by decide) (br_f (by decide) (br_t rfl (pk_eq k 26 (fun c => mf_p (w2 := 2) hl (by omega) (h1 2 (26 :: o) _ (by unfold ms_s; rw [if_neg (by decide), if_neg (by decide), if_pos rfl, if_pos c]) (ar_p (c := 26) ha))) (fun c => ?_))))
    exact br_f (by decide) (br_f (by decide) (br_f (by decide) (mf_n (h0 (by unfold ms_s; rw [if_neg (by decide), if_neg (by decide), if_pos rfl, if_neg c])))))
end
theorem ms_bs {w k w2 : Nat} {o o2 : List Nat} (hk : k ≤ 27) (ho : ∀ x, x ∈ o → x ≤ 27) (h : ms_s w o k = some (w2, o2)) : w2 ≤ 5 ∧ ∀ x, x ∈ o2 → x ≤ 27 := by
  have tl : ∀ x, x ∈ o.tail → x ≤ 27 := fun x hx => ho x (List.mem_of_mem_tail hx)
  unfold ms_s at h
  repeat' split at h
  all_goals simp at h
  all_goals (obtain ⟨rfl, rfl⟩ := h; refine ⟨by omega, ?_⟩)
  all_goals first
    | exact ho
    | exact tl
    | (intro x hx; rcases List.mem_cons.mp hx with q | q; exact (by omega : x ≤ 27); first | exact ho x q | exact tl x q)
theorem ms_fb {tk : Nat → Nat} {T : Nat} (hk : ∀ i, i < T → tk i ≤ 27) : ∀ i w o, i ≤ T → ms_f tk i = some (w, o) → w ≤ 5 ∧ ∀ x, x ∈ o → x ≤ 27 := by
  intro i
  induction i with
  | zero => intro w o _ h; simp [ms_f] at h; obtain ⟨rfl, rfl⟩ := h; exact ⟨by omega, fun x hx => by simp at hx⟩
  | succ i ih =>
    intro w o hi h
    obtain ⟨a, ha, hs⟩ := ou_bi h
    exact ms_bs (hk i (by omega)) (ih a.1 a.2 (by omega) ha).2 hs
theorem ms_hd {o : List Nat} (h : ∀ x, x ∈ o → x ≤ 27) : o.headD 0 ≤ 27 := by
  cases o with
  | nil => exact (by decide : 0 ≤ 27)
  | cons a r => exact h a (by simp)
section
variable {f_width f_length f_place f_toks f_nodes f_defs : Int32} {a_text a_tok a_tokNum a_tokPlace a_opened a_nOp a_nNum a_nPlace a_nA a_nB a_nC a_nLo a_nHi a_nLevel a_defName a_defPlace a_defRoot a_loaded a_count a_status : Nat → Int32} {a_number : Nat → Int64} {a_origin a_choice a_slotF a_slotX a_slotHeld : Nat → Int32} {L : Nat} {tx : Nat → Nat} {Tk : List tz_T} {post : Int32 → SY → Prop}
theorem mf_6 (hK : xp_T L tx Tk) (hTY : tx_TY Tk Tk.length a_tok a_tokNum a_tokPlace) {r : Option Nat} (hR : ms_R (tt_k Tk) Tk.length r)
    (h1 : r = none → ∀ opd, post (-1) (f_width, f_length, f_place, nI Tk.length, f_nodes, f_defs, a_text, a_tok, a_tokNum, a_tokPlace, opd, a_nOp, a_nNum, a_nPlace, a_nA, a_nB, a_nC, a_nLo, a_nHi, a_nLevel, a_defName, a_defPlace, a_defRoot, a_loaded, a_count, a_status, a_number, a_origin, a_choice, a_slotF, a_slotX, a_slotHeld))
    (h3 : ∀ i, r = some i → i ≤ Tk.length → ∀ opd, post (nI i) (f_width, f_length, f_place, nI Tk.length, f_nodes, f_defs, a_text, a_tok, a_tokNum, a_tokPlace, opd, a_nOp, a_nNum, a_nPlace, a_nA, a_nB, a_nC, a_nLo, a_nHi, a_nLevel, a_defName, a_defPlace, a_defRoot, a_loaded, a_count, a_status, a_number, a_origin, a_choice, a_slotF, a_slotX, a_slotHeld)) :
    ∀ d i w o opd, i + d = Tk.length → ms_f (tt_k Tk) i = some (w, o) → ar_L opd o → ∀ n, d < n →
      wY_misfit_6 post f_width f_length f_place (nI Tk.length) f_nodes f_defs n (nI o.length) (nI w) (nI i) a_text a_tok a_tokNum a_tokPlace opd a_nOp a_nNum a_nPlace a_nA a_nB a_nC a_nLo a_nHi a_nLevel a_defName a_defPlace a_defRoot a_loaded a_count a_status a_number a_origin a_choice a_slotF a_slotX a_slotHeld := by
  have Tl := hK.1
  have L2 := hK.2.1
  have kb : ∀ i, i < Tk.length → tt_k Tk i ≤ 27 := fun i hi => (hK.2.2 i hi).2.2.2.2
  intro d
  induction d with
  | zero =>
    intro i w o opd hi hm ha n hn
    obtain ⟨n, rfl⟩ : ∃ k, n = k + 1 := ⟨n - 1, by omega⟩
    have ei : i = Tk.length := by omega
    subst ei
    obtain ⟨w5, _⟩ := ms_fb kb _ w o (Nat.le_refl _) hm
    refine br_t (nI_le (Nat.le_refl _) (by omega)) ?_
    refine pk_eq w 0 (fun c => pk_le Tk.length 0 (fun d => ?_) (fun d => ?_)) (fun c => ?_)
    · exact h3 _ (ms_Ru hR (Or.inr (Or.inr ⟨rfl, w, o, hm, by omega⟩))) (Nat.le_refl _) _
    · subst c
      exact h1 (ms_Ru hR (Or.inl ⟨rfl, d, o, hm⟩)) _
    · exact h3 _ (ms_Ru hR (Or.inr (Or.inr ⟨rfl, w, o, hm, by omega⟩))) (Nat.le_refl _) _
  | succ d ih =>
    intro i w o opd hi hm ha n hn
    obtain ⟨n, rfl⟩ : ∃ k, n = k + 1 := ⟨n - 1, by omega⟩
    have iT : i < Tk.length := by omega
    obtain ⟨w5, ob⟩ := ms_fb kb _ w o (by omega) hm
    have ol := ms_fl i w o hm
    have msE := pa_ms hm
    have st : wY_misfit_38 post (wY_misfit_6 post f_width f_length f_place (nI Tk.length) f_nodes f_defs n) (nI o.length) (nI w) (nI i) (nI (tt_k Tk i)) (nI (o.headD 0)) f_width f_length f_place (nI Tk.length) f_nodes f_defs a_text a_tok a_tokNum a_tokPlace opd a_nOp a_nNum a_nPlace a_nA a_nB a_nC a_nLo a_nHi a_nLevel a_defName a_defPlace a_defRoot a_loaded a_count a_status a_number a_origin a_choice a_slotF a_slotX a_slotHeld := by
      refine mf_st w5 (kb i iT) (by omega) (ms_hd ob) ha (fun w2 o2 opd2 hs h2 => ?_) (fun hs => ?_)
      · exact ih (i + 1) w2 o2 opd2 (by omega) (by rw [msE, hs]) h2 n (by omega)
      · exact h3 i (ms_Ru hR (Or.inr (Or.inl ⟨i, rfl, iT, by rw [hm]; simp, by rw [msE, hs]⟩))) (by omega) _
    refine br_f (nI_ge iT (by omega)) ⟨vp_in_nI (by omega) (by decide), fun y ey => ?_⟩
    rw [nI_clamp (by omega), (hTY i iT).1] at ey
    subst ey
    refine pk_le o.length 0 (fun c => ?_) (fun c => ?_)
    · have eo : o = [] := List.length_eq_zero_iff.mp (by omega)
      subst eo
      exact st
    · cases o with
      | nil => exact absurd c (by decide)
      | cons a rr =>
        have e1 : nI (a :: rr).length - 1 = nI rr.length := nI_pred _
        rw [List.length_cons] at ol
        rw [e1]
        refine ⟨vp_in_nI (by omega) (by decide), ?_⟩
        rw [nI_clamp (by omega), ha.1]
        exact st
theorem mf_Y (hK : xp_T L tx Tk) (hTY : tx_TY Tk Tk.length a_tok a_tokNum a_tokPlace) {r : Option Nat} (hR : ms_R (tt_k Tk) Tk.length r)
    (h1 : r = none → ∀ opd, post (-1) (f_width, f_length, f_place, nI Tk.length, f_nodes, f_defs, a_text, a_tok, a_tokNum, a_tokPlace, opd, a_nOp, a_nNum, a_nPlace, a_nA, a_nB, a_nC, a_nLo, a_nHi, a_nLevel, a_defName, a_defPlace, a_defRoot, a_loaded, a_count, a_status, a_number, a_origin, a_choice, a_slotF, a_slotX, a_slotHeld))
    (h3 : ∀ i, r = some i → i ≤ Tk.length → ∀ opd, post (nI i) (f_width, f_length, f_place, nI Tk.length, f_nodes, f_defs, a_text, a_tok, a_tokNum, a_tokPlace, opd, a_nOp, a_nNum, a_nPlace, a_nA, a_nB, a_nC, a_nLo, a_nHi, a_nLevel, a_defName, a_defPlace, a_defRoot, a_loaded, a_count, a_status, a_number, a_origin, a_choice, a_slotF, a_slotX, a_slotHeld)) :
    wpY_misfit post (f_width, f_length, f_place, nI Tk.length, f_nodes, f_defs, a_text, a_tok, a_tokNum, a_tokPlace, a_opened, a_nOp, a_nNum, a_nPlace, a_nA, a_nB, a_nC, a_nLo, a_nHi, a_nLevel, a_defName, a_defPlace, a_defRoot, a_loaded, a_count, a_status, a_number, a_origin, a_choice, a_slotF, a_slotX, a_slotHeld) :=
  ⟨Tk.length + 1, mf_6 hK hTY hR h1 h3 Tk.length 0 0 [] a_opened (by omega) rfl trivial _ (Nat.lt_succ_self _)⟩
end
