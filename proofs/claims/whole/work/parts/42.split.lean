-- Y splits a node
def sp_c (o n : Nat → Int32) (k : Nat) (x : Int32) : Prop := (∀ i, i ≠ k → n i = o i) ∧ n k = x
def sp_p (o n : Nat → Int32) (k : Nat) (c : Prop) (x : Int32) : Prop := (∀ i, i ≠ k → n i = o i) ∧ (c → n k = x)
def sp_R (tk tn tp : Nat → Nat) (Q : Nat → Nat → Nat) (T u k N lv : Nat) (op on ol oA oB oC oLo oHi oLv nop nnm npl nA nB nC nLo nHi nLv : Nat → Int32) : Prop :=
  sp_c op nop k (nI (Q 0 u)) ∧ sp_c on nnm k (nI (tn (Q 9 u))) ∧ sp_c ol npl k (nI (tp (Q 9 u))) ∧
  sp_p oA nA k (0 < pg_n (Q 0 u)) (nI N) ∧ sp_p oB nB k (1 < pg_n (Q 0 u)) (nI (N + 1)) ∧ sp_p oC nC k (2 < pg_n (Q 0 u)) (nI (N + 2)) ∧
  (∀ i, i < N → nLo i = oLo i ∧ nHi i = oHi i ∧ nLv i = oLv i) ∧
  (∀ j, j < pg_n (Q 0 u) → ∃ l h, nLo (N + j) = nI l ∧ nHi (N + j) = nI h ∧ nLv (N + j) = nI lv ∧ nd_W tk Q l h (Q (2 + j) u) ∧ h ≤ T)
theorem sp_u {o : Nat → Int32} {k : Nat} {x : Int32} : sp_c o (upd o k x) k x := ⟨fun _ h => pk_un h, pk_us⟩
theorem sp_uu {o : Nat → Int32} {k : Nat} {x y : Int32} : sp_c o (upd (upd o k y) k x) k x := ⟨fun _ h => (pk_un h).trans (pk_un h), pk_us⟩
theorem sp_v {o : Nat → Int32} {k : Nat} {c : Prop} {x : Int32} : sp_p o (upd o k x) k c x := ⟨fun _ h => pk_un h, fun _ => pk_us⟩
theorem sp_n {o : Nat → Int32} {k : Nat} {c : Prop} {x : Int32} (h : ¬ c) : sp_p o o k c x := ⟨fun _ _ => rfl, fun q => absurd q h⟩
section
variable {f_width f_length f_place f_toks f_nodes f_defs : Int32} {a_text a_tok a_tokNum a_tokPlace a_opened a_nOp a_nNum a_nPlace a_nA a_nB a_nC a_nLo a_nHi a_nLevel a_defName a_defPlace a_defRoot a_loaded a_count a_status : Nat → Int32} {a_number : Nat → Int64} {a_origin a_choice a_slotF a_slotX a_slotHeld : Nat → Int32} {tk tn tp : Nat → Nat} {T : Nat} {Q : Nat → Nat → Nat} {u k N lv : Nat} {post : SY → Prop}
theorem sp_119 (hT : T ≤ 200) (ht : ∀ i, i < T → a_tok i = nI (tk i) ∧ a_tokNum i = nI (tn i) ∧ a_tokPlace i = nI (tp i)) (hk : ∀ i, i < T → tk i ≤ 27) (hkN : k < N) (hN : N + pg_n (Q 0 u) ≤ 320)
    (hok : nd_k tk Q (Q 0 u) (Q 7 u) (Q 8 u) (Q 9 u) (Q 2 u) (Q 3 u) (Q 4 u)) (hh : Q 8 u ≤ T)
    (hp : ∀ nop nnm npl nA nB nC nLo nHi nLv, sp_R tk tn tp Q T u k N lv a_nOp a_nNum a_nPlace a_nA a_nB a_nC a_nLo a_nHi a_nLevel nop nnm npl nA nB nC nLo nHi nLv → post (f_width, f_length, f_place, nI T, nI (N + pg_n (Q 0 u)), f_defs, a_text, a_tok, a_tokNum, a_tokPlace, a_opened, nop, nnm, npl, nA, nB, nC, nLo, nHi, nLv, a_defName, a_defPlace, a_defRoot, a_loaded, a_count, a_status, a_number, a_origin, a_choice, a_slotF, a_slotX, a_slotHeld)) :
    wY_split_119 post (nI k) (nI (Q 7 u)) (nI (Q 8 u)) (nI lv) (nI (Q 9 u)) f_width f_length f_place (nI T) (nI N) f_defs a_text a_tok a_tokNum a_tokPlace a_opened a_nOp a_nNum a_nPlace a_nA a_nB a_nC a_nLo a_nHi a_nLevel a_defName a_defPlace a_defRoot a_loaded a_count a_status a_number a_origin a_choice a_slotF a_slotX a_slotHeld := by
  have hin : vp_in (nI k) 320 := vp_in_nI (by omega) (by decide)
  have pl : Q 9 u < Q 8 u := by
    rcases hok with g | ⟨g1, g2, g3, g4, _⟩ | ⟨g1, g2, g3, _⟩ | ⟨g1, g2, g3, g4, g5, _⟩ | ⟨g1, g2, g3, p1, p2, g4, g5, g6, _⟩ | ⟨g1, g2, g3, p2, g4, g5, _⟩
    · omega
    · omega
    · have := g3.2.1; omega
    · omega
    · omega
    · omega
  have pT : Q 9 u < T := by omega
  have k27 := hk _ pT
  have hin2 : vp_in (nI (Q 9 u)) 200 := vp_in_nI (by omega) (by decide)
  have lit : ∀ {a b : Nat}, a ≤ 27 → b ≤ 27 → a ≠ b → ¬ nI a = nI b := fun h1 h2 h3 q => h3 ((nI_eq (by omega) (by omega)).mp q)
  refine ⟨hin2, fun t et => ⟨hin, fun A eA => ⟨hin2, hin, fun B eB => ⟨hin2, hin, fun C eC => ?_⟩⟩⟩⟩
  rw [nI_clamp (by omega), (ht _ pT).1] at et
  rw [nI_clamp (by omega)] at eA
  rw [nI_clamp (n := k) (by omega), nI_clamp (n := Q 9 u) (by omega), (ht _ pT).2.1] at eB
  rw [nI_clamp (n := k) (by omega), nI_clamp (n := Q 9 u) (by omega), (ht _ pT).2.2] at eC
  subst et eA eB eC
  rcases hok with g | ⟨g1, g2, g3, g4, g5, g6, g7, g8, g9⟩ | ⟨g1, g2, g3, g4⟩ | ⟨g1, g2, g3, g4, g5, g5a, g5b, g6⟩ | ⟨g1, g2, g3, p1, p2, g4, g5, g6, g7, g8, g9, g10, g11, g12, g13⟩ | ⟨g1, g2, g3, p2, g4, g5, g6, g7, g8, g9⟩
  · -- a leaf
    obtain ⟨g1, g2, g3, g4⟩ := g
    have n0 := nd_n0 g1
    rw [n0] at hN
    have fin := hp (upd a_nOp k (nI (tk (Q 9 u)))) (upd a_nNum k (nI (tn (Q 9 u)))) (upd a_nPlace k (nI (tp (Q 9 u)))) a_nA a_nB a_nC a_nLo a_nHi a_nLevel
      ⟨by rw [← g2]; exact sp_u, sp_u, sp_u, sp_n (by omega), sp_n (by omega), sp_n (by omega), fun i _ => ⟨rfl, rfl, rfl⟩, fun j hj => by omega⟩
    rw [n0, Nat.add_zero] at fin
    rw [g2] at k27
    refine br_t (nI_le (by omega) (by omega)) ?_
    rw [g2] at fin ⊢
    exact br_f (lit (b := 3) k27 (by decide) (by omega)) (br_f (lit (b := 6) k27 (by decide) (by omega)) (br_f (lit (b := 15) k27 (by decide) (by omega)) (br_f (lit (b := 23) k27 (by decide) (by omega)) (br_f (lit (b := 13) k27 (by decide) (by omega)) (br_f (lit (b := 7) k27 (by decide) (by omega)) (br_f (lit (b := 8) k27 (by decide) (by omega)) (br_f (lit (b := 9) k27 (by decide) (by omega)) fin)))))))
  · -- two sides
    have n2 := nd_n2 (t := Q 0 u) (by omega)
    rw [n2] at hN
    refine br_f (nI_ge g3 (by omega)) ?_
    refine pr_Y (N := N) (by omega) ⟨hin, fun A eA => ?_⟩
    rw [nI_clamp (by omega)] at eA
    subst eA
    rw [nI_1]
    refine pr_Y (N := N + 1) (by omega) ⟨hin, fun A eA => ?_⟩
    rw [nI_clamp (by omega)] at eA
    subst eA
    have fin := hp (upd a_nOp k (nI (tk (Q 9 u)))) (upd a_nNum k (nI (tn (Q 9 u)))) (upd a_nPlace k (nI (tp (Q 9 u)))) (upd a_nA k (nI N)) (upd a_nB k (nI (N + 1))) a_nC
      (upd (upd a_nLo N (nI (Q 7 u))) (N + 1) (nI (Q 9 u + 1))) (upd (upd a_nHi N (nI (Q 9 u))) (N + 1) (nI (Q 8 u))) (upd (upd a_nLevel N (nI lv)) (N + 1) (nI lv))
      ⟨by rw [← g2]; exact sp_u, sp_u, sp_u, sp_v, sp_v, sp_n (by omega), fun i hi => ⟨by rw [pk_un (by omega), pk_un (by omega)], by rw [pk_un (by omega), pk_un (by omega)], by rw [pk_un (by omega), pk_un (by omega)]⟩, fun j hj => ?_⟩
    · rw [n2] at fin; exact fin
    · have : j = 0 ∨ j = 1 := by omega
      rcases this with q | q <;> subst q
      · exact ⟨Q 7 u, Q 9 u, by rw [pk_un (by omega)]; exact pk_us, by rw [pk_un (by omega)]; exact pk_us, by rw [pk_un (by omega)]; exact pk_us, g8, by omega⟩
      · exact ⟨Q 9 u + 1, Q 8 u, pk_us, pk_us, pk_us, g9, hh⟩
  · -- a sign
    have n1 := nd_n1 (t := Q 0 u) (by omega)
    rw [n1] at hN
    refine br_t (nI_le (by omega) (by omega)) ?_
    have go : ∀ c : Nat, c = Q 0 u → wY_split_366 post (nI k) (nI (Q 7 u)) (nI (Q 8 u)) (nI lv) (nI c) (nI k) f_width f_length f_place (nI T) (nI N) f_defs a_text a_tok a_tokNum a_tokPlace a_opened (upd a_nOp k (nI (tk (Q 9 u)))) (upd a_nNum k (nI (tn (Q 9 u)))) (upd a_nPlace k (nI (tp (Q 9 u)))) a_nA a_nB a_nC a_nLo a_nHi a_nLevel a_defName a_defPlace a_defRoot a_loaded a_count a_status a_number a_origin a_choice a_slotF a_slotX a_slotHeld := by
      intro c ec
      refine ⟨hin, fun A eA => ?_⟩
      rw [nI_clamp (by omega), ec] at eA
      subst eA
      rw [nI_1]
      refine pr_Y (N := N) (by omega) ⟨hin, fun A eA => ?_⟩
      rw [nI_clamp (by omega)] at eA
      subst eA
      have fin := hp _ (upd a_nNum k (nI (tn (Q 9 u)))) (upd a_nPlace k (nI (tp (Q 9 u)))) (upd a_nA k (nI N)) a_nB a_nC (upd a_nLo N (nI (Q 7 u + 1))) (upd a_nHi N (nI (Q 8 u))) (upd a_nLevel N (nI lv))
        ⟨sp_uu (y := nI (tk (Q 9 u))), sp_u, sp_u, sp_v, sp_n (by omega), sp_n (by omega), fun i hi => ⟨pk_un (by omega), pk_un (by omega), pk_un (by omega)⟩, fun j hj => ?_⟩
      · rw [n1] at fin; exact fin
      · have : j = 0 := by omega
        subst this
        exact ⟨Q 7 u + 1, Q 8 u, pk_us, pk_us, pk_us, g4, hh⟩
    rcases g1 with ⟨q1, q2⟩ | ⟨q1, q2⟩
    · rw [q2] at go ⊢
      exact br_f (by decide) (br_f (by decide) (br_t rfl (br_t rfl (go 28 q1.symm))))
    · rw [q2] at go ⊢
      exact br_f (by decide) (br_f (by decide) (br_f (by decide) (br_t rfl (br_f (by decide) (go 23 q1.symm)))))
  · -- hd, tl, nul, a call
    have n1 := nd_n1 (t := Q 0 u) (by omega)
    rw [n1] at hN
    refine br_t (nI_le (by omega) (by omega)) ?_
    have go : wY_split_414 post (nI k) (nI (Q 7 u)) (nI (Q 8 u)) (nI lv) f_width f_length f_place (nI T) (nI N) f_defs a_text a_tok a_tokNum a_tokPlace a_opened (upd a_nOp k (nI (tk (Q 9 u)))) (upd a_nNum k (nI (tn (Q 9 u)))) (upd a_nPlace k (nI (tp (Q 9 u)))) a_nA a_nB a_nC a_nLo a_nHi a_nLevel a_defName a_defPlace a_defRoot a_loaded a_count a_status a_number a_origin a_choice a_slotF a_slotX a_slotHeld := by
      have e1 : nI (Q 7 u) + 2 = nI (Q 7 u + 2) := nI_add _ 2
      have e2 : nI (Q 8 u) - 1 = nI (Q 8 u - 1) := pk_sub (b := 1) (by omega)
      unfold wY_split_414
      rw [e1, e2]
      refine pr_Y (N := N) (by omega) ⟨hin, fun A eA => ?_⟩
      rw [nI_clamp (by omega)] at eA
      subst eA
      have fin := hp (upd a_nOp k (nI (tk (Q 9 u)))) (upd a_nNum k (nI (tn (Q 9 u)))) (upd a_nPlace k (nI (tp (Q 9 u)))) (upd a_nA k (nI N)) a_nB a_nC (upd a_nLo N (nI (Q 7 u + 2))) (upd a_nHi N (nI (Q 8 u - 1))) (upd a_nLevel N (nI lv))
        ⟨by rw [← g2]; exact sp_u, sp_u, sp_u, sp_v, sp_n (by omega), sp_n (by omega), fun i hi => ⟨pk_un (by omega), pk_un (by omega), pk_un (by omega)⟩, fun j hj => ?_⟩
      · rw [n1] at fin; exact fin
      · have : j = 0 := by omega
        subst this
        exact ⟨Q 7 u + 2, Q 8 u - 1, pk_us, pk_us, pk_us, g6, by omega⟩
    rw [g2] at go ⊢
    have t27 : Q 0 u ≤ 27 := by omega
    refine br_f (lit (b := 3) t27 (by decide) (by omega)) (br_f (lit (b := 6) t27 (by decide) (by omega)) (br_f (lit (b := 15) t27 (by decide) (by omega)) (br_f (lit (b := 23) t27 (by decide) (by omega)) (br_c (fun _ => go) (fun q13 => br_c (fun _ => go) (fun q7 => br_c (fun _ => go) (fun q8 => br_c (fun _ => go) (fun q9 => ?_))))))))
    exfalso
    rcases g1 with q | q | q | q <;> rw [q] at q13 q7 q8 q9
    · exact q7 rfl
    · exact q8 rfl
    · exact q9 rfl
    · exact q13 rfl
  · -- if
    have n3 : pg_n (Q 0 u) = 3 := by rw [g1]; rfl
    rw [n3] at hN
    refine br_t (nI_le (by omega) (by omega)) ?_
    rw [g2]
    refine br_t rfl ?_
    refine pt_Y (what := 4) hT (fun i hi => (ht i hi).1) hk (Or.inl rfl) pt_T g8 g7 g4 (by omega) ?_
    refine pt_Y (what := 5) hT (fun i hi => (ht i hi).1) hk (Or.inr rfl) pt_E g10 g9 g5 (by omega) ?_
    rw [nI_1]
    refine pr_Y (N := N) (by omega) ⟨hin, fun A eA => ?_⟩
    rw [nI_clamp (by omega)] at eA
    subst eA
    rw [nI_1]
    refine pr_Y (N := N + 1) (by omega) ⟨hin, fun A eA => ?_⟩
    rw [nI_clamp (by omega)] at eA
    subst eA
    rw [nI_1]
    refine pr_Y (N := N + 1 + 1) (by omega) ⟨hin, fun A eA => ?_⟩
    rw [nI_clamp (by omega)] at eA
    subst eA
    have fin := hp (upd a_nOp k 3) (upd a_nNum k (nI (tn (Q 9 u)))) (upd a_nPlace k (nI (tp (Q 9 u)))) (upd a_nA k (nI N)) (upd a_nB k (nI (N + 1))) (upd a_nC k (nI (N + 2)))
      (upd (upd (upd a_nLo N (nI (Q 7 u + 1))) (N + 1) (nI (p1 + 1))) (N + 2) (nI (p2 + 1))) (upd (upd (upd a_nHi N (nI p1)) (N + 1) (nI p2)) (N + 2) (nI (Q 8 u))) (upd (upd (upd a_nLevel N (nI lv)) (N + 1) (nI lv)) (N + 2) (nI lv))
      ⟨by rw [g1]; exact sp_u, sp_u, sp_u, sp_v, sp_v, sp_v, fun i hi => ⟨by rw [pk_un (by omega), pk_un (by omega), pk_un (by omega)], by rw [pk_un (by omega), pk_un (by omega), pk_un (by omega)], by rw [pk_un (by omega), pk_un (by omega), pk_un (by omega)]⟩, fun j hj => ?_⟩
    · rw [n3] at fin; exact fin
    · have : j = 0 ∨ j = 1 ∨ j = 2 := by omega
      rcases this with q | q | q <;> subst q
      · exact ⟨Q 7 u + 1, p1, by rw [pk_un (by omega), pk_un (by omega)]; exact pk_us, by rw [pk_un (by omega), pk_un (by omega)]; exact pk_us, by rw [pk_un (by omega), pk_un (by omega)]; exact pk_us, g11, by omega⟩
      · exact ⟨p1 + 1, p2, by rw [pk_un (by omega), pk_us], by rw [pk_un (by omega), pk_us], by rw [pk_un (by omega), pk_us], g12, by omega⟩
      · exact ⟨p2 + 1, Q 8 u, pk_us, pk_us, pk_us, g13, hh⟩
  · -- try
    have n2 := nd_n2 (t := Q 0 u) (by omega)
    rw [n2] at hN
    refine br_t (nI_le (by omega) (by omega)) ?_
    rw [g2]
    refine br_f (by decide) (br_t rfl ?_)
    refine pt_Y (what := 5) hT (fun i hi => (ht i hi).1) hk (Or.inr rfl) pt_E g7 g6 g4 (by omega) ?_
    rw [nI_1]
    refine pr_Y (N := N) (by omega) ⟨hin, fun A eA => ?_⟩
    rw [nI_clamp (by omega)] at eA
    subst eA
    rw [nI_1]
    refine pr_Y (N := N + 1) (by omega) ⟨hin, fun A eA => ?_⟩
    rw [nI_clamp (by omega)] at eA
    subst eA
    have fin := hp (upd a_nOp k 6) (upd a_nNum k (nI (tn (Q 9 u)))) (upd a_nPlace k (nI (tp (Q 9 u)))) (upd a_nA k (nI N)) (upd a_nB k (nI (N + 1))) a_nC
      (upd (upd a_nLo N (nI (Q 7 u + 1))) (N + 1) (nI (p2 + 1))) (upd (upd a_nHi N (nI p2)) (N + 1) (nI (Q 8 u))) (upd (upd a_nLevel N (nI lv)) (N + 1) (nI lv))
      ⟨by rw [g1]; exact sp_u, sp_u, sp_u, sp_v, sp_v, sp_n (by omega), fun i hi => ⟨by rw [pk_un (by omega), pk_un (by omega)], by rw [pk_un (by omega), pk_un (by omega)], by rw [pk_un (by omega), pk_un (by omega)]⟩, fun j hj => ?_⟩
    · rw [n2] at fin; exact fin
    · have : j = 0 ∨ j = 1 := by omega
      rcases this with q | q <;> subst q
      · exact ⟨Q 7 u + 1, p2, by rw [pk_un (by omega)]; exact pk_us, by rw [pk_un (by omega)]; exact pk_us, by rw [pk_un (by omega)]; exact pk_us, g8, by omega⟩
      · exact ⟨p2 + 1, Q 8 u, pk_us, pk_us, pk_us, g9, hh⟩
theorem sp_Y (hT : T ≤ 200) (ht : ∀ i, i < T → a_tok i = nI (tk i) ∧ a_tokNum i = nI (tn i) ∧ a_tokPlace i = nI (tp i)) (hk : ∀ i, i < T → tk i ≤ 27) (hkN : k < N) (hN : N + pg_n (Q 0 u) ≤ 320)
    (hok : nd_k tk Q (Q 0 u) (Q 7 u) (Q 8 u) (Q 9 u) (Q 2 u) (Q 3 u) (Q 4 u)) {l h : Nat} (hW : nd_W tk Q l h u) (hh : h ≤ T) (hlo : a_nLo k = nI l) (hhi : a_nHi k = nI h) {lv0 : Nat} (hlv : a_nLevel k = nI lv0)
    (hp : ∀ nop nnm npl nA nB nC nLo nHi nLv, sp_R tk tn tp Q T u k N (lv0 + 1) a_nOp a_nNum a_nPlace a_nA a_nB a_nC a_nLo a_nHi a_nLevel nop nnm npl nA nB nC nLo nHi nLv → post (f_width, f_length, f_place, nI T, nI (N + pg_n (Q 0 u)), f_defs, a_text, a_tok, a_tokNum, a_tokPlace, a_opened, nop, nnm, npl, nA, nB, nC, nLo, nHi, nLv, a_defName, a_defPlace, a_defRoot, a_loaded, a_count, a_status, a_number, a_origin, a_choice, a_slotF, a_slotX, a_slotHeld)) :
    wpY_split post (f_width, f_length, f_place, nI T, nI N, f_defs, a_text, a_tok, a_tokNum, a_tokPlace, a_opened, a_nOp, a_nNum, a_nPlace, a_nA, a_nB, a_nC, a_nLo, a_nHi, a_nLevel, a_defName, a_defPlace, a_defRoot, a_loaded, a_count, a_status, a_number, a_origin, a_choice, a_slotF, a_slotX, a_slotHeld) (nI k) := by
  obtain ⟨b, w1, w2, w3⟩ := hW
  have hin : vp_in (nI k) 320 := vp_in_nI (by omega) (by decide)
  have facts : Q 7 u < Q 8 u ∧ Q 7 u ≤ Q 9 u ∧ ((tk (Q 7 u) = 3 ∨ tk (Q 7 u) = 6) ∧ Q 9 u = Q 7 u ∨ (tk (Q 7 u) ≠ 3 ∧ tk (Q 7 u) ≠ 6 ∧ (∃ W, rg_C tk (Q 7 u) (Q 8 u) (Q 9 u) W) ∧ (Q 9 u = Q 7 u → tk (Q 7 u) ≠ 26))) := by
    rcases hok with g | ⟨g1, g2, g3, g4, g5, g6, g7, g8, g9⟩ | ⟨g1, g2, g3, g4⟩ | ⟨g1, g2, g3, g4, g5, g5a, g5b, g6⟩ | ⟨g1, g2, g3, p1, p2, g4, g5, g6, _⟩ | ⟨g1, g2, g3, p2, g4, g5, _⟩
    · obtain ⟨g1, g2, g3, g4⟩ := g
      rw [g3] at g2
      obtain ⟨c, _⟩ := rg_leaf (tk := tk) (l := Q 7 u) (by omega)
      rw [← g4] at c
      exact ⟨by omega, by omega, Or.inr ⟨by omega, by omega, ⟨9, by rw [g3]; exact c⟩, fun _ => by omega⟩⟩
    · exact ⟨by omega, by omega, Or.inr ⟨g5, g6, g7, fun q => by omega⟩⟩
    · rw [g2] at g1
      have := g3.2.1
      exact ⟨by omega, by omega, Or.inr ⟨by omega, by omega, ⟨9, by rw [g2]; exact g3⟩, fun _ => by omega⟩⟩
    · rw [g3] at g2
      exact ⟨by omega, by omega, Or.inr ⟨by omega, by omega, ⟨9, by rw [g3]; exact g4⟩, fun _ => by omega⟩⟩
    · rw [g3] at g2
      exact ⟨by omega, by omega, Or.inl ⟨Or.inl g2, g3⟩⟩
    · rw [g3] at g2
      exact ⟨by omega, by omega, Or.inl ⟨Or.inr g2, g3⟩⟩
  obtain ⟨f1, f2, f3⟩ := facts
  have hk' : ∀ i, i < T → tk i ≤ 27 := hk
  have fin := sp_119 (lv := lv0 + 1) hT ht hk hkN hN hok (by omega) hp
  refine ⟨hin, fun x2 e2 => ⟨hin, fun x3 e3 => ⟨hin, fun x4 e4 => ?_⟩⟩⟩
  rw [nI_clamp (by omega)] at e2 e3 e4
  rw [hlo] at e2
  rw [hhi] at e3
  rw [hlv, nI_1] at e4
  subst e2 e3 e4
  have key : ∀ d j x5, j + d = b → ∀ n, d + 1 < n → wY_split_33 post (nI k) (nI (lv0 + 1)) f_width f_length f_place (nI T) (nI N) f_defs a_text a_tok a_tokNum a_tokPlace a_opened a_nOp a_nNum a_nPlace a_nA a_nB a_nC a_nLo a_nHi a_nLevel a_defName a_defPlace a_defRoot a_loaded a_count a_status a_number a_origin a_choice a_slotF a_slotX a_slotHeld n (nI (l + j)) (nI (h - j)) x5 1 (nI j) := by
    intro d
    induction d with
    | zero =>
      intro j x5 hj n hn
      obtain ⟨n, rfl⟩ : ∃ m, n = m + 1 + 1 := ⟨n - 2, by omega⟩
      have ej : j = b := by omega
      subst ej
      have el : l + j = Q 7 u := w1.symm
      have eh : h - j = Q 8 u := by omega
      rw [el, eh]
      have iT : Q 7 u < T := by omega
      have k27 := hk _ iT
      have hin2 : vp_in (nI (Q 7 u)) 200 := vp_in_nI (by omega) (by decide)
      have out : ∀ c, c = Q 9 u → wY_split_99 post (wY_split_33 post (nI k) (nI (lv0 + 1)) f_width f_length f_place (nI T) (nI N) f_defs a_text a_tok a_tokNum a_tokPlace a_opened a_nOp a_nNum a_nPlace a_nA a_nB a_nC a_nLo a_nHi a_nLevel a_defName a_defPlace a_defRoot a_loaded a_count a_status a_number a_origin a_choice a_slotF a_slotX a_slotHeld (n + 1)) (nI k) (nI (Q 7 u)) (nI (Q 8 u)) (nI (lv0 + 1)) (nI c) (nI j) f_width f_length f_place (nI T) (nI N) f_defs a_text a_tok a_tokNum a_tokPlace a_opened a_nOp a_nNum a_nPlace a_nA a_nB a_nC a_nLo a_nHi a_nLevel a_defName a_defPlace a_defRoot a_loaded a_count a_status a_number a_origin a_choice a_slotF a_slotX a_slotHeld := by
        intro c ec
        refine br_t rfl (fun y ey => ?_)
        rw [ey, nI_1, ec]
        exact pk_le 100 (j + 1) (fun _ => fin) (fun _ => br_t rfl fin)
      refine br_f (nI_ge (b := 100) (by omega) (by omega)) (br_f (by decide) ⟨hin2, ?_⟩)
      rw [nI_clamp (by omega), (ht _ iT).1]
      rcases f3 with ⟨q1, q2⟩ | ⟨q1, q2, ⟨W, q3⟩, q4⟩
      · have m66 : wY_split_66 post (wY_split_33 post (nI k) (nI (lv0 + 1)) f_width f_length f_place (nI T) (nI N) f_defs a_text a_tok a_tokNum a_tokPlace a_opened a_nOp a_nNum a_nPlace a_nA a_nB a_nC a_nLo a_nHi a_nLevel a_defName a_defPlace a_defRoot a_loaded a_count a_status a_number a_origin a_choice a_slotF a_slotX a_slotHeld (n + 1)) (nI k) (nI (Q 7 u)) (nI (Q 8 u)) (nI (lv0 + 1)) (nI j) f_width f_length f_place (nI T) (nI N) f_defs a_text a_tok a_tokNum a_tokPlace a_opened a_nOp a_nNum a_nPlace a_nA a_nB a_nC a_nLo a_nHi a_nLevel a_defName a_defPlace a_defRoot a_loaded a_count a_status a_number a_origin a_choice a_slotF a_slotX a_slotHeld := by
          refine br_t rfl ⟨hin2, ?_⟩
          rw [nI_clamp (by omega), (ht _ iT).1]
          exact br_f (fun q => by have := (nI_eq (b := 26) (by omega) (by decide)).mp q; omega) (out _ q2.symm)
        refine pk_eq (tk (Q 7 u)) 3 (fun _ => m66) (fun n3 => ⟨hin2, ?_⟩)
        exact br_t (by rw [(by omega : tk (Q 7 u) = 6)]; rfl) m66
      · refine br_f (fun q => q1 ((nI_eq (b := 3) (by omega) (by decide)).mp q)) ⟨hin2, br_f (fun q => q2 ((nI_eq (b := 6) (by omega) (by decide)).mp q)) ?_⟩
        refine cu_Y hT (fun i hi => (ht i hi).1) hk q3 (by omega) ?_
        have pT := q3.2.1
        refine pk_eq (Q 9 u) (Q 7 u) (fun c => ⟨hin2, ?_⟩) (fun c => out _ rfl)
        rw [nI_clamp (by omega), (ht _ iT).1]
        exact br_f (fun q => q4 c ((nI_eq (b := 26) (by omega) (by decide)).mp q)) (out _ rfl)
    | succ d ih =>
      intro j x5 hj n hn
      obtain ⟨n, rfl⟩ : ∃ m, n = m + 1 := ⟨n - 1, by omega⟩
      obtain ⟨z1, z2, z3⟩ := w3 j (by omega)
      have iT : l + j < T := by omega
      have hin2 : vp_in (nI (l + j)) 200 := vp_in_nI (by omega) (by decide)
      refine br_f (nI_ge (b := 100) (by omega) (by omega)) (br_f (by decide) ⟨hin2, ?_⟩)
      rw [nI_clamp (by omega), (ht _ iT).1, z1]
      refine br_f (by decide) ⟨hin2, br_f (by decide) ?_⟩
      refine cu_Y hT (fun i hi => (ht i hi).1) hk z3 (by omega) ?_
      refine br_t rfl ⟨hin2, ?_⟩
      rw [nI_clamp (by omega), (ht _ iT).1, z1]
      refine br_t rfl (br_f (by decide) (fun y ey z ez w ew => ?_))
      rw [nI_1] at ey ew
      have e1 : nI (h - j) + (-1) = nI (h - (j + 1)) := by
        have : h - j = h - (j + 1) + 1 := by omega
        rw [this, pk_m1]
      rw [e1] at ez
      subst ey ez ew
      exact ih (j + 1) _ (by omega) n (by omega)
  have := key b 0 (nI l) (by omega) (b + 2) (by omega)
  exact ⟨_, this⟩
end
