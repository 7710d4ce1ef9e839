-- X installs the new program
theorem in_s {v a b : Nat} (h : b ≤ v) : nI v + (nI a - nI b) = nI (v + a - b) := by
  have e1 : nI (v + a - b) = nI (v - b) + nI a := by rw [nI_add]; congr 1; omega
  have e2 : nI v = nI (v - b) + nI b := by rw [nI_add]; congr 1; omega
  rw [e1, e2]
  grind
def in_e (u : Nat) (no nn pt no2 nn2 pt2 : Nat → Int32) : Prop := no2 u = no u ∧ nn2 u = nn u ∧ pt2 (u * 3) = pt (u * 3) ∧ pt2 (u * 3 + 1) = pt (u * 3 + 1) ∧ pt2 (u * 3 + 2) = pt (u * 3 + 2)
theorem in_et {u : Nat} {no nn pt no2 nn2 pt2 no3 nn3 pt3 : Nat → Int32} (h : in_e u no nn pt no2 nn2 pt2) (g : in_e u no2 nn2 pt2 no3 nn3 pt3) : in_e u no nn pt no3 nn3 pt3 := by
  obtain ⟨h1, h2, h3, h4, h5⟩ := h
  obtain ⟨g1, g2, g3, g4, g5⟩ := g
  exact ⟨g1.trans h1, g2.trans h2, g3.trans h3, g4.trans h4, g5.trans h5⟩
def in_r (Q : Nat → Nat → Nat) (f F j : Nat) (no nn pt : Nat → Int32) : Prop :=
  no (f * 24 + j) = nI (xc_t (Q 0 (F + j))) ∧ nn (f * 24 + j) = nI (Q 1 (F + j)) ∧ pt ((f * 24 + j) * 3) = nI (Q 2 (F + j) + f * 24 - F) ∧ pt ((f * 24 + j) * 3 + 1) = nI (Q 3 (F + j) + f * 24 - F) ∧ pt ((f * 24 + j) * 3 + 2) = nI (Q 4 (F + j) + f * 24 - F)
def in_R (Q : Nat → Nat → Nat) (f F k : Nat) (no0 nn0 pt0 no nn pt : Nat → Int32) : Prop :=
  (∀ j, j < k → in_r Q f F j no nn pt) ∧ ∀ u, (u < f * 24 ∨ f * 24 + k ≤ u) → in_e u no0 nn0 pt0 no nn pt
theorem in_Rs {Q : Nat → Nat → Nat} {f F k : Nat} {no0 nn0 pt0 no nn pt : Nat → Int32} {x0 x1 p0 p1 p2 : Int32} (h : in_R Q f F k no0 nn0 pt0 no nn pt)
    (e0 : x0 = nI (xc_t (Q 0 (F + k)))) (e1 : x1 = nI (Q 1 (F + k))) (e2 : p0 = nI (Q 2 (F + k) + f * 24 - F)) (e3 : p1 = nI (Q 3 (F + k) + f * 24 - F)) (e4 : p2 = nI (Q 4 (F + k) + f * 24 - F)) :
    in_R Q f F (k + 1) no0 nn0 pt0 (upd no (f * 24 + k) x0) (upd nn (f * 24 + k) x1) (upd (upd (upd pt ((f * 24 + k) * 3 + 0) p0) ((f * 24 + k) * 3 + 1) p1) ((f * 24 + k) * 3 + 2) p2) := by
  obtain ⟨h1, h2⟩ := h
  refine ⟨fun j hj => ?_, fun u hu => ?_⟩
  · unfold in_r
    by_cases q : j = k
    · subst q
      refine ⟨pk_us.trans e0, pk_us.trans e1, ?_, ?_, pk_us.trans e4⟩
      · rw [pk_un (by omega), pk_un (by omega)]; exact (pk_us (k := (f * 24 + j) * 3)).trans e2
      · rw [pk_un (by omega)]; exact pk_us.trans e3
    · rw [pk_un (by omega), pk_un (by omega), pk_un (by omega), pk_un (by omega), pk_un (by omega), pk_un (by omega), pk_un (by omega), pk_un (by omega), pk_un (by omega), pk_un (by omega), pk_un (by omega)]
      exact h1 j (by omega)
  · refine in_et (h2 u (by omega)) ?_
    unfold in_e
    rw [pk_un (by omega), pk_un (by omega), pk_un (by omega), pk_un (by omega), pk_un (by omega), pk_un (by omega), pk_un (by omega), pk_un (by omega), pk_un (by omega), pk_un (by omega), pk_un (by omega)]
    exact ⟨rfl, rfl, rfl, rfl, rfl⟩
section
variable {f_width f_textLength f_foundPlace f_tokenCount f_frameCount f_operandCount f_defCount f_nodeEnd : Int32} {a_text a_tokenCode a_tokenPlace a_frameCode a_framePlace a_operand a_defPlace a_defFirst a_defEnd a_nodeOp a_nodeNumber a_nodePlace a_nodeDepth a_nodeKind a_part a_size a_kindFound a_choice a_status : Nat → Int32} {a_result : Nat → Int64} {a_slotFunction a_slotArgument : Nat → Int32} {L : Nat} {tx : Nat → Nat} {Tk : List tz_T} {Q : Nat → Nat → Nat} {ds : List df_D} {e : Nat} {P : Nat → Nat → Nat}
theorem in_103 {x1 : Int32} {a F v w p0 p1 p2 : Nat} {post : SX → Prop} {J2 J55 : Int32 → (Nat → Int32) → (Nat → Int32) → (Nat → Int32) → (Nat → Int32) → (Nat → Int32) → (Nat → Int32) → (Nat → Int32) → (Nat → Int32) → (Nat → Int32) → (Nat → Int32) → (Nat → Int32) → (Nat → Int32) → (Nat → Int32) → (Nat → Int32) → (Nat → Int32) → (Nat → Int32) → (Nat → Int32) → (Nat → Int32) → (Nat → Int32) → (Nat → Int64) → (Nat → Int32) → (Nat → Int32) → Prop} (hv : v < 320) (h120 : 120 ≤ v) (hw : w < 120)
    (e0 : a_part (v * 3 + 0) = nI p0) (e1 : a_part (v * 3 + 1) = nI p1) (e2 : a_part (v * 3 + 2) = nI p2) (l0 : F ≤ p0) (l1 : F ≤ p1) (l2 : F ≤ p2)
    (h : J55 (nI (v + 1)) a_text a_tokenCode a_tokenPlace a_frameCode a_framePlace a_operand a_defPlace a_defFirst a_defEnd a_nodeOp a_nodeNumber a_nodePlace a_nodeDepth a_nodeKind (upd (upd (upd a_part (w * 3 + 0) (nI (p0 + a - F))) (w * 3 + 1) (nI (p1 + a - F))) (w * 3 + 2) (nI (p2 + a - F))) a_size a_kindFound a_choice a_status a_result a_slotFunction a_slotArgument) :
    wX_install_103 post J2 J55 x1 (nI a - nI F) (nI v) (nI w) f_width f_textLength f_foundPlace f_tokenCount f_frameCount f_operandCount f_defCount f_nodeEnd 4 0 a_text a_tokenCode a_tokenPlace a_frameCode a_framePlace a_operand a_defPlace a_defFirst a_defEnd a_nodeOp a_nodeNumber a_nodePlace a_nodeDepth a_nodeKind a_part a_size a_kindFound a_choice a_status a_result a_slotFunction a_slotArgument := by
  have st : ∀ n j p (pt : Nat → Int32), j < 3 → pt (v * 3 + j) = nI p → F ≤ p → wX_install_103 post J2 J55 x1 (nI a - nI F) (nI v) (nI w) f_width f_textLength f_foundPlace f_tokenCount f_frameCount f_operandCount f_defCount f_nodeEnd n (nI (j + 1)) a_text a_tokenCode a_tokenPlace a_frameCode a_framePlace a_operand a_defPlace a_defFirst a_defEnd a_nodeOp a_nodeNumber a_nodePlace a_nodeDepth a_nodeKind (upd pt (w * 3 + j) (nI (p + a - F))) a_size a_kindFound a_choice a_status a_result a_slotFunction a_slotArgument →
      wX_install_103 post J2 J55 x1 (nI a - nI F) (nI v) (nI w) f_width f_textLength f_foundPlace f_tokenCount f_frameCount f_operandCount f_defCount f_nodeEnd (n + 1) (nI j) a_text a_tokenCode a_tokenPlace a_frameCode a_framePlace a_operand a_defPlace a_defFirst a_defEnd a_nodeOp a_nodeNumber a_nodePlace a_nodeDepth a_nodeKind pt a_size a_kindFound a_choice a_status a_result a_slotFunction a_slotArgument := by
    intro n j p pt hj hp hF g
    refine br_f (nI_ge (b := 3) hj (by decide)) ?_
    rw [ad_3, ad_3]
    refine ⟨vp_in_nI (by omega) (by decide), vp_in_nI (by omega) (by decide), fun A eA y ey => ?_⟩
    rw [nI_clamp (by omega), nI_clamp (by omega), hp, in_s hF] at eA
    rw [nI_1] at ey
    subst eA ey
    exact g
  refine st 3 0 p0 _ (by decide) e0 l0 (st 2 1 p1 _ (by decide) (by rw [pk_un (by omega)]; exact e1) l1 (st 1 2 p2 _ (by decide) (by rw [pk_un (by omega), pk_un (by omega)]; exact e2) l2 ?_))
  refine br_t (by decide) (fun y ey => ?_)
  rw [nI_1] at ey
  subst ey
  exact h
theorem in_55 (I : xm_I L tx Tk Q ds e a_text a_defPlace a_defFirst a_defEnd a_nodeOp a_nodeNumber a_nodePlace a_nodeDepth a_part) (H : np_H P Tk Q ds e) {i : Nat} {d : df_D} (hs : ds[i]? = some d) {post : SX → Prop} {J2 : Int32 → (Nat → Int32) → (Nat → Int32) → (Nat → Int32) → (Nat → Int32) → (Nat → Int32) → (Nat → Int32) → (Nat → Int32) → (Nat → Int32) → (Nat → Int32) → (Nat → Int32) → (Nat → Int32) → (Nat → Int32) → (Nat → Int32) → (Nat → Int32) → (Nat → Int32) → (Nat → Int32) → (Nat → Int32) → (Nat → Int32) → (Nat → Int32) → (Nat → Int64) → (Nat → Int32) → (Nat → Int32) → Prop}
    (h : ∀ no nn pt, in_R Q (mn_f Tk ds i) d.2.1 (d.2.2.1 - d.2.1) a_nodeOp a_nodeNumber a_part no nn pt → J2 (nI (i + 1)) a_text a_tokenCode a_tokenPlace a_frameCode a_framePlace a_operand a_defPlace a_defFirst a_defEnd no nn a_nodePlace a_nodeDepth a_nodeKind pt a_size a_kindFound a_choice a_status a_result a_slotFunction a_slotArgument) :
    ∃ n, wX_install_55 post J2 (nI i) (nI (mn_f Tk ds i * 24) - nI d.2.1) f_width f_textLength f_foundPlace f_tokenCount f_frameCount f_operandCount f_defCount f_nodeEnd n (nI d.2.1) a_text a_tokenCode a_tokenPlace a_frameCode a_framePlace a_operand a_defPlace a_defFirst a_defEnd a_nodeOp a_nodeNumber a_nodePlace a_nodeDepth a_nodeKind a_part a_size a_kindFound a_choice a_status a_result a_slotFunction a_slotArgument := by
  obtain ⟨il, f5, FE, s24, d120, de, nd⟩ := H.2.2.2 i d hs
  have e320 := I.2.2.2.2.2
  have dA := I.2.2.2.2.1 i d hs
  have b50 := xm_50 I.2.2.1 (by have := I.2.1.1; have := I.2.1.2.1; omega)
  have key : ∀ r v no nn pt, v + r = d.2.2.1 → d.2.1 ≤ v → in_R Q (mn_f Tk ds i) d.2.1 (v - d.2.1) a_nodeOp a_nodeNumber a_part no nn pt → ∀ n, r < n →
      wX_install_55 post J2 (nI i) (nI (mn_f Tk ds i * 24) - nI d.2.1) f_width f_textLength f_foundPlace f_tokenCount f_frameCount f_operandCount f_defCount f_nodeEnd n (nI v) a_text a_tokenCode a_tokenPlace a_frameCode a_framePlace a_operand a_defPlace a_defFirst a_defEnd no nn a_nodePlace a_nodeDepth a_nodeKind pt a_size a_kindFound a_choice a_status a_result a_slotFunction a_slotArgument := by
    intro r
    induction r with
    | zero =>
      intro v no nn pt hv hF R n hn
      obtain ⟨n, rfl⟩ : ∃ m, n = m + 1 := ⟨n - 1, by omega⟩
      have ev : v = d.2.2.1 := by omega
      subst ev
      refine ⟨vp_in_nI (by omega) (by decide), ?_⟩
      rw [nI_clamp (by omega), dA.2.2]
      refine br_t (nI_le (Nat.le_refl _) (by omega)) (fun y ey => ?_)
      rw [ey, nI_1]
      exact h no nn pt R
    | succ r ih =>
      intro v no nn pt hv hF R n hn
      obtain ⟨n, rfl⟩ : ∃ m, n = m + 1 := ⟨n - 1, by omega⟩
      refine ⟨vp_in_nI (by omega) (by decide), ?_⟩
      rw [nI_clamp (by omega), dA.2.2]
      refine br_f (nI_ge (by omega) (by omega)) (fun y ey => ?_)
      rw [in_s hF] at ey
      have eT : v + mn_f Tk ds i * 24 - d.2.1 = mn_f Tk ds i * 24 + (v - d.2.1) := by omega
      rw [eT] at ey
      subst ey
      have hin : vp_in (nI v) 320 := vp_in_nI (by omega) (by decide)
      have hit : vp_in (nI (mn_f Tk ds i * 24 + (v - d.2.1))) 320 := vp_in_nI (by omega) (by decide)
      obtain ⟨okk, _, _, rk⟩ := I.2.2.2.1.2 v (by omega) (by omega)
      obtain ⟨q1, q2, q3, ⟨q4, q5⟩, ⟨q6, q7⟩, ⟨q8, q9⟩, q10⟩ := nd v hF (by omega)
      obtain ⟨r1, r2, r3, r4, r5, r6, r7⟩ := rk
      obtain ⟨t1, t2, t3, t4, t5⟩ := R.2 v (by omega)
      refine ⟨hin, hit, fun A eA => ⟨hin, hit, fun B eB => ⟨4, ?_⟩⟩⟩
      rw [nI_clamp (by omega), nI_clamp (by omega)] at eA eB
      subst eA eB
      have ev : v = d.2.1 + (v - d.2.1) := (Nat.add_sub_of_le hF).symm
      clear q3
      refine in_103 (w := mn_f Tk ds i * 24 + (v - d.2.1)) (by omega) (by omega) (by omega) (t3.trans r5) (t4.trans r6) (t5.trans r7) q4 q6 q8 ?_
      have es : v - d.2.1 + 1 = v + 1 - d.2.1 := by omega
      refine ih (v + 1) _ _ _ (by omega) (by omega) (es ▸ in_Rs R ?_ ?_ ?_ ?_ ?_) n (by omega)
      · rw [← ev]; exact t1.trans r1
      · rw [← ev]; exact t2.trans r2
      · rw [← ev]
      · rw [← ev]
      · rw [← ev]
  exact ⟨_, key (d.2.2.1 - d.2.1) d.2.1 _ _ _ (by omega) (Nat.le_refl _) ⟨fun j hj => by omega, fun u _ => ⟨rfl, rfl, rfl, rfl, rfl⟩⟩ _ (Nat.lt_succ_self _)⟩
theorem in_X (I : xm_I L tx Tk Q ds e a_text a_defPlace a_defFirst a_defEnd a_nodeOp a_nodeNumber a_nodePlace a_nodeDepth a_part) (H : np_H P Tk Q ds e) (hX : xl_P P a_size a_nodeOp a_nodeNumber a_nodePlace a_part) {post : SX → Prop}
    (h : ∀ sz no nn pt, xl_P (np_P P Tk Q ds) sz no nn a_nodePlace pt → post (f_width, f_textLength, f_foundPlace, f_tokenCount, f_frameCount, f_operandCount, nI ds.length, f_nodeEnd, a_text, a_tokenCode, a_tokenPlace, a_frameCode, a_framePlace, a_operand, a_defPlace, a_defFirst, a_defEnd, no, nn, a_nodePlace, a_nodeDepth, a_nodeKind, pt, sz, a_kindFound, a_choice, a_status, a_result, a_slotFunction, a_slotArgument)) : wpX_install post (f_width, f_textLength, f_foundPlace, f_tokenCount, f_frameCount, f_operandCount, nI ds.length, f_nodeEnd, a_text, a_tokenCode, a_tokenPlace, a_frameCode, a_framePlace, a_operand, a_defPlace, a_defFirst, a_defEnd, a_nodeOp, a_nodeNumber, a_nodePlace, a_nodeDepth, a_nodeKind, a_part, a_size, a_kindFound, a_choice, a_status, a_result, a_slotFunction, a_slotArgument) := by
  have b50 := xm_50 I.2.2.1 (by have := I.2.1.1; have := I.2.1.2.1; omega)
  obtain ⟨p1, p2, p3, p4, p5⟩ := hX
  have key : ∀ r i sz no nn pt, i + r = ds.length → (∀ f, f < 5 → ((∃ j, j < i ∧ mn_f Tk ds j = f) → sz f = nI (np_P P Tk Q ds 5 f)) ∧ ((¬ ∃ j, j < i ∧ mn_f Tk ds j = f) → sz f = a_size f)) →
      (∀ u, ou_us (np_P P Tk Q ds) u → (∃ j, j < i ∧ mn_f Tk ds j = u / 24) → rl_nX (np_P P Tk Q ds) no nn pt u) → (∀ u, (¬ ∃ j, j < i ∧ mn_f Tk ds j = u / 24) → in_e u a_nodeOp a_nodeNumber a_part no nn pt) → ∀ n, r < n →
      wX_install_2 post f_width f_textLength f_foundPlace f_tokenCount f_frameCount f_operandCount (nI ds.length) f_nodeEnd n (nI i) a_text a_tokenCode a_tokenPlace a_frameCode a_framePlace a_operand a_defPlace a_defFirst a_defEnd no nn a_nodePlace a_nodeDepth a_nodeKind pt sz a_kindFound a_choice a_status a_result a_slotFunction a_slotArgument := by
    intro r
    induction r with
    | zero =>
      intro i sz no nn pt hi s1 s2 s3 n hn
      obtain ⟨n, rfl⟩ : ∃ m, n = m + 1 := ⟨n - 1, by omega⟩
      have ei : i = ds.length := by omega
      subst ei
      refine br_t (nI_le (Nat.le_refl _) (by omega)) (h sz no nn pt ?_)
      obtain ⟨k1, k2⟩ := np_ok H
      refine ⟨k1, k2, fun f hf => ?_, fun u hu => ?_, p5⟩
      · by_cases q : ∃ j, j < ds.length ∧ mn_f Tk ds j = f
        · exact (s1 f hf).1 q
        · rw [(s1 f hf).2 q, np_5n (np_n q)]; exact p3 f hf
      · rcases np_us H hu with ⟨j, d, h1, h2, h3, h4⟩ | ⟨h1, h2, h3⟩
        · exact s2 u hu ⟨j, (H.2.2.2 j d h1).1, h2⟩
        · obtain ⟨t1, t2, t3, t4, t5⟩ := s3 u h1
          obtain ⟨g1, g2, g3, g4, g5⟩ := p4 u h3
          unfold rl_nX
          rw [np_kn (k := 0) (by decide) h2, np_kn (k := 1) (by decide) h2, np_kn (k := 2) (by decide) h2, np_kn (k := 3) (by decide) h2, np_kn (k := 4) (by decide) h2]
          exact ⟨t1.trans g1, t2.trans g2, t3.trans g3, t4.trans g4, t5.trans g5⟩
    | succ r ih =>
      intro i sz no nn pt hi s1 s2 s3 n hn
      obtain ⟨n, rfl⟩ : ∃ m, n = m + 1 := ⟨n - 1, by omega⟩
      have il : i < ds.length := by omega
      have hs : ds[i]? = some ds[i] := List.getElem?_eq_getElem il
      generalize ds[i] = d at hs
      obtain ⟨_, f5, FE, s24, d120, de, nd⟩ := H.2.2.2 i d hs
      have f5a : ∀ j, j < ds.length → mn_f Tk ds j < 5 := fun j hj => (xm_f5 I hj).1
      have keep : ∀ u, 120 ≤ u → in_e u a_nodeOp a_nodeNumber a_part no nn pt := fun u hu => s3 u (fun ⟨j, j1, j2⟩ => by have := f5a j (by omega); omega)
      have I2 : xm_I L tx Tk Q ds e a_text a_defPlace a_defFirst a_defEnd no nn a_nodePlace a_nodeDepth pt := by
        obtain ⟨i1, i2, i3, i4, i5, i6⟩ := I
        refine ⟨i1, i2, i3, ⟨i4.1, fun u h1 h2 => ?_⟩, i5, i6⟩
        obtain ⟨g1, g2, g3, r1, r2, r3, r4, r5, r6, r7⟩ := i4.2 u h1 h2
        obtain ⟨t1, t2, t3, t4, t5⟩ := keep u h1
        exact ⟨g1, g2, g3, t1.trans r1, t2.trans r2, r3, r4, t3.trans r5, t4.trans r6, t5.trans r7⟩
      have dA := I.2.2.2.2.1 i d hs
      have hin : vp_in (nI i) 200 := vp_in_nI (by omega) (by decide)
      refine br_f (nI_ge il (by omega)) (xm_fn I2 il ⟨hin, fun y ey => ⟨hin, hin, vp_in_nI f5 (by decide), fun S eS => ⟨hin, fun z ez => ?_⟩⟩⟩)
      have e24 : nI (mn_f Tk ds i) * 24 = nI (mn_f Tk ds i * 24) := pk_mul _ 24
      rw [nI_clamp (by omega), dA.2.1, e24] at ey
      rw [nI_clamp (by omega), nI_clamp (by omega), dA.2.1, dA.2.2, pk_sub (by omega)] at eS
      rw [nI_clamp (by omega), dA.2.1] at ez
      subst ey eS ez
      refine in_55 I2 H hs (fun no2 nn2 pt2 R => ?_)
      have nw : ¬ ∃ j, j < i ∧ mn_f Tk ds j = mn_f Tk ds i := fun ⟨j, j1, j2⟩ => by have := H.2.2.1 j i (by omega) il j2; omega
      have hd := np_s H.2.2.1 hs
      refine ih (i + 1) _ no2 nn2 pt2 (by omega) (fun f hf => ⟨fun ⟨j, j1, j2⟩ => ?_, fun q => ?_⟩) (fun u hu ⟨j, j1, j2⟩ => ?_) (fun u q => ?_) n (by omega)
      · by_cases w : f = mn_f Tk ds i
        · subst w
          rw [pk_us, np_5s hd]
        · rw [pk_un w]
          exact (s1 f hf).1 ⟨j, by rcases Nat.lt_or_ge j i with z | z; exact z; exact absurd (by rw [← j2]; congr 1; omega) w, j2⟩
      · have w : f ≠ mn_f Tk ds i := fun w => q ⟨i, by omega, w.symm⟩
        rw [pk_un w]
        exact (s1 f hf).2 (fun ⟨j, j1, j2⟩ => q ⟨j, by omega, j2⟩)
      · by_cases w : u / 24 = mn_f Tk ds i
        · have hd2 : np_d Tk ds (u / 24) = some d := by rw [w]; exact hd
          have us := hu.2
          rw [w, np_5s hd] at us
          have em : mn_f Tk ds i * 24 + u % 24 = u := by omega
          have := R.1 (u % 24) us
          unfold in_r at this
          rw [em] at this
          unfold rl_nX
          rw [np_ks (k := 0) (by decide) hd2, np_ks (k := 1) (by decide) hd2, np_ks (k := 2) (by decide) hd2, np_ks (k := 3) (by decide) hd2, np_ks (k := 4) (by decide) hd2, w]
          exact this
        · obtain ⟨t1, t2, t3, t4, t5⟩ := R.2 u (by have := H.2.2.2 i d hs; omega)
          have ji : j < i := by rcases Nat.lt_or_ge j i with z | z; exact z; exact absurd (by rw [← j2]; congr 1; omega) w
          obtain ⟨g1, g2, g3, g4, g5⟩ := s2 u hu ⟨j, ji, j2⟩
          exact ⟨t1.trans g1, t2.trans g2, t3.trans g3, t4.trans g4, t5.trans g5⟩
      · have w : u / 24 ≠ mn_f Tk ds i := fun w => q ⟨i, by omega, w.symm⟩
        exact in_et (s3 u (fun ⟨j, j1, j2⟩ => q ⟨j, by omega, j2⟩)) (R.2 u (by omega))
  exact ⟨_, key ds.length 0 _ _ _ _ (by omega) (fun f _ => ⟨fun ⟨j, j1, _⟩ => absurd j1 (by omega), fun _ => rfl⟩) (fun u _ ⟨j, j1, _⟩ => absurd j1 (by omega)) (fun u _ => ⟨rfl, rfl, rfl, rfl, rfl⟩) _ (Nat.lt_succ_self _)⟩
end
