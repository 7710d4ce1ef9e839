-- LOAD on X
theorem ld_n1 {L : Nat} {tx : Nat → Nat} {Tk : List tz_T} (hK : xp_T L tx Tk) {i : Nat} (hi : i < Tk.length) (h : tt_k Tk i = 1) : tt_n Tk i < 1000000000 := by
  obtain ⟨h1, h2, h3, _⟩ := hK.2.2 i hi
  rw [h3]
  rw [h2] at h
  by_cases d : tz_dg (tx (tt_p Tk i)) = true
  · have hn : tz_nm tx L (tt_p Tk i) = tz_n tx (tt_p Tk i) (tz_end tx L (tt_p Tk i) - tt_p Tk i) := by unfold tz_nm; rw [if_pos d]
    have he := tz_el (tx := tx) h1
    have ee : tz_end tx L (tt_p Tk i) = tz_e tx L tz_dg (L + 1) (tt_p Tk i + 1) := by unfold tz_end; rw [if_pos d]
    have hR := tz_eR tx L tz_dg (L + 1) (tt_p Tk i + 1) (by omega)
    rw [← ee] at hR
    obtain ⟨r1, r2, r3⟩ := hR
    have l9 : tz_end tx L (tt_p Tk i) - tt_p Tk i ≤ 9 := by
      unfold tz_kd at h
      rw [if_pos d] at h
      by_cases q : tz_end tx L (tt_p Tk i) - tt_p Tk i ≤ 9
      · exact q
      · rw [if_neg q] at h; omega
    rw [hn]
    have b := tz_nb (tx := tx) (p := tt_p Tk i) (tz_end tx L (tt_p Tk i) - tt_p Tk i) (fun j hj => by
      by_cases z : j = 0
      · rw [z]; exact d
      · exact (r2 (tt_p Tk i + j) (by omega) (by omega)).2)
    exact Nat.lt_of_lt_of_le b (Nat.pow_le_pow_right (by decide) l9 : 10 ^ _ ≤ 10 ^ 9)
  · unfold tz_nm
    rw [if_neg d]
    unfold tz_kd at h
    rw [if_neg d] at h
    split
    · omega
    · omega
theorem ld_H {L : Nat} {tx : Nat → Nat} {Tk : List tz_T} {Q : Nat → Nat → Nat} {ds : List df_D} {e : Nat} {tt dp df de no nn np nd pt : Nat → Int32} {P : Nat → Nat → Nat} (I : xm_I L tx Tk Q ds e tt dp df de no nn np nd pt) (hP : pg_ok P) (hle : rl_le P)
    (ho : ck_R Q (mn_f Tk ds) ds none) (hu : uk_R Tk P (mn_f Tk ds) ds.length none) : np_H P Tk Q ds e := by
  have ho : ∀ i, i < ds.length → ck_f Q (mn_f Tk ds) ds i 1 := by
    rcases ho with ⟨_, q⟩ | ⟨_, _, q, _⟩
    · exact q
    · exact absurd q (by simp)
  have hu : ∀ i, i < Tk.length → ¬ uk_t Tk P (mn_f Tk ds) ds.length i := by
    rcases hu with ⟨_, q⟩ | ⟨_, q, _⟩
    · exact q
    · exact absurd q (by simp)
  have c1 : ∀ i d, i < ds.length → ds[i]? = some d → (¬ ∃ j, j < i ∧ mn_f Tk ds j = mn_f Tk ds i) ∧ d.2.2.1 - d.2.1 ≤ 24 := by
    intro i d hi hs
    obtain ⟨c, h1, h2⟩ := ho i hi
    rw [hs] at h1
    have := Option.some.inj h1
    subst this
    rcases h2 with ⟨_, q⟩ | ⟨a, ⟨_, q⟩ | ⟨b, _⟩⟩
    · omega
    · omega
    · exact ⟨a, by omega⟩
  refine ⟨hP, hle, fun i j hi hj he => ?_, fun i d hs => ?_⟩
  · have si : ds[i]? = some ds[i] := List.getElem?_eq_getElem hi
    have sj : ds[j]? = some ds[j] := List.getElem?_eq_getElem hj
    rcases Nat.lt_trichotomy i j with w | w | w
    · exact absurd ⟨i, w, he⟩ (c1 j _ hj sj).1
    · exact w
    · exact absurd ⟨j, w, he.symm⟩ (c1 i _ hi si).1
  · have il : i < ds.length := by
      rcases Nat.lt_or_ge i ds.length with w | w
      · exact w
      · rw [List.getElem?_eq_none w] at hs; exact absurd hs (by simp)
    obtain ⟨f5, d2, hs2, hD, dT, sT, d120, de2, fe⟩ := xm_f5 I il
    rw [hs] at hs2
    have := Option.some.inj hs2
    subst this
    obtain ⟨⟨s1, s2, s3⟩, s4⟩ := tb_S I hs
    refine ⟨il, f5, s1, (c1 i d il hs).2, d120, de2, fun u h1 h2 => ?_⟩
    obtain ⟨n1, n2, n3, n4, n5, n6, n7, n8⟩ := s3 u h1 h2
    obtain ⟨okk, _, p9, rk⟩ := I.2.2.2.1.2 u (by omega) (by omega)
    have k13 := nd_13 okk.1
    refine ⟨n2.1, fun q => ?_, fun q => ⟨n2.2.1 q, ?_⟩, ⟨n5, n2.2.2.1⟩, ⟨n6, n2.2.2.2.1⟩, ⟨n7, n2.2.2.2.2⟩, n8⟩
    · rw [okk.2.2.1]
      refine ld_n1 I.2.1 p9 ?_
      rcases okk.1 with ⟨g1, g2, _⟩ | ⟨g1, _⟩ | ⟨g1, _⟩ | ⟨g1, _⟩ | ⟨g1, _⟩ | ⟨g1, _⟩
      · rw [g2]; exact q
      all_goals omega
    · rw [okk.2.2.1]
      have nu := hu _ p9
      by_cases w : ∃ j, j < ds.length ∧ mn_f Tk ds j = tt_n Tk (Q 9 u)
      · exact Or.inl w
      · refine Or.inr (Nat.pos_of_ne_zero (fun z => nu ⟨k13.mp q, w, z⟩))
theorem ld_V {L : Nat} {tx : Nat → Nat} {Tk : List tz_T} {Q : Nat → Nat → Nat} {ds : List df_D} {e : Nat} {tt dp df de no nn np nd pt : Nat → Int32} {P : Nat → Nat → Nat} (I : xm_I L tx Tk Q ds e tt dp df de no nn np nd pt) (H : np_H P Tk Q ds e)
    (hc : cl_R (fun c => la_ok P (fun f => ∃ i, i < ds.length ∧ mn_f Tk ds i = f) (ki_c c)) (fun c => tb_R Tk Q ds e (ki_c c)) none) : ∃ c, c < 243 ∧ rl_V (np_P P Tk Q ds) c := by
  rcases hc with ⟨_, c, c1, c2, c3⟩ | ⟨_, q, _⟩
  · refine ⟨c, c1, np_v H c2 (fun p hp => ?_)⟩
    have a := tb_200 I p hp
    have b := c3.2.1 p hp
    omega
  · exact absurd q (by simp)
theorem ld_c {Tk : List tz_T} {Q : Nat → Nat → Nat} {ds : List df_D} {i r : Nat} (ho : ck_R Q (mn_f Tk ds) ds (some (i, r))) : r = 4 ∨ r = 5 ∨ r = 6 := by
  rcases ho with ⟨q, _⟩ | ⟨i2, r2, q, _, n1, ⟨d, _, h⟩, _⟩
  · exact absurd q (by simp)
  · have := Prod.mk.inj (Option.some.inj q)
    obtain ⟨rfl, rfl⟩ := this
    rcases h with ⟨_, h⟩ | ⟨_, ⟨_, h⟩ | ⟨_, ⟨_, h⟩ | ⟨_, h⟩⟩⟩ <;> omega
section
variable {f_width f_textLength f_foundPlace f_tokenCount f_frameCount f_operandCount f_defCount f_nodeEnd : Int32} {a_text a_tokenCode a_tokenPlace a_frameCode a_framePlace a_operand a_defPlace a_defFirst a_defEnd a_nodeOp a_nodeNumber a_nodePlace a_nodeDepth a_nodeKind a_part a_size a_kindFound a_choice a_status : Nat → Int32} {a_result : Nat → Int64} {a_slotFunction a_slotArgument : Nat → Int32} {L : Nat} {tx : Nat → Nat} {Tk : List tz_T} {Q : Nat → Nat → Nat} {ds : List df_D} {e : Nat} {P : Nat → Nat → Nat}
theorem ld_15 (I : xm_I L tx Tk Q ds e a_text a_defPlace a_defFirst a_defEnd a_nodeOp a_nodeNumber a_nodePlace a_nodeDepth a_part) (hX : xl_P P a_size a_nodeOp a_nodeNumber a_nodePlace a_part) (hw : f_width = nI (P 6 0))
    (hmo : ∀ i j, i < j → j < Tk.length → tt_p Tk i < tt_p Tk j) {o : Option (Nat × Nat)} (ho : ck_R Q (mn_f Tk ds) ds o) {o2 : Option Nat} (hu : uk_R Tk P (mn_f Tk ds) ds.length o2) {o3 : Option Nat}
    (hc : cl_R (fun c => la_ok P (fun f => ∃ i, i < ds.length ∧ mn_f Tk ds i = f) (ki_c c)) (fun c => tb_R Tk Q ds e (ki_c c)) o3) {post : Int32 → SX → Prop}
    (b1 : ∀ i r, o = some (i, r) → ∀ d, ds[i]? = some d → post (nI r) (f_width, f_textLength, nI (tt_p Tk d.1), f_tokenCount, f_frameCount, f_operandCount, nI ds.length, nI e, a_text, a_tokenCode, a_tokenPlace, a_frameCode, a_framePlace, a_operand, a_defPlace, a_defFirst, a_defEnd, a_nodeOp, a_nodeNumber, a_nodePlace, a_nodeDepth, a_nodeKind, a_part, a_size, a_kindFound, a_choice, a_status, a_result, a_slotFunction, a_slotArgument))
    (b2 : o = none → ∀ i, o2 = some i → post 7 (f_width, f_textLength, nI (tt_p Tk i), f_tokenCount, f_frameCount, f_operandCount, nI ds.length, nI e, a_text, a_tokenCode, a_tokenPlace, a_frameCode, a_framePlace, a_operand, a_defPlace, a_defFirst, a_defEnd, a_nodeOp, a_nodeNumber, a_nodePlace, a_nodeDepth, a_nodeKind, a_part, a_size, a_kindFound, a_choice, a_status, a_result, a_slotFunction, a_slotArgument))
    (b3 : o = none → o2 = none → ∀ m, o3 = some m → ∀ nk ch, post 8 (f_width, f_textLength, nI m, f_tokenCount, f_frameCount, f_operandCount, nI ds.length, nI e, a_text, a_tokenCode, a_tokenPlace, a_frameCode, a_framePlace, a_operand, a_defPlace, a_defFirst, a_defEnd, a_nodeOp, a_nodeNumber, a_nodePlace, a_nodeDepth, nk, a_part, a_size, a_kindFound, ch, a_status, a_result, a_slotFunction, a_slotArgument))
    (b4 : o = none → o2 = none → o3 = none → ∀ sz no nn pt kf nk ch st re, xl_P (np_P P Tk Q ds) sz no nn a_nodePlace pt → (∀ f, f < 5 → ∃ r, kf f = nI r ∧ ki_r (rl_V (np_P P Tk Q ds)) 243 f r) → rl_tX (np_P P Tk Q ds) (ou_E (np_P P Tk Q ds)) st re →
      post 1 (f_width, 0, -1, f_tokenCount, f_frameCount, f_operandCount, nI ds.length, nI e, a_text, a_tokenCode, a_tokenPlace, a_frameCode, a_framePlace, a_operand, a_defPlace, a_defFirst, a_defEnd, no, nn, a_nodePlace, a_nodeDepth, nk, pt, sz, kf, ch, st, re, a_slotFunction, a_slotArgument)) :
    wX_load_15 post 1 f_width f_textLength f_foundPlace f_tokenCount f_frameCount f_operandCount (nI ds.length) (nI e) a_text a_tokenCode a_tokenPlace a_frameCode a_framePlace a_operand a_defPlace a_defFirst a_defEnd a_nodeOp a_nodeNumber a_nodePlace a_nodeDepth a_nodeKind a_part a_size a_kindFound a_choice a_status a_result a_slotFunction a_slotArgument := by
  refine br_t rfl (xm_defs I ho (fun q => ?_) (fun i r q d hs => ?_))
  · refine br_t rfl (xm_calls I hX.2.2.1 hX.1.2.2.1 hmo hu (fun q2 => ?_) (fun i q2 => ?_))
    · refine br_t rfl (ck_X I hmo hX hc (fun q3 nk ch => ?_) (fun m q3 nk ch => ?_))
      · subst q q2 q3
        have H := ld_H I hX.1 hX.2.1 ho hu
        obtain ⟨c0, c1, c2⟩ := ld_V I H hc
        refine br_t rfl (in_X I H hX (fun sz no nn pt xl => ?_))
        refine fk_X xl (fun kf nk2 ch2 hk => ?_)
        refine fo_X xl (by rw [np_6]; exact hw) c2 (fun st re ht => ?_)
        exact b4 rfl rfl rfl sz no nn pt kf nk2 ch2 st re xl hk ht
      · exact br_f (by decide) (b3 q q2 m q3 nk ch)
    · exact br_f (by decide) (br_f (by decide) (b2 q i q2))
  · subst q
    have rr := ld_c ho
    have n1 : nI r ≠ 1 := fun q => by have := (nI_eq (a := r) (b := 1) (by omega) (by decide)).mp q; omega
    exact br_f n1 (br_f n1 (br_f n1 (b1 i r rfl d hs)))
end
