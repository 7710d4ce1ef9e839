-- X checks the defs and the calls
def xm_A (Tk : List tz_T) (ds : List df_D) (dp df de : Nat → Int32) : Prop := ∀ (i : Nat) (d : df_D), ds[i]? = some d → dp i = nI (tt_p Tk d.1) ∧ df i = nI d.2.1 ∧ de i = nI d.2.2.1
def xm_I (L : Nat) (tx : Nat → Nat) (Tk : List tz_T) (Q : Nat → Nat → Nat) (ds : List df_D) (e : Nat) (tt dp df de no nn np nd pt : Nat → Int32) : Prop :=
  tx_P L tx tt ∧ xp_T L tx Tk ∧ md_F (tt_k Tk) Q ds 0 120 Tk.length e ∧ xp_N Tk Q e no nn np nd pt ∧ xm_A Tk ds dp df de ∧ e ≤ 320
theorem xm_f5 {L : Nat} {tx : Nat → Nat} {Tk : List tz_T} {Q : Nat → Nat → Nat} {ds : List df_D} {e : Nat} {tt dp df de no nn np nd pt : Nat → Int32} (I : xm_I L tx Tk Q ds e tt dp df de no nn np nd pt) {i : Nat} (hi : i < ds.length) :
    mn_f Tk ds i < 5 ∧ ∃ d, ds[i]? = some d ∧ md_D (tt_k Tk) Q d ∧ d.1 < Tk.length ∧ d.2.2.2 < Tk.length ∧ 120 ≤ d.2.1 ∧ d.2.2.1 ≤ e ∧ mn_f Tk ds i = tt_n Tk d.1 := by
  obtain ⟨i1, i2, i3, i4, i5, i6⟩ := I
  have hs : ds[i]? = some ds[i] := List.getElem?_eq_getElem hi
  obtain ⟨q1, q2, q3, q4, q5⟩ := md_i ds _ _ _ _ i3 i _ hs
  have := q1.2.2.2.2.2.1.1
  refine ⟨by rw [mn_s hs]; exact xp_n5 i1 i2 (by omega) q1.1, _, hs, q1, by omega, q3, q4, q5, mn_s hs⟩
theorem xm_50 {tk : Nat → Nat} {Q : Nat → Nat → Nat} {ds : List df_D} {T e : Nat} (h : md_F tk Q ds 0 120 T e) (hT : T ≤ 200) : ds.length ≤ 50 := by
  have := md_le _ _ _ _ _ h; omega
section
variable {f_width f_textLength f_foundPlace f_tokenCount f_frameCount f_operandCount f_defCount f_nodeEnd : Int32} {a_text a_tokenCode a_tokenPlace a_frameCode a_framePlace a_operand a_defPlace a_defFirst a_defEnd a_nodeOp a_nodeNumber a_nodePlace a_nodeDepth a_nodeKind a_part a_size a_kindFound a_choice a_status : Nat → Int32} {a_result : Nat → Int64} {a_slotFunction a_slotArgument : Nat → Int32} {L : Nat} {tx : Nat → Nat} {Tk : List tz_T} {Q : Nat → Nat → Nat} {ds : List df_D} {e : Nat}
theorem xm_fn (I : xm_I L tx Tk Q ds e a_text a_defPlace a_defFirst a_defEnd a_nodeOp a_nodeNumber a_nodePlace a_nodeDepth a_part) {i : Nat} (hi : i < ds.length) {post : Int32 → Prop} (h : post (nI (mn_f Tk ds i))) : wpX_functionOfDef post (f_width, f_textLength, f_foundPlace, f_tokenCount, f_frameCount, f_operandCount, f_defCount, f_nodeEnd, a_text, a_tokenCode, a_tokenPlace, a_frameCode, a_framePlace, a_operand, a_defPlace, a_defFirst, a_defEnd, a_nodeOp, a_nodeNumber, a_nodePlace, a_nodeDepth, a_nodeKind, a_part, a_size, a_kindFound, a_choice, a_status, a_result, a_slotFunction, a_slotArgument) (nI i) := by
  obtain ⟨f5, d, hs, hD, dT, sT, d120, de, fe⟩ := xm_f5 I hi
  obtain ⟨i1, i2, i3, i4, i5, i6⟩ := I
  have b := xm_50 i3 (by have := i2.1; have := i2.2.1; omega)
  obtain ⟨pL, _, _, _, _⟩ := i2.2.2 d.1 dT
  have L2 := i2.2.1
  refine ⟨vp_in_nI (by omega) (by decide), ?_⟩
  rw [nI_clamp (by omega), (i5 i d hs).1]
  refine ⟨vp_in_nI (by omega) (by decide), ?_⟩
  rw [nI_clamp (by omega), (i1.2 _ pL).1]
  obtain ⟨w1, w2⟩ := xp_nn i2 (i := d.1) (t := 13) dT ⟨fun _ => hD.1, fun _ => rfl⟩
  have : ad_nn L tx 13 (tt_p Tk d.1) = tx (tt_p Tk d.1) - 65 := rfl
  have hsub : nI (tx (tt_p Tk d.1)) - 65 = nI (tx (tt_p Tk d.1) - 65) := pk_sub (b := 65) (w2 rfl)
  rw [hsub, ← this, w1, ← fe]
  exact h
theorem xm_large (I : xm_I L tx Tk Q ds e a_text a_defPlace a_defFirst a_defEnd a_nodeOp a_nodeNumber a_nodePlace a_nodeDepth a_part) {F E : Nat} (hF : 120 ≤ F) (hFE : F ≤ E) (hE : E ≤ e) {post : Int32 → Prop}
    (h1 : (24 < E - F ∨ 3 < ck_n Q E - ck_n Q F) → post 1) (h0 : ¬ (24 < E - F ∨ 3 < ck_n Q E - ck_n Q F) → post 0) : wpX_isLarge post (f_width, f_textLength, f_foundPlace, f_tokenCount, f_frameCount, f_operandCount, f_defCount, f_nodeEnd, a_text, a_tokenCode, a_tokenPlace, a_frameCode, a_framePlace, a_operand, a_defPlace, a_defFirst, a_defEnd, a_nodeOp, a_nodeNumber, a_nodePlace, a_nodeDepth, a_nodeKind, a_part, a_size, a_kindFound, a_choice, a_status, a_result, a_slotFunction, a_slotArgument) (nI F) (nI E) := by
  obtain ⟨i1, i2, i3, i4, i5, i6⟩ := I
  have es : nI E - nI F = nI (E - F) := pk_sub hFE
  have mono : ∀ n, ck_n Q n ≤ n := fun n => ct_le _ _
  have key : ∀ d k x, k + d = E → F ≤ k → x + ck_n Q F = ck_n Q k → ∀ n, d < n → wX_isLarge_5 post (nI F) (nI E) f_width f_textLength f_foundPlace f_tokenCount f_frameCount f_operandCount f_defCount f_nodeEnd a_text a_tokenCode a_tokenPlace a_frameCode a_framePlace a_operand a_defPlace a_defFirst a_defEnd a_nodeOp a_nodeNumber a_nodePlace a_nodeDepth a_nodeKind a_part a_size a_kindFound a_choice a_status a_result a_slotFunction a_slotArgument n (nI x) (nI k) := by
    intro d
    induction d with
    | zero =>
      intro k x hk hFk hx n hn
      obtain ⟨n, rfl⟩ : ∃ m, n = m + 1 := ⟨n - 1, by omega⟩
      have ek : k = E := by omega
      subst ek
      have := mono k
      refine br_t (nI_le (Nat.le_refl _) (by omega)) ?_
      rw [es]
      refine pk_lt 24 (k - F) (fun c => h1 (Or.inl c)) (fun c => pk_le x 3 (fun c2 => h0 (by omega)) (fun c2 => h1 (by omega)))
    | succ d ih =>
      intro k x hk hFk hx n hn
      obtain ⟨n, rfl⟩ : ∃ m, n = m + 1 := ⟨n - 1, by omega⟩
      obtain ⟨okk, _, _, rk⟩ := i4.2 k (by omega) (by omega)
      have st : ck_n Q (k + 1) = ck_n Q k + (if (Q 0 k == 24) = true then 1 else 0) := rfl
      have bd : Q 0 k < 34 := by
        rcases okk.1 with g | ⟨g1, _⟩ | ⟨g1, _⟩ | ⟨g1, _⟩ | ⟨g1, _⟩ | ⟨g1, _⟩ <;> omega
      have tb := ad_tb _ bd
      have i58 : ∀ c, c < 34 → (xc_t c = 58 ↔ c = 24) := by decide
      refine br_f (nI_ge (by omega) (by omega)) ⟨vp_in_nI (by omega) (by decide), ?_⟩
      rw [nI_clamp (by omega), rk.1]
      refine pk_eq (xc_t (Q 0 k)) 58 (fun c => fun y ey z ez => ?_) (fun c => fun z ez => ?_)
      · have c24 := (i58 _ bd).mp c
        rw [nI_1] at ey ez
        subst ey ez
        rw [if_pos (by rw [c24]; rfl)] at st
        exact ih (k + 1) (x + 1) (by omega) (by omega) (by omega) n (by omega)
      · have c24 : ¬ Q 0 k = 24 := fun q => c ((i58 _ bd).mpr q)
        rw [nI_1] at ez
        subst ez
        rw [if_neg (by simpa using c24)] at st
        exact ih (k + 1) x (by omega) (by omega) (by omega) n (by omega)
  exact ⟨_, key (E - F) F 0 (by omega) (Nat.le_refl _) (by omega) _ (Nat.lt_succ_self _)⟩
theorem xm_defs (I : xm_I L tx Tk Q ds e a_text a_defPlace a_defFirst a_defEnd a_nodeOp a_nodeNumber a_nodePlace a_nodeDepth a_part) {o : Option (Nat × Nat)} (hR : ck_R Q (mn_f Tk ds) ds o) {post : Int32 → SX → Prop}
    (h1 : o = none → post 1 (f_width, f_textLength, f_foundPlace, f_tokenCount, f_frameCount, f_operandCount, nI ds.length, f_nodeEnd, a_text, a_tokenCode, a_tokenPlace, a_frameCode, a_framePlace, a_operand, a_defPlace, a_defFirst, a_defEnd, a_nodeOp, a_nodeNumber, a_nodePlace, a_nodeDepth, a_nodeKind, a_part, a_size, a_kindFound, a_choice, a_status, a_result, a_slotFunction, a_slotArgument)) (h2 : ∀ i r, o = some (i, r) → ∀ d, ds[i]? = some d → post (nI r) (f_width, f_textLength, nI (tt_p Tk d.1), f_tokenCount, f_frameCount, f_operandCount, nI ds.length, f_nodeEnd, a_text, a_tokenCode, a_tokenPlace, a_frameCode, a_framePlace, a_operand, a_defPlace, a_defFirst, a_defEnd, a_nodeOp, a_nodeNumber, a_nodePlace, a_nodeDepth, a_nodeKind, a_part, a_size, a_kindFound, a_choice, a_status, a_result, a_slotFunction, a_slotArgument)) : wpX_checkDefs post (f_width, f_textLength, f_foundPlace, f_tokenCount, f_frameCount, f_operandCount, nI ds.length, f_nodeEnd, a_text, a_tokenCode, a_tokenPlace, a_frameCode, a_framePlace, a_operand, a_defPlace, a_defFirst, a_defEnd, a_nodeOp, a_nodeNumber, a_nodePlace, a_nodeDepth, a_nodeKind, a_part, a_size, a_kindFound, a_choice, a_status, a_result, a_slotFunction, a_slotArgument) := by
  have b50 := xm_50 I.2.2.1 (by have := I.2.1.1; have := I.2.1.2.1; omega)
  have f5 : ∀ i, i < ds.length → mn_f Tk ds i < 5 := fun i hi => (xm_f5 I hi).1
  have stop : ∀ i r d, i < ds.length → (∀ j, j < i → ck_f Q (mn_f Tk ds) ds j 1) → r ≠ 1 → ck_f Q (mn_f Tk ds) ds i r → ds[i]? = some d → post (nI r) (f_width, f_textLength, nI (tt_p Tk d.1), f_tokenCount, f_frameCount, f_operandCount, nI ds.length, f_nodeEnd, a_text, a_tokenCode, a_tokenPlace, a_frameCode, a_framePlace, a_operand, a_defPlace, a_defFirst, a_defEnd, a_nodeOp, a_nodeNumber, a_nodePlace, a_nodeDepth, a_nodeKind, a_part, a_size, a_kindFound, a_choice, a_status, a_result, a_slotFunction, a_slotArgument) := by
    intro i r d hi hj hr hc hs
    rcases hR with ⟨q1, q2⟩ | ⟨i2, r2, q1, q2, q3, q4, q5⟩
    · exact absurd (ck_u hc (q2 i hi)) hr
    · have : i = i2 := by
        rcases Nat.lt_trichotomy i i2 with w | w | w
        · exact absurd (ck_u hc (q5 i w)) hr
        · exact w
        · exact absurd (ck_u q4 (hj i2 w)) q3
      subst this
      rw [ck_u hc q4]
      exact h2 i r2 q1 d hs
  have key : ∀ d i, i + d = ds.length → (∀ j, j < i → ck_f Q (mn_f Tk ds) ds j 1) → ∀ n, d < n → wX_checkDefs_4 post f_width f_textLength f_foundPlace f_tokenCount f_frameCount f_operandCount (nI ds.length) f_nodeEnd a_text a_tokenCode a_tokenPlace a_frameCode a_framePlace a_operand a_defPlace a_defFirst a_defEnd a_nodeOp a_nodeNumber a_nodePlace a_nodeDepth a_nodeKind a_part a_size a_kindFound a_choice a_status a_result a_slotFunction a_slotArgument n (nI (mn_m (mn_f Tk ds) i)) (nI i) := by
    intro d
    induction d with
    | zero =>
      intro i hi hj n hn
      obtain ⟨n, rfl⟩ : ∃ m, n = m + 1 := ⟨n - 1, by omega⟩
      have ei : i = ds.length := by omega
      subst ei
      refine br_t (nI_le (Nat.le_refl _) (by omega)) (h1 ?_)
      rcases hR with ⟨q1, q2⟩ | ⟨i2, r2, q1, q2, q3, q4, q5⟩
      · exact q1
      · exact absurd (ck_u q4 (hj i2 q2)) q3
    | succ dd ih =>
      intro i hi hj n hn
      obtain ⟨n, rfl⟩ : ∃ m, n = m + 1 := ⟨n - 1, by omega⟩
      have il : i < ds.length := by omega
      obtain ⟨fi5, d, hs, hD, dT, sT, d120, de, fe⟩ := xm_f5 I il
      obtain ⟨m32, mb⟩ := mn_b (f := mn_f Tk ds) i (fun j hj => f5 j (by omega))
      have hin : vp_in (nI i) 200 := vp_in_nI (by omega) (by decide)
      have dA := I.2.2.2.2.1 i d hs
      have FE := hD.2.2.2.2.2.2.2.1
      have e320 := I.2.2.2.2.2
      refine br_f (nI_ge il (by omega)) (xm_fn I il (fun b eb => ?_))
      subst eb
      refine br_c (fun c => ?_) (fun c => ⟨hin, ?_⟩)
      · rw [mn_1 _ m32 _ fi5] at c
        have nd : ¬ ∃ j, j < i ∧ mn_f Tk ds j = mn_f Tk ds i := fun q => by rw [(mb _ fi5).mpr q] at c; exact absurd c (by decide)
        intro x ex
        rw [mn_2 _ m32 _ fi5] at ex
        subst ex
        refine ⟨hin, hin, ?_⟩
        rw [nI_clamp (by omega), dA.2.1, dA.2.2]
        refine xm_large I d120 (by omega) de (fun c2 => bq_1 ⟨hin, ?_⟩) (fun c2 => br_t rfl ⟨hin, ?_⟩)
        · rw [dA.1]
          exact stop i 5 d il hj (by decide) ⟨d, hs, Or.inr ⟨nd, Or.inl ⟨c2, rfl⟩⟩⟩ hs
        · have e1 : nI d.2.2.1 - 1 = nI (d.2.2.1 - 1) := pk_sub (b := 1) (by omega)
          rw [e1]
          refine ⟨vp_in_nI (by omega) (by decide), ?_⟩
          obtain ⟨_, dq, _, rq⟩ := I.2.2.2.1.2 (d.2.2.1 - 1) (by omega) (by omega)
          rw [nI_clamp (by omega), rq.2.2.2.1]
          refine pk_le (Q 11 (d.2.2.1 - 1)) 8 (fun c3 => fun y ey => ?_) (fun c3 => ⟨hin, ?_⟩)
          · rw [ey, nI_1]
            refine ih (i + 1) (by omega) (fun j hj2 => ?_) n (by omega)
            by_cases q : j = i
            · subst q
              exact ⟨d, hs, Or.inr ⟨nd, Or.inr ⟨c2, Or.inr ⟨by omega, rfl⟩⟩⟩⟩
            · exact hj j (by omega)
          · rw [dA.1]
            exact stop i 6 d il hj (by decide) ⟨d, hs, Or.inr ⟨nd, Or.inr ⟨c2, Or.inl ⟨c3, rfl⟩⟩⟩⟩ hs
      · rw [mn_1 _ m32 _ fi5] at c
        have yd : ∃ j, j < i ∧ mn_f Tk ds j = mn_f Tk ds i := (mb _ fi5).mp (by simpa using c)
        rw [nI_clamp (by omega), dA.1]
        exact stop i 4 d il hj (by decide) ⟨d, hs, Or.inl ⟨yd, rfl⟩⟩ hs
  exact ⟨_, key ds.length 0 (by omega) (fun j hj => by omega) _ (Nat.lt_succ_self _)⟩
theorem xm_names (I : xm_I L tx Tk Q ds e a_text a_defPlace a_defFirst a_defEnd a_nodeOp a_nodeNumber a_nodePlace a_nodeDepth a_part) {post : Int32 → Prop} (h : post (nI (mn_m (mn_f Tk ds) ds.length))) : wpX_namesOfText post (f_width, f_textLength, f_foundPlace, f_tokenCount, f_frameCount, f_operandCount, nI ds.length, f_nodeEnd, a_text, a_tokenCode, a_tokenPlace, a_frameCode, a_framePlace, a_operand, a_defPlace, a_defFirst, a_defEnd, a_nodeOp, a_nodeNumber, a_nodePlace, a_nodeDepth, a_nodeKind, a_part, a_size, a_kindFound, a_choice, a_status, a_result, a_slotFunction, a_slotArgument) := by
  have b50 := xm_50 I.2.2.1 (by have := I.2.1.1; have := I.2.1.2.1; omega)
  have f5 : ∀ i, i < ds.length → mn_f Tk ds i < 5 := fun i hi => (xm_f5 I hi).1
  have key : ∀ d i, i + d = ds.length → ∀ n, d < n → wX_namesOfText_4 post f_width f_textLength f_foundPlace f_tokenCount f_frameCount f_operandCount (nI ds.length) f_nodeEnd a_text a_tokenCode a_tokenPlace a_frameCode a_framePlace a_operand a_defPlace a_defFirst a_defEnd a_nodeOp a_nodeNumber a_nodePlace a_nodeDepth a_nodeKind a_part a_size a_kindFound a_choice a_status a_result a_slotFunction a_slotArgument n (nI (mn_m (mn_f Tk ds) i)) (nI i) := by
    intro d
    induction d with
    | zero =>
      intro i hi n hn
      obtain ⟨n, rfl⟩ : ∃ m, n = m + 1 := ⟨n - 1, by omega⟩
      have ei : i = ds.length := by omega
      subst ei
      exact br_t (nI_le (Nat.le_refl _) (by omega)) h
    | succ d ih =>
      intro i hi n hn
      obtain ⟨n, rfl⟩ : ∃ m, n = m + 1 := ⟨n - 1, by omega⟩
      have il : i < ds.length := by omega
      obtain ⟨m32, mb⟩ := mn_b (f := mn_f Tk ds) i (fun j hj => f5 j (by omega))
      refine br_f (nI_ge il (by omega)) (xm_fn I il (fun b eb y ey => ?_))
      rw [mn_2 _ m32 _ (f5 i il)] at eb
      rw [nI_1] at ey
      subst eb ey
      exact ih (i + 1) (by omega) n (by omega)
  exact ⟨_, key ds.length 0 (by omega) _ (Nat.lt_succ_self _)⟩
-- unknown calls
def uk_v (Tk : List tz_T) : Option Nat → Nat
  | none => 201
  | some i => tt_p Tk i
theorem uk_nt (I : xm_I L tx Tk Q ds e a_text a_defPlace a_defFirst a_defEnd a_nodeOp a_nodeNumber a_nodePlace a_nodeDepth a_part) {P : Nat → Nat → Nat} {i : Nat} (hi : i < Tk.length) (hu : uk_t Tk P (mn_f Tk ds) ds.length i) : ∃ u, 120 ≤ u ∧ u < e ∧ Q 9 u = i := by
  obtain ⟨i1, i2, i3, i4, i5, i6⟩ := I
  obtain ⟨u1, u2, u3⟩ := hu
  obtain ⟨c, d, hs, d1, d2⟩ := md_t ds _ _ _ _ i3 i (by omega) hi
  obtain ⟨q1, q2, q3, q4, q5⟩ := md_i ds _ _ _ _ i3 c d hs
  obtain ⟨p1, p2, p3, p4, p5, p6, p7, p8, p9⟩ := q1
  have cl : c < ds.length := by
    rcases Nat.lt_or_ge c ds.length with q | q
    · exact q
    · rw [List.getElem?_eq_none q] at hs; exact absurd hs (by simp)
  have n1 : i ≠ d.1 := fun q => u2 ⟨c, cl, by rw [mn_s hs, q]⟩
  have n2 : i ≠ d.1 + 1 := fun q => by rw [q, p2] at u1; omega
  have n3 : i ≠ d.2.2.2 := fun q => by rw [q, p3] at u1; omega
  obtain ⟨v, v1, v2, v3⟩ := bf_nm (tn := tt_n Tk) (F := 120) (d.2.2.1 - 1) (by omega) (fun v h1 h2 => (i4.2 v h1 (by omega)).1) (by omega) _ _ p5 i (by omega) (by omega) u1
  exact ⟨v, by omega, by omega, v3⟩
theorem xm_calls (I : xm_I L tx Tk Q ds e a_text a_defPlace a_defFirst a_defEnd a_nodeOp a_nodeNumber a_nodePlace a_nodeDepth a_part) {P : Nat → Nat → Nat} (hsz : ∀ f, f < 5 → a_size f = nI (P 5 f)) (hP24 : ∀ f, P 5 f ≤ 24)
    (hmo : ∀ i j, i < j → j < Tk.length → tt_p Tk i < tt_p Tk j) {o : Option Nat} (hR : uk_R Tk P (mn_f Tk ds) ds.length o) {post : Int32 → SX → Prop}
    (h1 : o = none → post 1 (f_width, f_textLength, f_foundPlace, f_tokenCount, f_frameCount, f_operandCount, nI ds.length, nI e, a_text, a_tokenCode, a_tokenPlace, a_frameCode, a_framePlace, a_operand, a_defPlace, a_defFirst, a_defEnd, a_nodeOp, a_nodeNumber, a_nodePlace, a_nodeDepth, a_nodeKind, a_part, a_size, a_kindFound, a_choice, a_status, a_result, a_slotFunction, a_slotArgument)) (h2 : ∀ i, o = some i → post 7 (f_width, f_textLength, nI (tt_p Tk i), f_tokenCount, f_frameCount, f_operandCount, nI ds.length, nI e, a_text, a_tokenCode, a_tokenPlace, a_frameCode, a_framePlace, a_operand, a_defPlace, a_defFirst, a_defEnd, a_nodeOp, a_nodeNumber, a_nodePlace, a_nodeDepth, a_nodeKind, a_part, a_size, a_kindFound, a_choice, a_status, a_result, a_slotFunction, a_slotArgument)) : wpX_checkCalls post (f_width, f_textLength, f_foundPlace, f_tokenCount, f_frameCount, f_operandCount, nI ds.length, nI e, a_text, a_tokenCode, a_tokenPlace, a_frameCode, a_framePlace, a_operand, a_defPlace, a_defFirst, a_defEnd, a_nodeOp, a_nodeNumber, a_nodePlace, a_nodeDepth, a_nodeKind, a_part, a_size, a_kindFound, a_choice, a_status, a_result, a_slotFunction, a_slotArgument) := by
  have f5 : ∀ i, i < ds.length → mn_f Tk ds i < 5 := fun i hi => (xm_f5 I hi).1
  obtain ⟨m32, mb⟩ := mn_b (f := mn_f Tk ds) ds.length f5
  have e320 := I.2.2.2.2.2
  have e120 := I.2.2.2.1.1
  have L2 := I.2.1.2.1
  have tpb : ∀ i, i < Tk.length → tt_p Tk i < 200 := fun i hi => by have := (I.2.1.2.2 i hi).1; omega
  -- the least place of an unknown call among the nodes below k
  have key : ∀ d k (b : Option Nat), k + d = e → 120 ≤ k → (b = none → ∀ u, 120 ≤ u → u < k → ¬ uk_t Tk P (mn_f Tk ds) ds.length (Q 9 u)) →
      (∀ i, b = some i → i < Tk.length ∧ uk_t Tk P (mn_f Tk ds) ds.length i ∧ ∀ u, 120 ≤ u → u < k → uk_t Tk P (mn_f Tk ds) ds.length (Q 9 u) → tt_p Tk i ≤ tt_p Tk (Q 9 u)) →
      ∀ n, d < n → wX_checkCalls_12 post (nI (mn_m (mn_f Tk ds) ds.length)) f_width f_textLength f_foundPlace f_tokenCount f_frameCount f_operandCount (nI ds.length) (nI e) a_text a_tokenCode a_tokenPlace a_frameCode a_framePlace a_operand a_defPlace a_defFirst a_defEnd a_nodeOp a_nodeNumber a_nodePlace a_nodeDepth a_nodeKind a_part a_size a_kindFound a_choice a_status a_result a_slotFunction a_slotArgument n (nI (uk_v Tk b)) (nI k) := by
    intro d
    induction d with
    | zero =>
      intro k b hk h120 hn hs n hnn
      obtain ⟨n, rfl⟩ : ∃ m, n = m + 1 := ⟨n - 1, by omega⟩
      have ek : k = e := by omega
      subst ek
      refine br_t (nI_le (Nat.le_refl _) (by omega)) ?_
      cases b with
      | none =>
        refine br_t rfl (h1 ?_)
        rcases hR with ⟨q, _⟩ | ⟨i, q1, q2, q3, q4⟩
        · exact q
        · obtain ⟨u, u1, u2, u3⟩ := uk_nt I q2 q3
          exact absurd (by rw [u3]; exact q3) (hn rfl u u1 u2)
      | some i =>
        obtain ⟨s1, s2, s3⟩ := hs i rfl
        have := tpb i s1
        refine br_f (fun q => by have := (nI_eq (a := tt_p Tk i) (b := 201) (by omega) (by decide)).mp q; omega) ?_
        rcases hR with ⟨q, qq⟩ | ⟨i2, q1, q2, q3, q4⟩
        · exact absurd s2 (qq i s1)
        · have ei : i2 = i := by
            rcases Nat.lt_trichotomy i2 i with w | w | w
            · obtain ⟨u, u1, u2, u3⟩ := uk_nt I q2 q3
              have := s3 u u1 u2 (by rw [u3]; exact q3)
              rw [u3] at this
              have := hmo i2 i w s1
              omega
            · exact w
            · exact absurd s2 (q4 i w)
          subst ei
          exact h2 i2 q1
    | succ d ih =>
      intro k b hk h120 hn hs n hnn
      obtain ⟨n, rfl⟩ : ∃ m, n = m + 1 := ⟨n - 1, by omega⟩
      obtain ⟨okk, _, p9, rk⟩ := I.2.2.2.1.2 k h120 (by omega)
      have bd : Q 0 k < 34 := by
        rcases okk.1 with g | ⟨g1, _⟩ | ⟨g1, _⟩ | ⟨g1, _⟩ | ⟨g1, _⟩ | ⟨g1, _⟩ <;> omega
      have tb := ad_tb _ bd
      have k13 := nd_13 okk.1
      have hin : vp_in (nI k) 320 := vp_in_nI (by omega) (by decide)
      have pb := tpb _ p9
      have bb : (uk_v Tk b) < 2 ^ 31 := by
        cases b with
        | none => exact (by decide : 201 < 2 ^ 31)
        | some i => have := tpb i (hs i rfl).1; show tt_p Tk i < 2 ^ 31; omega
      -- nothing new at k
      have old : (uk_t Tk P (mn_f Tk ds) ds.length (Q 9 k) → ∃ i, b = some i ∧ tt_p Tk i ≤ tt_p Tk (Q 9 k)) → ∀ y, y = nI k + 1 →
          wX_checkCalls_12 post (nI (mn_m (mn_f Tk ds) ds.length)) f_width f_textLength f_foundPlace f_tokenCount f_frameCount f_operandCount (nI ds.length) (nI e) a_text a_tokenCode a_tokenPlace a_frameCode a_framePlace a_operand a_defPlace a_defFirst a_defEnd a_nodeOp a_nodeNumber a_nodePlace a_nodeDepth a_nodeKind a_part a_size a_kindFound a_choice a_status a_result a_slotFunction a_slotArgument n (nI (uk_v Tk b)) y := by
        intro hu y ey
        rw [ey, nI_1]
        refine ih (k + 1) b (by omega) (by omega) (fun q u h1 h2 h3 => ?_) (fun i q => ?_) n (by omega)
        · by_cases w : u = k
          · subst w
            obtain ⟨i, qi, _⟩ := hu h3
            rw [q] at qi; exact absurd qi (by simp)
          · exact hn q u h1 (by omega) h3
        · obtain ⟨s1, s2, s3⟩ := hs i q
          refine ⟨s1, s2, fun u h1 h2 h3 => ?_⟩
          by_cases w : u = k
          · subst w
            obtain ⟨i2, qi, ql⟩ := hu h3
            rw [q] at qi
            have := Option.some.inj qi
            subst this
            exact ql
          · exact s3 u h1 (by omega) h3
      refine br_f (nI_ge (by omega) (by omega)) ⟨hin, ?_⟩
      rw [nI_clamp (by omega), rk.1]
      refine pk_eq (xc_t (Q 0 k)) 3 (fun c => ⟨hin, ?_⟩) (fun c => old (fun q => absurd ((ad_t3 _ bd).mpr (k13.mpr q.1)) c))
      have c13 := k13.mp ((ad_t3 _ bd).mp c)
      rw [rk.2.2.1]
      refine pk_le (uk_v Tk b) (tt_p Tk (Q 9 k)) (fun c2 => old (fun q => ?_)) (fun c2 => ⟨hin, fun f ef => ?_⟩)
      · cases b with
        | none => have c2 : 201 ≤ tt_p Tk (Q 9 k) := c2; omega
        | some i => exact ⟨i, rfl, c2⟩
      · have f5k := xp_n5 I.1 I.2.1 p9 c13
        rw [rk.2.1, okk.2.2.1] at ef
        subst ef
        refine br_c (fun c3 => ⟨vp_in_nI f5k (by decide), ?_⟩) (fun c3 => old (fun q => ?_))
        · rw [mn_3 _ m32 _ f5k] at c3
          rw [nI_clamp (n := tt_n Tk (Q 9 k)) (by omega), hsz _ f5k]
          have p24 := hP24 (tt_n Tk (Q 9 k))
          refine pk_eq (P 5 (tt_n Tk (Q 9 k))) 0 (fun c4 => ⟨hin, fun x ex y ey => ?_⟩) (fun c4 => old (fun q => absurd q.2.2 c4))
          rw [nI_1] at ey
          subst ex ey
          have uk : uk_t Tk P (mn_f Tk ds) ds.length (Q 9 k) := ⟨c13, fun q => by rw [(mb _ f5k).mpr q] at c3; exact absurd c3 (by decide), c4⟩
          refine ih (k + 1) (some (Q 9 k)) (by omega) (by omega) (fun q => absurd q (by simp)) (fun i q => ?_) n (by omega)
          have := Option.some.inj q
          subst this
          refine ⟨p9, uk, fun u h1 h2 h3 => ?_⟩
          by_cases w : u = k
          · rw [w]; exact Nat.le_refl _
          · cases b with
            | none => exact absurd h3 (hn rfl u h1 (by omega))
            | some i =>
              have := (hs i rfl).2.2 u h1 (by omega) h3
              have c2 : tt_p Tk (Q 9 k) < tt_p Tk i := c2
              omega
        · rw [mn_3 _ m32 _ f5k] at c3
          exact absurd ((mb _ f5k).mp (by simpa using c3)) q.2.1
  exact xm_names I ⟨_, key (e - 120) 120 none (by omega) (Nat.le_refl _) (fun _ u h1 h2 => by omega) (fun i q => absurd q (by simp)) _ (Nat.lt_succ_self _)⟩
end
