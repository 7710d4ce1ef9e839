-- X closes an opener
section
variable {f_width f_textLength f_foundPlace f_tokenCount f_frameCount f_operandCount f_defCount f_nodeEnd : Int32} {a_text a_tokenCode a_tokenPlace a_frameCode a_framePlace a_operand a_defPlace a_defFirst a_defEnd a_nodeOp a_nodeNumber a_nodePlace a_nodeDepth a_nodeKind a_part a_size a_kindFound a_choice a_status : Nat → Int32} {a_result : Nat → Int64} {a_slotFunction a_slotArgument : Nat → Int32} {L : Nat} {tx : Nat → Nat} {Tk : List tz_T} {no0 nn0 np0 pt0 : Nat → Int32} {t : Nat} {fcn ocn dcn nen : Int32} {fc fp op dp df de no nn np nd pt : Nat → Int32} {Q Q0 : Nat → Nat → Nat} {e F fr at0 lev v : Nat} {f : fr_F} {fs fs0 : List fr_F} {ops : List Nat} {dl : List df_D} {post : Int32 → SX → Prop}
-- a frame of if or try takes its next part
theorem op_i {c c2 p nx : Nat} {held rest : List Nat} (htT : t < Tk.length)
    (I : cl_I Tk F t no0 nn0 np0 pt0 Q0 Q e at0 lev ((c, p, p, nx) :: fs) ops v no nn np nd pt fc fp op)
    (hZ : fr_B fr ((c, p, p, nx) :: fs)) (hD : pa_D Tk t Q0 F fr fs0 dl dp df) (hA : df_A Tk dp df de dl) (hm : ms_f (tt_k Tk) (t + 1) = some (2, ms_o ((c2, p, p, t + 1) :: fs))) (h25 : tt_k Tk t ≠ 25)
    (hc2 : c2 < 34) (h30 : c2 ≠ 30) (hn1 : fr_n c2 = 1) (hg : fr_g c = 1) (hg2 : fr_g c2 = 1) (h30c : c ≠ 30)
    (hh : fr_h (tt_k Tk) Q c2 p p (t + 1) (v :: held)) (ho : ops = held ++ rest) (hSr : fr_S (tt_k Tk) Q fs rest p) (hb : fr_b c fs) :
    pa_I Tk no0 nn0 np0 pt0 3 (t + 1) (nI (fs.length + 1)) (nI (ops.length + 1)) (nI dl.length) (nI e) (upd fc fs.length (nI (xc_t c2))) fp op dp df de no nn np nd pt := by
  obtain ⟨i1, i2, i3, i4, i5, i6, i7, i8, i9, i10, i11, i12, i13, i14⟩ := I
  obtain ⟨d1, d2, d3, d4, d5, d6, d7, d8, d9, d10⟩ := hD
  rw [List.length_cons] at i11
  have hb2 : fr_b c2 fs := by
    cases fs with
    | nil => exact absurd hb h30c
    | cons g gs => exact ⟨by rw [hg2, ← hg]; exact hb.1, h30⟩
  refine ⟨Q, e, F, fr, (c2, p, p, t + 1) :: fs, v :: ops, dl, ⟨rfl, rfl, rfl, rfl, i7, i8, hA, by omega, by rw [List.length_cons]; omega, by omega, hm⟩, Or.inr (Or.inr ⟨by decide, by decide, ⟨df_Cc (u := F) i14 dl fr F (Nat.le_refl _) d1, d2, d3, d4, ⟨fun q => absurd q h30, hZ.2⟩, fun i h1 h2 => ?_, by omega, d8, d9, d10⟩, go_u i9 hc2, i10, i5, by rw [List.length_cons]; omega, Or.inl ⟨rfl, ⟨rfl, hb2, v :: held, rest, by rw [ho]; rfl, hh, hSr⟩, _, _, rfl, hn1⟩⟩)⟩
  by_cases q : i = t
  · rw [q]; exact h25
  · exact d6 i h1 (by omega)
theorem op_X (hT : tx_P L tx a_text) (hK : xp_T L tx Tk) (htT : t < Tk.length)
    (I : cl_I Tk F t no0 nn0 np0 pt0 Q0 Q e at0 lev (f :: fs) ops v no nn np nd pt fc fp op) (hf0 : fr_l f.1 < 1)
    (hZ : ms_o (f :: fs) = ms_o fs0 ∧ fr_B fr (f :: fs)) (hD : pa_D Tk t Q0 F fr fs0 dl dp df) (hA : df_A Tk dp df de dl) (hm : ms_f (tt_k Tk) t = some (4, ms_o fs0))
    (hk24 : tt_k Tk t ≠ 24) (hkb : ¬ (14 ≤ tt_k Tk t ∧ tt_k Tk t ≤ 22))
    (hk : ∀ st2 fcn ocn dcn nen fc fp op dp df de no nn np nd pt, 1 ≤ st2 → st2 ≤ 6 → pa_I Tk no0 nn0 np0 pt0 st2 (t + 1) fcn ocn dcn nen fc fp op dp df de no nn np nd pt → post (nI st2) (f_width, nI L, f_foundPlace, f_tokenCount, fcn, ocn, dcn, nen, a_text, a_tokenCode, a_tokenPlace, fc, fp, op, dp, df, de, no, nn, np, nd, a_nodeKind, pt, a_size, a_kindFound, a_choice, a_status, a_result, a_slotFunction, a_slotArgument))
    (hs : ms_f (tt_k Tk) (t + 1) = none → ∀ fcn ocn dcn nen fc fp op dp df de no nn np nd pt, xp_K no0 nn0 np0 pt0 no nn np pt → post 0 (f_width, nI L, f_foundPlace, f_tokenCount, fcn, ocn, dcn, nen, a_text, a_tokenCode, a_tokenPlace, fc, fp, op, dp, df, de, no, nn, np, nd, a_nodeKind, pt, a_size, a_kindFound, a_choice, a_status, a_result, a_slotFunction, a_slotArgument)) :
    wpX_closeOpener post (f_width, nI L, f_foundPlace, f_tokenCount, nI (fs.length + 1), nI (ops.length + 1), nI dl.length, nI e, a_text, a_tokenCode, a_tokenPlace, fc, fp, op, dp, df, de, no, nn, np, nd, a_nodeKind, pt, a_size, a_kindFound, a_choice, a_status, a_result, a_slotFunction, a_slotArgument) (nI (xc_k (tt_k Tk t) (tt_n Tk t))) := by
  have hL := hT.1
  have I0 := I
  have hD0 := hD
  obtain ⟨c, st, p, nx⟩ := f
  obtain ⟨i1, i2, i3, i4, i5, i6, i7, i8, i9, i10, i11, i12, i13, i14⟩ := I
  obtain ⟨d1, d2, d3, d4, d5, d6, d7, d8, d9, d10⟩ := hD
  obtain ⟨tpL, _, _, k0, k27⟩ := hK.2.2 t htT
  have n5 : tt_k Tk t = 13 → tt_n Tk t < 5 := xp_n5 hT hK htT
  have Tl := hK.1
  have e120 := i7.1
  rw [List.length_cons] at i11
  have hfm := i9.2.2 (c, st, p, nx) (by simp)
  dsimp only at hfm hf0
  have hc : fc fs.length = nI (xc_t c) := by
    have := i9.1.1
    rw [List.length_map] at this
    exact this
  have hpl : fp fs.length = nI (tt_p Tk p) := by
    have := i9.2.1.1
    rw [List.length_map] at this
    exact this
  have hin : vp_in (nI fs.length) 200 := vp_in_nI (by omega) (by decide)
  have x4 := go_4 c hfm.1
  have x5 := go_5 c hfm.1
  have xi := go_i c hfm.1
  have xt := go_t c hfm.1
  have xo := go_o c hfm.1
  have tb := ad_tb c hfm.1
  have xb := xk_b k27 n5
  have j1 := xk_i (C := 59) (K := 25) k27 n5 (by decide) (by decide) (by decide)
  have j2 := xk_i (C := 1701606245) (K := 5) k27 n5 (by decide) (by decide) (by decide)
  have j3 := xk_i (C := 1952998766) (K := 4) k27 n5 (by decide) (by decide) (by decide)
  have j4 := xk_i (C := 41) (K := 27) k27 n5 (by decide) (by decide) (by decide)
  have msE := pa_ms hm
  rw [← hZ.1] at msE
  have ms4 : ms_f (tt_k Tk) (t + 1) = (if tt_k Tk t = 4 ∧ (ms_o ((c, st, p, nx) :: fs)).headD 0 = 3 then some (2, 4 :: (ms_o ((c, st, p, nx) :: fs)).tail) else
      if tt_k Tk t = 5 ∧ ((ms_o ((c, st, p, nx) :: fs)).headD 0 = 4 ∨ (ms_o ((c, st, p, nx) :: fs)).headD 0 = 6) then some (2, (ms_o ((c, st, p, nx) :: fs)).tail) else
      if tt_k Tk t = 27 ∧ (ms_o ((c, st, p, nx) :: fs)).headD 0 = 26 then some (4, (ms_o ((c, st, p, nx) :: fs)).tail) else
      if tt_k Tk t = 25 ∧ ms_o ((c, st, p, nx) :: fs) = [] then some (0, ms_o ((c, st, p, nx) :: fs)) else none) := by
    rw [msE]
    unfold ms_s
    rw [if_neg (by decide), if_neg (by decide), if_neg (by decide), if_neg (by decide), if_neg hkb, if_neg hk24]
  clear msE
  obtain ⟨s1, s2, held, rest, s3, s4, s5⟩ := i1
  dsimp only at s1 s2 s4 s5
  intro y ey
  have ey : y = nI fs.length := by rw [ey]; exact nI_pred _
  subst ey
  refine ⟨hin, fun z ez => ?_⟩
  rw [nI_clamp (by omega), hc] at ez
  subst ez
  have stuck : ms_f (tt_k Tk) (t + 1) = none → ∀ fcn ocn fc op, post 0 (f_width, nI L, f_foundPlace, f_tokenCount, fcn, ocn, nI dl.length, nI e, a_text, a_tokenCode, a_tokenPlace, fc, fp, op, dp, df, de, no, nn, np, nd, a_nodeKind, pt, a_size, a_kindFound, a_choice, a_status, a_result, a_slotFunction, a_slotArgument) :=
    fun q fcn ocn fc op => hs q _ _ _ _ _ _ _ _ _ _ _ _ _ _ _ i8
  have z0 : ∀ x, c = x → 1 ≤ fr_l x → False := by intro x q w; rw [q] at hf0; omega
  rcases s4 with g | g | g | g | ⟨g1, g2, g3, a, p1, g4, g5, g6, g7⟩ | ⟨g1, _⟩ | ⟨g1, _⟩ | ⟨g1, _⟩ | ⟨g1, _⟩
  · -- the body
    obtain ⟨g1, g2, g3⟩ := g
    subst g1
    have fs0' : fs = [] := by
      cases fs with
      | nil => rfl
      | cons q qs => exact absurd rfl s2.2
    subst fs0'
    have rr : rest = [] := s5
    rw [g2, rr] at s3
    have s3 : ops = [] := s3
    subst s3
    have mo : ms_o ((30, st, p, nx) :: ([] : List fr_F)) = [] := rfl
    rw [mo] at ms4
    refine br_t rfl ?_
    refine pk_eq (xc_k (tt_k Tk t) (tt_n Tk t)) 59 (fun q => ?_) (fun q => stuck ?_ _ _ _ _)
    · have k25 := j1.mp q
      refine ⟨vp_in_nI (by omega) (by decide), fun A eA B eB => ?_⟩
      rw [nI_clamp (by omega)] at eA
      rw [nI_1] at eB
      subst eA eB
      have pf : p = fr + 1 := hZ.2.1 rfl
      obtain ⟨t1, t2, t3⟩ := i5
      have t3 : Q 10 v = F := t3
      have ve : e - 1 = v := by omega
      have a2 : at0 = fr + 2 := by omega
      have ro := i2.2
      have rl := ro.1
      refine hk 1 _ _ _ _ _ _ _ _ _ _ _ _ _ _ _ (by decide) (by decide) ⟨Q, e, F, fr, [], [], (fr, F, e, t) :: dl, ⟨rfl, rfl, by rw [List.length_cons], rfl, i7, i8, ?_, by omega, by rw [List.length_nil]; omega, by rw [List.length_cons]; omega, ?_⟩, Or.inl ⟨rfl, rfl, rfl, ?_⟩⟩
      · refine ⟨d9, d10, pk_us, df_Au dl (fun i hi => ⟨rfl, rfl, pk_un (by omega)⟩) hA⟩
      · rw [ms4, if_neg (by omega), if_neg (by omega), if_neg (by omega), if_pos ⟨k25, rfl⟩]; rfl
      · refine ⟨rfl, rfl, d3, d4, k25, fun i h1 h2 => d6 i h1 h2, ?_, ?_, ?_, by show F < e; omega, d2, df_Cc (u := F) i14 dl fr F (Nat.le_refl _) d1⟩
        · show nd_W (tt_k Tk) Q (fr + 2) t (e - 1)
          rw [ve, ← a2]; exact i2.1
        · show rg_o (tt_k Tk) (fr + 2) t
          rw [← a2]; exact ro
        · show Q 10 (e - 1) = F
          rw [ve]; exact t3
    · rw [ms4, if_neg (by rintro ⟨_, q2⟩; exact absurd q2 (by decide)), if_neg (by rintro ⟨_, q2⟩; exact absurd q2 (by decide)), if_neg (by rintro ⟨_, q2⟩; exact absurd q2 (by decide)), if_neg (fun q2 => q (j1.mpr q2.1))]
  · -- a bracket, if or try
    obtain ⟨g1, g2, g3, g4, g5⟩ := g
    subst g4
    have ho : ops = rest := by rw [s3, g3]; rfl
    refine br_f (fun q => by have := x4.mp ((nI_eq (b := 4) tb (by decide)).mp q); omega) (br_f (fun q => by have := x5.mp ((nI_eq (b := 5) tb (by decide)).mp q); omega) ?_)
    rcases g1 with g1 | g1 | g1
    · subst g1
      have mo : ms_o ((26, st, st, nx) :: fs) = 26 :: ms_o fs := rfl
      rw [mo] at ms4
      refine br_f (by decide) (br_f (by decide) ?_)
      refine pk_eq (xc_k (tt_k Tk t) (tt_n Tk t)) 41 (fun q => br_t rfl ?_) (fun q => stuck ?_ _ _ _ _)
      · have k27' := j4.mp q
        rw [s1, g5] at i2
        obtain ⟨w1, w2, w3⟩ := rg_wrap g2 i2.2 k27'
        refine hk 6 _ _ _ _ _ _ _ _ _ _ _ _ _ _ _ (by decide) (by decide) ⟨Q, e, F, fr, fs, v :: ops, dl, ⟨rfl, rfl, rfl, rfl, i7, i8, hA, by omega, by omega, by omega, ?_⟩, Or.inr (Or.inr ⟨by decide, by decide, ⟨df_Cc (u := F) i14 dl fr F (Nat.le_refl _) d1, d2, d3, d4, hZ.2.2, fun i h1 h2 => ?_, by omega, d8, d9, d10⟩, xp_Fm ⟨i9.1.2, i9.2.1.2, fun f hf => i9.2.2 f (List.mem_cons_of_mem _ hf)⟩ (by omega), i10, i5, by rw [List.length_cons]; omega, Or.inr (Or.inr (Or.inr ⟨rfl, v, ops, st, rfl, by rw [ho]; exact s5, ⟨nd_Ww i2.1 g2 k27' w1, w2⟩, w3, ?_⟩))⟩)⟩
        · rw [ms4, if_neg (by omega), if_neg (by omega), if_pos ⟨k27', rfl⟩]; rfl
        · by_cases q2 : i = t
          · rw [q2]; omega
          · exact d6 i h1 (by omega)
        · cases fs with
          | nil => exact absurd (show (26 : Nat) = 30 from s2) (by decide)
          | cons q qs => exact ⟨_, _, rfl⟩
      · rw [ms4, if_neg (by rintro ⟨_, q2⟩; exact absurd q2 (by simp)), if_neg (by rintro ⟨_, q2⟩; exact absurd q2 (by simp)), if_neg (fun q2 => q (j4.mpr q2.1)), if_neg (by rintro ⟨_, q2⟩; exact absurd q2 (by simp))]
    · subst g1
      have mo : ms_o ((3, st, st, nx) :: fs) = 3 :: ms_o fs := rfl
      rw [mo] at ms4
      refine br_t rfl ⟨hin, fun A eA => ?_⟩
      rw [nI_clamp (by omega)] at eA
      subst eA
      refine pk_eq (xc_k (tt_k Tk t) (tt_n Tk t)) 1952998766 (fun q => ?_) (fun q => stuck ?_ _ _ _ _)
      · have k4 := j3.mp q
        refine hk 3 _ _ _ _ _ _ _ _ _ _ _ _ _ _ _ (by decide) (by decide) (op_i (c2 := 31) (held := []) (rest := rest) htT I0 hZ.2 hD0 hA ?_ (by omega) (by decide) (by decide) rfl rfl rfl (by decide) ?_ (by rw [ho]; rfl) s5 s2)
        · rw [ms4, if_pos ⟨k4, rfl⟩]; rfl
        · rw [s1, g5] at i2
          exact Or.inr (Or.inr (Or.inr (Or.inr (Or.inl ⟨rfl, g2, rfl, v, t, rfl, i2, k4, rfl⟩))))
      · rw [ms4, if_neg (fun q2 => q (j3.mpr q2.1)), if_neg (by rintro ⟨_, q2⟩; exact absurd q2 (by simp)), if_neg (by rintro ⟨_, q2⟩; exact absurd q2 (by simp)), if_neg (by rintro ⟨_, q2⟩; exact absurd q2 (by simp))]
    · subst g1
      have mo : ms_o ((6, st, st, nx) :: fs) = 6 :: ms_o fs := rfl
      rw [mo] at ms4
      refine br_f (by decide) (br_t rfl ⟨hin, fun A eA => ?_⟩)
      rw [nI_clamp (by omega)] at eA
      subst eA
      refine pk_eq (xc_k (tt_k Tk t) (tt_n Tk t)) 1701606245 (fun q => ?_) (fun q => stuck ?_ _ _ _ _)
      · have k5 := j2.mp q
        refine hk 3 _ _ _ _ _ _ _ _ _ _ _ _ _ _ _ (by decide) (by decide) (op_i (c2 := 33) (held := []) (rest := rest) htT I0 hZ.2 hD0 hA ?_ (by omega) (by decide) (by decide) rfl rfl rfl (by decide) ?_ (by rw [ho]; rfl) s5 s2)
        · rw [ms4, if_neg (by omega), if_pos ⟨k5, Or.inr rfl⟩]; rfl
        · rw [s1, g5] at i2
          exact Or.inr (Or.inr (Or.inr (Or.inr (Or.inr (Or.inr (Or.inl ⟨rfl, g2, rfl, v, t, rfl, i2, k5, rfl⟩))))))
      · rw [ms4, if_neg (by rintro ⟨_, q2⟩; exact absurd q2 (by simp)), if_neg (fun q2 => q (j2.mpr q2.1)), if_neg (by rintro ⟨_, q2⟩; exact absurd q2 (by simp)), if_neg (by rintro ⟨_, q2⟩; exact absurd q2 (by simp))]
  · exfalso
    rcases g.1 with q | q
    · exact z0 _ q.1 (by decide)
    · exact z0 _ q.1 (by decide)
  · -- hd, tl, nul, a call
    obtain ⟨g1, g2, g2b, g3, g4, g5⟩ := g
    subst g4
    have ho : ops = rest := by rw [s3, g3]; rfl
    have mo : ms_o ((c, st, st, nx) :: fs) = 26 :: ms_o fs := by
      show (if c = 26 ∨ c = 7 ∨ c = 8 ∨ c = 9 ∨ c = 13 then _ else _) = _
      rw [if_pos (by omega)]
    rw [mo] at ms4
    refine br_f (fun q => by have := x4.mp ((nI_eq (b := 4) tb (by decide)).mp q); omega) (br_f (fun q => by have := x5.mp ((nI_eq (b := 5) tb (by decide)).mp q); omega) (br_f (fun q => by have := xi.mp ((nI_eq (b := 26982) tb (by decide)).mp q); omega) (br_f (fun q => by have := xt.mp ((nI_eq (b := 7631481) tb (by decide)).mp q); omega) ?_)))
    refine pk_eq (xc_k (tt_k Tk t) (tt_n Tk t)) 41 (fun q => br_f (fun q => by have := xo.mp ((nI_eq (b := 40) tb (by decide)).mp q); omega) ⟨hin, ?_⟩) (fun q => stuck ?_ _ _ _ _)
    · have k27' := j4.mp q
      rw [s1, g5] at i2
      obtain ⟨r1, r2, r3⟩ := rg_call (by omega) g2b i2.2 k27'
      rw [nI_clamp (by omega), hpl]
      have hv : 120 ≤ v ∧ v < e := by have := (fr_t_lt _ _ i5).2 v (by simp); omega
      obtain ⟨q1, q2, q3, q4⟩ := cl_dp i7 hv.1 hv.2 (by omega)
      obtain ⟨w1, w2⟩ := xp_nn hK (i := st) (t := c) (by omega) (by omega)
      have pL := (hK.2.2 st (by omega)).1
      have hl0 := i2.2.1
      have hoo : op ops.length = nI v := i10.1
      obtain ⟨t1, t2, t3⟩ := i5
      have m0 : nd_m 0 (Q 11 v) ≤ e - 120 := xp_m3 (by omega) (by omega)
      have no1 : nd_ok (tt_k Tk) (tt_n Tk) (nd_U Q e (nd_w c (tt_n Tk st) v e e st (t + 1) st (Q 10 v) (nd_m 0 (Q 11 v) + 1))) e := by
        refine nd_add (Or.inr (Or.inr (Or.inr (Or.inl ⟨g1, g2, rfl, r1, by omega, g2b, ?_, ?_⟩)))) (by omega) ?_ ?_ ?_ ?_
        · rw [Nat.add_sub_cancel]; exact k27'
        · rw [Nat.add_sub_cancel]; exact i2.1
        · intro q; rw [nd_n1 (by omega)] at q; omega
        · intro _; exact ⟨t1, t2, rfl, rfl, rfl, rfl⟩
        · intro q; rw [nd_n1 (by omega)] at q; omega
        · intro q; rw [nd_n1 (by omega)] at q; omega
      refine ad_X hT (k := 1) (r := ops.length) (t := c) (v0 := v) (v1 := e) (v2 := e) (d0 := Q 11 v) (d1 := 0) (d2 := 0) (D0 := nd_m 0 (Q 11 v)) (D1 := nd_m 0 (Q 11 v)) (D2 := nd_m 0 (Q 11 v)) (by omega) (by omega) (by omega) (by omega) hfm.1 pL w2
        ⟨fun _ => ⟨hoo, q1, q2, q3⟩, fun q => absurd Nat.one_pos q⟩ ⟨fun q => absurd q (by omega), fun _ => rfl⟩ ⟨fun q => absurd q (by omega), fun _ => rfl⟩ rfl rfl rfl ?_
      rw [w1]
      have ag : ∀ k w, w < e → nd_U Q e (nd_w c (tt_n Tk st) v e e st (t + 1) st (Q 10 v) (nd_m 0 (Q 11 v) + 1)) k w = Q k w := fun k w hw => nd_Un (by omega)
      have lt := (fr_t_lt _ _ t3)
      refine hk 6 _ _ _ _ _ _ _ _ _ _ _ _ _ _ _ (by decide) (by decide) ⟨nd_U Q e (nd_w c (tt_n Tk st) v e e st (t + 1) st (Q 10 v) (nd_m 0 (Q 11 v) + 1)), e + 1, F, fr, fs, e :: ops, dl,
        ⟨rfl, by rw [List.length_cons], rfl, rfl, xp_Ns i7 no1 (by omega) (by omega) rfl, xp_Ks e120 i8, hA, by omega, by omega, by omega, ?_⟩, Or.inr (Or.inr ⟨by decide, by decide, ⟨df_Cc ag dl fr F (by omega) (df_Cc (u := F) i14 dl fr F (Nat.le_refl _) d1), d2, d3, d4, hZ.2.2, fun i h1 h2 => ?_, by omega, d8, d9, d10⟩, xp_Fm ⟨i9.1.2, i9.2.1.2, fun f hf => i9.2.2 f (List.mem_cons_of_mem _ hf)⟩ (by omega), ar_p i10.2, ⟨rfl, ?_, ?_⟩, by rw [List.length_cons]; omega, Or.inr (Or.inr (Or.inr ⟨rfl, e, ops, st, rfl, fr_Sc _ _ _ (fun o hoo k => ag k o (by have := lt.2 o hoo; omega)) (by rw [ho]; exact s5), ⟨nd_W0, r2⟩, r3, ?_⟩))⟩)⟩
      · rw [ms4, if_neg (by omega), if_neg (by omega), if_pos ⟨k27', rfl⟩]; rfl
      · by_cases q2 : i = t
        · rw [q2]; omega
        · exact d6 i h1 (by omega)
      · rw [nd_Us]; show Q 10 v ≤ e; omega
      · rw [nd_Us]; exact fr_t_c ag _ _ (by show Q 10 v ≤ e; omega) t3
      · cases fs with
        | nil => have s2 : c = 30 := s2; omega
        | cons q qs => exact ⟨_, _, rfl⟩
    · rw [ms4, if_neg (by rintro ⟨_, q2⟩; exact absurd q2 (by simp)), if_neg (by rintro ⟨_, q2⟩; exact absurd q2 (by simp)), if_neg (fun q2 => q (j4.mpr q2.1)), if_neg (by rintro ⟨_, q2⟩; exact absurd q2 (by simp))]
  · -- the then-part
    subst g1
    subst g3
    have mo : ms_o ((31, st, st, nx) :: fs) = 4 :: ms_o fs := rfl
    rw [mo] at ms4
    refine br_f (by decide) (br_t rfl ⟨hin, fun A eA => ?_⟩)
    rw [nI_clamp (by omega)] at eA
    subst eA
    refine pk_eq (xc_k (tt_k Tk t) (tt_n Tk t)) 1701606245 (fun q => ?_) (fun q => stuck ?_ _ _ _ _)
    · have k5 := j2.mp q
      refine hk 3 _ _ _ _ _ _ _ _ _ _ _ _ _ _ _ (by decide) (by decide) (op_i (c2 := 32) (held := [a]) (rest := rest) htT I0 hZ.2 hD0 hA ?_ (by omega) (by decide) (by decide) rfl rfl rfl (by decide) ?_ (by rw [s3, g4]) s5 s2)
      · rw [ms4, if_neg (by omega), if_pos ⟨k5, Or.inl rfl⟩]; rfl
      · rw [s1, g7] at i2
        exact Or.inr (Or.inr (Or.inr (Or.inr (Or.inr (Or.inl ⟨rfl, g2, rfl, a, v, p1, t, rfl, g5, g6, i2, k5, rfl⟩)))))
    · rw [ms4, if_neg (by rintro ⟨_, q2⟩; exact absurd q2 (by simp)), if_neg (fun q2 => q (j2.mpr q2.1)), if_neg (by rintro ⟨_, q2⟩; exact absurd q2 (by simp)), if_neg (by rintro ⟨_, q2⟩; exact absurd q2 (by simp))]
  · exact (z0 _ g1 (by decide)).elim
  · exact (z0 _ g1 (by decide)).elim
  · exact (z0 _ g1 (by decide)).elim
  · have := fr_lb g1; omega
end
