-- X closes frames
theorem nd_13 {tk : Nat → Nat} {Q : Nat → Nat → Nat} {t l h p a b c : Nat} (g : nd_k tk Q t l h p a b c) : t = 13 ↔ tk p = 13 := by
  rcases g with g | ⟨g1, g2, _⟩ | ⟨g1, _⟩ | ⟨g1, g2, _⟩ | ⟨g1, g2, _⟩ | ⟨g1, g2, _⟩ <;> omega
theorem cl_x6 : ∀ c, c < 34 → (xc_t c = 6 ↔ c = 32) := by decide
theorem cl_x7 : ∀ c, c < 34 → (xc_t c = 7 ↔ c = 33) := by decide
def cl_I (Tk : List tz_T) (F t : Nat) (no0 nn0 np0 pt0 : Nat → Int32) (Q0 Q : Nat → Nat → Nat) (e at0 lev : Nat) (fs : List fr_F) (ops : List Nat) (v : Nat) (no nn np nd pt fc fp op : Nat → Int32) : Prop :=
  fr_S (tt_k Tk) Q fs ops at0 ∧ fr_o (tt_k Tk) Q at0 t v ∧ rg_L (tt_k Tk) lev at0 t ∧ (∀ f, fs.head? = some f → fr_n f.1 ≤ lev) ∧ fr_t Q F (v :: ops) e ∧ 120 ≤ F ∧
  xp_N Tk Q e no nn np nd pt ∧ xp_K no0 nn0 np0 pt0 no nn np pt ∧ xp_F Tk t fs fc fp ∧ ar_L op (v :: ops) ∧ e + fs.length ≤ t + 120 ∧ t ≤ Tk.length ∧ ops.length + 121 ≤ e ∧ (∀ k w, w < F → Q k w = Q0 k w)
theorem cl_dp {Tk : List tz_T} {Q : Nat → Nat → Nat} {e v : Nat} {no nn np nd pt : Nat → Int32} (H : xp_N Tk Q e no nn np nd pt) (h1 : 120 ≤ v) (h2 : v < e) (he : e ≤ 320) : v < 320 ∧ nd v = nI (Q 11 v) ∧ Q 11 v < 1000 ∧ Q 11 v + 120 ≤ e := by
  obtain ⟨_, b, _, r⟩ := H.2 v h1 h2
  exact ⟨by omega, r.2.2.2.1, by omega, by omega⟩
theorem cl_nx {Tk : List tz_T} {F t : Nat} {no0 nn0 np0 pt0 : Nat → Int32} {Q0 Q : Nat → Nat → Nat} {e at0 lev c st p nx : Nat} {fs : List fr_F} {ops rest : List Nat} {v op a b d dp s pp : Nat} {no nn np nd pt fc fp opa : Nat → Int32}
    (I : cl_I Tk F t no0 nn0 np0 pt0 Q0 Q e at0 lev ((c, st, p, nx) :: fs) ops v no nn np nd pt fc fp opa)
    (hG : fr_G (tt_k Tk) (tt_n Tk) (nd_U Q e (nd_w op (tt_n Tk p) a b d st t p s dp)) F c st t e fs rest) (hd : dp + 119 ≤ e) (hl : rest.length ≤ ops.length) (hr : ar_L opa rest) (hpp : pp = tt_p Tk p) :
    cl_I Tk F t no0 nn0 np0 pt0 Q0 (nd_U Q e (nd_w op (tt_n Tk p) a b d st t p s dp)) (e + 1) st (fr_g c) fs rest e (upd no e (nI (xc_t op))) (upd nn e (nI (tt_n Tk p))) (upd np e (nI pp)) (upd nd e (nI dp)) (upd (upd (upd pt (e * 3 + 0) (nI a)) (e * 3 + 1) (nI b)) (e * 3 + 2) (nI d)) fc fp (upd opa rest.length (nI e)) := by
  obtain ⟨i1, i2, i3, i4, i5, i6, i7, i8, i9, i10, i11, i12, i13, i14⟩ := I
  obtain ⟨g1, g2, g3, g4, g5, g6⟩ := hG
  rw [List.length_cons] at i11
  refine ⟨g4, g2, g3, ?_, g5, i6, xp_Ns i7 g1 hd ?_ hpp, xp_Ks i7.1 i8, ⟨i9.1.2, i9.2.1.2, fun f hf => i9.2.2 f (List.mem_cons_of_mem _ hf)⟩, ar_p hr, by omega, i12, by omega, fun k w hw => (nd_Un (by have := (fr_t_lt _ _ i5).1; omega)).trans (i14 k w hw)⟩
  · intro f hf
    cases fs with
    | nil => simp at hf
    | cons q qs =>
      simp at hf
      subst hf
      exact g6.1
  · have := (i9.2.2 (c, st, p, nx) (by simp)).2
    dsimp only at this
    omega
section
variable {f_width f_textLength f_foundPlace f_tokenCount f_frameCount f_operandCount f_defCount f_nodeEnd : Int32} {a_text a_tokenCode a_tokenPlace a_frameCode a_framePlace a_operand a_defPlace a_defFirst a_defEnd a_nodeOp a_nodeNumber a_nodePlace a_nodeDepth a_nodeKind a_part a_size a_kindFound a_choice a_status : Nat → Int32} {a_result : Nat → Int64} {a_slotFunction a_slotArgument : Nat → Int32} {L : Nat} {tx : Nat → Nat} {Tk : List tz_T} {F t : Nat} {no0 nn0 np0 pt0 : Nat → Int32} {Q0 : Nat → Nat → Nat}
theorem cl_7 (hT : tx_P L tx a_text) (hK : xp_T L tx Tk) {level : Nat} (h1 : 1 ≤ level) (h7 : level ≤ 7) {post : SX → Prop} (Z : List fr_F → Prop) (hZ : ∀ f fs, Z (f :: fs) → 1 ≤ fr_l f.1 → Z fs)
    (hp : ∀ Q e at0 lev f fs ops v no nn np nd pt op, cl_I Tk F t no0 nn0 np0 pt0 Q0 Q e at0 lev (f :: fs) ops v no nn np nd pt a_frameCode a_framePlace op → level ≤ lev → fr_l f.1 < level → Z (f :: fs) →
      post (f_width, nI L, f_foundPlace, f_tokenCount, nI (fs.length + 1), nI (ops.length + 1), f_defCount, nI e, a_text, a_tokenCode, a_tokenPlace, a_frameCode, a_framePlace, op, a_defPlace, a_defFirst, a_defEnd, no, nn, np, nd, a_nodeKind, pt, a_size, a_kindFound, a_choice, a_status, a_result, a_slotFunction, a_slotArgument)) :
    ∀ fs1 f Q e at0 lev ops v no nn np nd pt op n, cl_I Tk F t no0 nn0 np0 pt0 Q0 Q e at0 lev (f :: fs1) ops v no nn np nd pt a_frameCode a_framePlace op → level ≤ lev → Z (f :: fs1) → fs1.length < n →
      wX_closeFrames_7 post (nI level) n (nI fs1.length) f_width (nI L) f_foundPlace f_tokenCount (nI (fs1.length + 1)) (nI (ops.length + 1)) f_defCount (nI e) a_text a_tokenCode a_tokenPlace a_frameCode a_framePlace op a_defPlace a_defFirst a_defEnd no nn np nd a_nodeKind pt a_size a_kindFound a_choice a_status a_result a_slotFunction a_slotArgument := by
  have hL := hT.1
  intro fs1
  induction fs1 with
  | nil =>
    intro f Q e at0 lev ops v no nn np nd pt op n I hlev hz hn
    obtain ⟨n, rfl⟩ : ∃ m, n = m + 1 := ⟨n - 1, by omega⟩
    have I0 := I
    obtain ⟨i1, i2, i3, i4, i5, i6, i7, i8, i9, i10, i11, i12, i13, i14⟩ := I
    have c30 : f.1 = 30 := i1.2.1
    have hc : a_frameCode 0 = nI (xc_t f.1) := i9.1.1
    refine br_f (nI_pos (n := 0) (by decide)) ⟨vp_in_nI (n := 0) (by decide) (by decide), fun y ey => ?_⟩
    have ey : y = nI (xc_t f.1) := by rw [ey, ← hc]; rfl
    subst ey
    refine lv_X (ad_tb _ (by omega)) ?_
    rw [lv_x _ (by omega)]
    have z : fr_l f.1 = 0 := by rw [c30]; rfl
    rw [z]
    exact br_f (nI_ge (by omega) (by omega)) (hp Q e at0 lev f [] ops v no nn np nd pt op I0 hlev (by omega) hz)
  | cons f2 fs2 ih =>
    intro f Q e at0 lev ops v no nn np nd pt op n I hlev hz hn
    obtain ⟨n, rfl⟩ : ∃ m, n = m + 1 := ⟨n - 1, by omega⟩
    have I0 := I
    obtain ⟨c, st, p, nx⟩ := f
    obtain ⟨i1, i2, i3, i4, i5, i6, i7, i8, i9, i10, i11, i12, i13, i14⟩ := I
    have hfm := i9.2.2 (c, st, p, nx) (by simp)
    dsimp only at hfm
    have hc : a_frameCode (fs2.length + 1) = nI (xc_t c) := by
      have := i9.1.1
      rw [List.length_map] at this
      exact this
    have hpl : a_framePlace (fs2.length + 1) = nI (tt_p Tk p) := by
      have := i9.2.1.1
      rw [List.length_map] at this
      exact this
    rw [List.length_cons, List.length_cons] at i11
    rw [List.length_cons] at hn
    have Tl := hK.1
    have b200 : fs2.length + 1 < 200 := by omega
    have e320 : e < 320 := by omega
    have e120 := i7.1
    have pL := (hK.2.2 p (by omega)).1
    have hin : vp_in (nI (fs2.length + 1)) 200 := vp_in_nI b200 (by decide)
    have tb := ad_tb c hfm.1
    have x6 := cl_x6 c hfm.1
    have x7 := cl_x7 c hfm.1
    have all : ∀ o, o ∈ v :: ops → 120 ≤ o ∧ o < e := fun o ho => by
      have := (fr_t_lt _ _ i5).2 o ho; omega
    rw [List.length_cons]
    refine br_f (nI_pos (by omega)) ⟨hin, fun y ey => ?_⟩
    rw [nI_clamp (by omega), hc] at ey
    subst ey
    refine lv_X tb ?_
    rw [lv_x c hfm.1]
    have l7 : fr_l c ≤ 7 := by unfold fr_l; repeat' split
                               all_goals omega
    refine pk_le level (fr_l c) (fun hle => ?_) (fun hlt => hp Q e at0 lev (c, st, p, nx) (f2 :: fs2) ops v no nn np nd pt op I0 hlev hlt hz)
    have hzz := hZ _ _ hz (by show 1 ≤ fr_l c; omega)
    have gl : level ≤ fr_g c := by
      unfold fr_g
      split
      · omega
      · split
        · omega
        · have : fr_l c = 1 := by omega
          omega
    have rd := fr_red (tn := tt_n Tk) (u := e) (F := F) i1 i2 (rg_Lm i3 (i4 _ rfl)) (by show 1 ≤ fr_l c; omega) i5
    have nx0 : ∀ Q2 st2 ops2 no2 nn2 np2 nd2 pt2 op2, cl_I Tk F t no0 nn0 np0 pt0 Q0 Q2 (e + 1) st2 (fr_g c) (f2 :: fs2) ops2 e no2 nn2 np2 nd2 pt2 a_frameCode a_framePlace op2 →
        ∀ y, y = nI (fs2.length + 1) + (-1) → wX_closeFrames_7 post (nI level) n y f_width (nI L) f_foundPlace f_tokenCount (nI (fs2.length + 1)) (nI (ops2.length + 1)) f_defCount (nI (e + 1)) a_text a_tokenCode a_tokenPlace a_frameCode a_framePlace op2 a_defPlace a_defFirst a_defEnd no2 nn2 np2 nd2 a_nodeKind pt2 a_size a_kindFound a_choice a_status a_result a_slotFunction a_slotArgument := by
      intro Q2 st2 ops2 no2 nn2 np2 nd2 pt2 op2 I2 y ey
      rw [ey, pk_m1]
      exact ih f2 Q2 (e + 1) st2 (fr_g c) ops2 e no2 nn2 np2 nd2 pt2 op2 n I2 gl hzz (by omega)
    rcases rd with ⟨r7, rG⟩ | ⟨r7, r32, a, rest, ro, rG⟩ | ⟨r32, a, b, rest, ro, rG⟩
    · -- one part
      have n32 : c ≠ 32 := fun q => by rw [q] at r7; exact absurd r7 (by decide)
      have n33 : c ≠ 33 := fun q => by rw [q] at r7; exact absurd r7 (by decide)
      refine br_f (fun q => n32 (x6.mp ((nI_eq (b := 6) (by omega) (by decide)).mp q))) (br_f (fun q => n33 (x7.mp ((nI_eq (b := 7) (by omega) (by decide)).mp q))) ⟨hin, ?_⟩)
      rw [nI_clamp (by omega), hpl, r7]
      refine br_t rfl ?_
      have hv := all v (by simp)
      obtain ⟨q1, q2, q3, q4⟩ := cl_dp i7 hv.1 hv.2 (by omega)
      have k13 := nd_13 rG.1.1
      simp only [nd_Us] at k13
      obtain ⟨w1, w2⟩ := xp_nn hK (i := p) (t := c) (by omega) k13
      have ho : op ops.length = nI v := i10.1
      refine ad_X hT (k := 1) (r := ops.length) (t := c) (v0 := v) (v1 := e) (v2 := e) (d0 := Q 11 v) (d1 := 0) (d2 := 0) (D0 := nd_m 0 (Q 11 v)) (D1 := nd_m 0 (Q 11 v)) (D2 := nd_m 0 (Q 11 v)) (by omega) e320 (by omega) (by omega) hfm.1 pL w2
        ⟨fun _ => ⟨ho, q1, q2, q3⟩, fun q => absurd Nat.one_pos q⟩ ⟨fun q => absurd q (by omega), fun _ => rfl⟩ ⟨fun q => absurd q (by omega), fun _ => rfl⟩ rfl rfl rfl ?_
      rw [w1]
      have m0 : nd_m 0 (Q 11 v) ≤ e - 120 := xp_m3 (by omega) (by omega)
      exact nx0 _ _ _ _ _ _ _ _ _ (cl_nx I0 rG (by omega) (Nat.le_refl _) i10.2 rfl)
    · -- two parts
      have hl2 := congrArg List.length ro
      rw [List.length_cons] at hl2
      have hv := all v (by simp)
      have ha := all a (by rw [ro]; simp)
      obtain ⟨q1, q2, q3, q4⟩ := cl_dp i7 hv.1 hv.2 (by omega)
      obtain ⟨s1, s2, s3, s4⟩ := cl_dp i7 ha.1 ha.2 (by omega)
      have k13 := nd_13 rG.1.1
      simp only [nd_Us] at k13
      have k13 : fr_p c = 13 ↔ tt_k Tk p = 13 := k13
      obtain ⟨w1, w2⟩ := xp_nn hK (i := p) (t := fr_p c) (by omega) k13
      have ho : op ops.length = nI v := i10.1
      have hr := i10.2
      rw [ro] at hr
      have ho1 : op rest.length = nI a := hr.1
      rw [hl2] at ho
      have p34 : fr_p c < 34 := by
        unfold fr_p
        split
        · omega
        · split
          · omega
          · exact hfm.1
      have m0 : nd_m (nd_m 0 (Q 11 a)) (Q 11 v) ≤ e - 120 := xp_m3 (xp_m3 (by omega) (by omega)) (by omega)
      have fin : wpX_addNode (fun u => match u with | (f_width9, f_textLength9, f_foundPlace9, f_tokenCount9, f_frameCount9, f_operandCount9, f_defCount9, f_nodeEnd9, a_text9, a_tokenCode9, a_tokenPlace9, a_frameCode9, a_framePlace9, a_operand9, a_defPlace9, a_defFirst9, a_defEnd9, a_nodeOp9, a_nodeNumber9, a_nodePlace9, a_nodeDepth9, a_nodeKind9, a_part9, a_size9, a_kindFound9, a_choice9, a_status9, a_result9, a_slotFunction9, a_slotArgument9) => ∀ y, y = nI (fs2.length + 1) + (-1) → wX_closeFrames_7 post (nI level) n y f_width9 f_textLength9 f_foundPlace9 f_tokenCount9 f_frameCount9 f_operandCount9 f_defCount9 f_nodeEnd9 a_text9 a_tokenCode9 a_tokenPlace9 a_frameCode9 a_framePlace9 a_operand9 a_defPlace9 a_defFirst9 a_defEnd9 a_nodeOp9 a_nodeNumber9 a_nodePlace9 a_nodeDepth9 a_nodeKind9 a_part9 a_size9 a_kindFound9 a_choice9 a_status9 a_result9 a_slotFunction9 a_slotArgument9) (f_width, nI L, f_foundPlace, f_tokenCount, nI (fs2.length + 1), nI (rest.length + 2), f_defCount, nI e, a_text, a_tokenCode, a_tokenPlace, a_frameCode, a_framePlace, op, a_defPlace, a_defFirst, a_defEnd, no, nn, np, nd, a_nodeKind, pt, a_size, a_kindFound, a_choice, a_status, a_result, a_slotFunction, a_slotArgument) (nI (xc_t (fr_p c))) (nI (tt_p Tk p)) (nI 2) := by
        refine ad_X hT (k := 2) (r := rest.length) (t := fr_p c) (v0 := a) (v1 := v) (v2 := e) (d0 := Q 11 a) (d1 := Q 11 v) (d2 := 0) (D0 := nd_m 0 (Q 11 a)) (D1 := nd_m (nd_m 0 (Q 11 a)) (Q 11 v)) (D2 := nd_m (nd_m 0 (Q 11 a)) (Q 11 v)) (by omega) e320 (by omega) (by omega) p34 pL w2
          ⟨fun _ => ⟨ho1, s1, s2, s3⟩, fun q => absurd Nat.two_pos q⟩ ⟨fun _ => ⟨ho, q1, q2, q3⟩, fun q => absurd Nat.one_lt_two q⟩ ⟨fun q => absurd q (by omega), fun _ => rfl⟩ rfl rfl rfl ?_
        rw [w1]
        exact nx0 _ _ _ _ _ _ _ _ _ (cl_nx I0 rG (by omega) (by omega) hr.2 rfl)
      refine br_f (fun q => r32 (x6.mp ((nI_eq (b := 6) (by omega) (by decide)).mp q))) ?_
      rw [hl2]
      by_cases e33 : c = 33
      · subst e33
        refine br_t rfl ⟨hin, ?_⟩
        rw [nI_clamp (by omega), hpl]
        exact fin
      · have ep : fr_p c = c := by unfold fr_p; rw [if_neg r32, if_neg e33]
        rw [ep] at fin
        refine br_f (fun q => e33 (x7.mp ((nI_eq (b := 7) (by omega) (by decide)).mp q))) ⟨hin, ?_⟩
        rw [nI_clamp (by omega), hpl]
        exact br_f (fun q => r7 ((nI_eq (b := 7) (by omega) (by decide)).mp q)) fin
    · -- three parts
      subst r32
      have hl2 := congrArg List.length ro
      rw [List.length_cons, List.length_cons] at hl2
      have hv := all v (by simp)
      have ha := all a (by rw [ro]; simp)
      have hb := all b (by rw [ro]; simp)
      obtain ⟨q1, q2, q3, q4⟩ := cl_dp i7 hv.1 hv.2 (by omega)
      obtain ⟨s1, s2, s3, s4⟩ := cl_dp i7 ha.1 ha.2 (by omega)
      obtain ⟨t1, t2, t3, t4⟩ := cl_dp i7 hb.1 hb.2 (by omega)
      have k13 := nd_13 rG.1.1
      simp only [nd_Us] at k13
      have k13 : 3 = 13 ↔ tt_k Tk p = 13 := k13
      obtain ⟨w1, w2⟩ := xp_nn hK (i := p) (t := 3) (by omega) k13
      have ho : op ops.length = nI v := i10.1
      have hr := i10.2
      rw [ro] at hr
      have ho1 : op (rest.length + 1) = nI b := hr.1
      have ho2 : op rest.length = nI a := hr.2.1
      rw [hl2] at ho
      have m0 : nd_m (nd_m (nd_m 0 (Q 11 a)) (Q 11 b)) (Q 11 v) ≤ e - 120 := xp_m3 (xp_m3 (xp_m3 (by omega) (by omega)) (by omega)) (by omega)
      refine br_t rfl ⟨hin, ?_⟩
      rw [nI_clamp (by omega), hpl, hl2]
      refine ad_X hT (k := 3) (r := rest.length) (t := 3) (v0 := a) (v1 := b) (v2 := v) (d0 := Q 11 a) (d1 := Q 11 b) (d2 := Q 11 v) (D0 := nd_m 0 (Q 11 a)) (D1 := nd_m (nd_m 0 (Q 11 a)) (Q 11 b)) (D2 := nd_m (nd_m (nd_m 0 (Q 11 a)) (Q 11 b)) (Q 11 v)) (by omega) e320 (by omega) (by omega) (by decide) pL w2
        ⟨fun _ => ⟨ho2, s1, s2, s3⟩, fun q => absurd (by decide) q⟩ ⟨fun _ => ⟨ho1, t1, t2, t3⟩, fun q => absurd (by decide) q⟩ ⟨fun _ => ⟨ho, q1, q2, q3⟩, fun q => absurd (by decide) q⟩ rfl rfl rfl ?_
      rw [w1]
      exact nx0 _ _ _ _ _ _ _ _ _ (cl_nx I0 rG (by omega) (by omega) hr.2.2 rfl)
theorem cl_X (hT : tx_P L tx a_text) (hK : xp_T L tx Tk) {level : Nat} (h1 : 1 ≤ level) (h7 : level ≤ 7) {post : SX → Prop} (Z : List fr_F → Prop) (hZ : ∀ f fs, Z (f :: fs) → 1 ≤ fr_l f.1 → Z fs)
    {fs1 : List fr_F} {f : fr_F} {Q : Nat → Nat → Nat} {e at0 lev : Nat} {ops : List Nat} {v : Nat}
    (I : cl_I Tk F t no0 nn0 np0 pt0 Q0 Q e at0 lev (f :: fs1) ops v a_nodeOp a_nodeNumber a_nodePlace a_nodeDepth a_part a_frameCode a_framePlace a_operand) (hlev : level ≤ lev) (hz : Z (f :: fs1))
    (hp : ∀ Q e at0 lev f fs ops v no nn np nd pt op, cl_I Tk F t no0 nn0 np0 pt0 Q0 Q e at0 lev (f :: fs) ops v no nn np nd pt a_frameCode a_framePlace op → level ≤ lev → fr_l f.1 < level → Z (f :: fs) →
      post (f_width, nI L, f_foundPlace, f_tokenCount, nI (fs.length + 1), nI (ops.length + 1), f_defCount, nI e, a_text, a_tokenCode, a_tokenPlace, a_frameCode, a_framePlace, op, a_defPlace, a_defFirst, a_defEnd, no, nn, np, nd, a_nodeKind, pt, a_size, a_kindFound, a_choice, a_status, a_result, a_slotFunction, a_slotArgument)) :
    wpX_closeFrames post (f_width, nI L, f_foundPlace, f_tokenCount, nI (fs1.length + 1), nI (ops.length + 1), f_defCount, nI e, a_text, a_tokenCode, a_tokenPlace, a_frameCode, a_framePlace, a_operand, a_defPlace, a_defFirst, a_defEnd, a_nodeOp, a_nodeNumber, a_nodePlace, a_nodeDepth, a_nodeKind, a_part, a_size, a_kindFound, a_choice, a_status, a_result, a_slotFunction, a_slotArgument) (nI level) := by
  intro y ey
  have e1 : nI (fs1.length + 1) - 1 = nI fs1.length := nI_pred _
  rw [ey, e1]
  exact ⟨_, cl_7 hT hK h1 h7 Z hZ hp fs1 f Q e at0 lev ops v a_nodeOp a_nodeNumber a_nodePlace a_nodeDepth a_part a_operand (fs1.length + 1) I hlev hz (Nat.lt_succ_self _)⟩
end
