-- Y reads the defs
def rd_L (F : Nat) (nop0 nnm0 npl0 nA0 nB0 nC0 nLo0 nHi0 nLv0 nop nnm npl nA nB nC nLo nHi nLv : Nat → Int32) : Prop := ∀ j, j < F → nop j = nop0 j ∧ nnm j = nnm0 j ∧ npl j = npl0 j ∧ nA j = nA0 j ∧ nB j = nB0 j ∧ nC j = nC0 j ∧ nLo j = nLo0 j ∧ nHi j = nHi0 j ∧ nLv j = nLv0 j
theorem rd_Lt {F : Nat} {nop0 nnm0 npl0 nA0 nB0 nC0 nLo0 nHi0 nLv0 nop nnm npl nA nB nC nLo nHi nLv nop2 nnm2 npl2 nA2 nB2 nC2 nLo2 nHi2 nLv2 : Nat → Int32} (h : rd_L F nop0 nnm0 npl0 nA0 nB0 nC0 nLo0 nHi0 nLv0 nop nnm npl nA nB nC nLo nHi nLv) (g : rd_L F nop nnm npl nA nB nC nLo nHi nLv nop2 nnm2 npl2 nA2 nB2 nC2 nLo2 nHi2 nLv2) : rd_L F nop0 nnm0 npl0 nA0 nB0 nC0 nLo0 nHi0 nLv0 nop2 nnm2 npl2 nA2 nB2 nC2 nLo2 nHi2 nLv2 := by
  intro j hj
  obtain ⟨a1, a2, a3, a4, a5, a6, a7, a8, a9⟩ := h j hj
  obtain ⟨b1, b2, b3, b4, b5, b6, b7, b8, b9⟩ := g j hj
  exact ⟨b1.trans a1, b2.trans a2, b3.trans a3, b4.trans a4, b5.trans a5, b6.trans a6, b7.trans a7, b8.trans a8, b9.trans a9⟩
theorem rd_Lm {F G : Nat} {nop0 nnm0 npl0 nA0 nB0 nC0 nLo0 nHi0 nLv0 nop nnm npl nA nB nC nLo nHi nLv : Nat → Int32} (h : rd_L F nop0 nnm0 npl0 nA0 nB0 nC0 nLo0 nHi0 nLv0 nop nnm npl nA nB nC nLo nHi nLv) (g : G ≤ F) : rd_L G nop0 nnm0 npl0 nA0 nB0 nC0 nLo0 nHi0 nLv0 nop nnm npl nA nB nC nLo nHi nLv := fun j hj => h j (by omega)
section
variable {f_width f_length f_place f_toks f_nodes f_defs : Int32} {a_text a_tok a_tokNum a_tokPlace a_opened a_nOp a_nNum a_nPlace a_nA a_nB a_nC a_nLo a_nHi a_nLevel a_defName a_defPlace a_defRoot a_loaded a_count a_status : Nat → Int32} {a_number : Nat → Int64} {a_origin a_choice a_slotF a_slotX a_slotHeld : Nat → Int32} {tk tn tp : Nat → Nat} {T : Nat} {Q : Nat → Nat → Nat} {post : SY → Prop}
theorem rd_90 (hT : T ≤ 200) (ht : ∀ i, i < T → a_tok i = nI (tk i) ∧ a_tokNum i = nI (tn i) ∧ a_tokPlace i = nI (tp i)) (hk : ∀ i, i < T → tk i ≤ 27) {F E c s : Nat} (hFE : F < E) (hE : E ≤ 320) (hRd : Q 11 (E - 1) < 2 ^ 30)
    (hok : ∀ u, F ≤ u → u < E → nd_ok tk tn Q u) {J : Int32 → Int32 → Int32 → Int32 → Int32 → Int32 → Int32 → Int32 → (Nat → Int32) → (Nat → Int32) → (Nat → Int32) → (Nat → Int32) → (Nat → Int32) → (Nat → Int32) → (Nat → Int32) → (Nat → Int32) → (Nat → Int32) → (Nat → Int32) → (Nat → Int32) → (Nat → Int32) → (Nat → Int32) → (Nat → Int32) → (Nat → Int32) → (Nat → Int32) → (Nat → Int32) → (Nat → Int32) → (Nat → Int32) → (Nat → Int32) → (Nat → Int64) → (Nat → Int32) → (Nat → Int32) → (Nat → Int32) → (Nat → Int32) → (Nat → Int32) → Prop} {g0 : Nat → Nat} {nop0 nnm0 npl0 nA0 nB0 nC0 nLo0 nHi0 nLv0 : Nat → Int32}
    (hJ : ∀ g nop nnm npl nA nB nC nLo nHi nLv, yb_I tk tp Q T F E (Q 11 (E - 1)) E E g nop nnm npl nA nB nC nLo nHi nLv → (∀ j, j < F → g j = g0 j) → rd_L F nop0 nnm0 npl0 nA0 nB0 nC0 nLo0 nHi0 nLv0 nop nnm npl nA nB nC nLo nHi nLv → J (nI (s + 1)) (nI (s + 1)) f_width f_length f_place (nI T) (nI E) (nI (c + 1)) a_text a_tok a_tokNum a_tokPlace a_opened nop nnm npl nA nB nC nLo nHi nLv a_defName a_defPlace a_defRoot a_loaded a_count a_status a_number a_origin a_choice a_slotF a_slotX a_slotHeld) :
    ∀ d k N g nop nnm npl nA nB nC nLo nHi nLv, k + d = E → yb_I tk tp Q T F E (Q 11 (E - 1)) k N g nop nnm npl nA nB nC nLo nHi nLv → (∀ j, j < F → g j = g0 j) → rd_L F nop0 nnm0 npl0 nA0 nB0 nC0 nLo0 nHi0 nLv0 nop nnm npl nA nB nC nLo nHi nLv → ∀ n, d < n →
      wY_readDefs_90 post J (nI s) n (nI k) f_width f_length f_place (nI T) (nI N) (nI c) a_text a_tok a_tokNum a_tokPlace a_opened nop nnm npl nA nB nC nLo nHi nLv a_defName a_defPlace a_defRoot a_loaded a_count a_status a_number a_origin a_choice a_slotF a_slotX a_slotHeld := by
  intro d
  induction d with
  | zero =>
    intro k N g nop nnm npl nA nB nC nLo nHi nLv hkd I hg hL n hn
    obtain ⟨n, rfl⟩ : ∃ m, n = m + 1 := ⟨n - 1, by omega⟩
    have bd := bf_bd I.2.2.1 I.1 I.2.1 (by omega) (fun j h1 h2 => (I.2.2.2.1 j (by have := I.1; omega) h2).2.1)
    have := I.2.1
    have eN : N = E := by omega
    have ek : k = E := by omega
    subst eN ek
    refine br_t (nI_le (Nat.le_refl _) (by omega)) (fun y ey z ez w ew => ?_)
    rw [nI_1] at ey ez ew
    subst ey ez ew
    exact hJ g _ _ _ _ _ _ _ _ _ I hg hL
  | succ d ih =>
    intro k N g nop nnm npl nA nB nC nLo nHi nLv hkd I hg hL n hn
    obtain ⟨n, rfl⟩ : ∃ m, n = m + 1 := ⟨n - 1, by omega⟩
    have iF := I.1
    have ikN := I.2.1
    have bd := bf_bd I.2.2.1 I.1 I.2.1 (by omega) (fun j h1 h2 => (I.2.2.2.1 j (by omega) h2).2.1)
    have kN : k < N := by
      rcases Nat.lt_or_ge k N with q | q
      · exact q
      · have e : k = N := by omega
        subst e
        have := bf_N I.2.2.1 iF (by omega)
        omega
    obtain ⟨k1, k2, k3, l, h, lv, k4, k5, k6, k7, k8, k9, k10⟩ := I.2.2.2.1 k iF kN
    have oku := hok (g k) (by omega) k3
    have n3 : pg_n (Q 0 (g k)) ≤ 3 := by unfold pg_n; repeat' split
                                         all_goals omega
    have kd := yb_k oku k1
    have lvb := k9 (Nat.le_refl _)
    have nB : bf_B Q F E (k + 1) (N + pg_n (Q 0 (g k))) (bf_g g N Q (g k)) := bf_st I.2.2.1 iF kN oku.2.1 n3
    have bd2 := bf_bd nB (by omega) (by omega) (by omega) (fun j h1 h2 => by
      by_cases q : j < N
      · rw [bf_gl q]; exact (I.2.2.2.1 j (by omega) q).2.1
      · obtain ⟨i, rfl⟩ : ∃ i, j = N + i := ⟨j - N, by omega⟩
        rw [yb_gi]; exact (kd i (by omega)).2.1)
    refine br_f (nI_ge kN (by omega)) ?_
    refine sp_Y (tn := tn) (tp := tp) (u := g k) (l := l) (h := h) (lv0 := lv) hT ht hk kN (by omega) oku.1 k7 k8 k4 k5 k6 (fun nop2 nnm2 npl2 nA2 nB2 nC2 nLo2 nHi2 nLv2 R => fun y ey => ?_)
    rw [ey, nI_1]
    refine ih (k + 1) _ (bf_g g N Q (g k)) _ _ _ _ _ _ _ _ _ (by omega) (yb_s (l := l) (h := h) I kN oku k6 (by omega) hRd R) (fun j hj => by rw [bf_gl (by omega)]; exact hg j hj) (rd_Lt hL (fun j hj => ?_)) n (by omega)
    obtain ⟨⟨r1, r1k⟩, ⟨r2, r2k⟩, ⟨r3, r3k⟩, ⟨r4, r4k⟩, ⟨r5, r5k⟩, ⟨r6, r6k⟩, r7, r8⟩ := R
    have := r7 j (by omega)
    exact ⟨r1 j (by omega), r2 j (by omega), r3 j (by omega), r4 j (by omega), r5 j (by omega), r6 j (by omega), this.1, this.2.1, this.2.2⟩
def rd_P (tn tp : Nat → Nat) (ds : List df_D) (c : Nat) (dn dpl drt : Nat → Int32) : Prop := ∀ i d, i < c → ds[i]? = some d → dn i = nI (tn d.1) ∧ dpl i = nI (tp d.1) ∧ drt i = nI d.2.1
def rd_B (tk tp : Nat → Nat) (Q : Nat → Nat → Nat) (T : Nat) (ds : List df_D) (c e : Nat) (g : Nat → Nat) (nop nnm npl nA nB nC nLo nHi nLv : Nat → Int32) : Prop :=
  ∀ i d, i < c → ds[i]? = some d → d.2.2.1 ≤ e ∧ d.2.1 < d.2.2.1 ∧ yb_I tk tp Q T d.2.1 d.2.2.1 (Q 11 (d.2.2.1 - 1)) d.2.2.1 d.2.2.1 g nop nnm npl nA nB nC nLo nHi nLv
theorem rd_15 (hT : T ≤ 200) (ht : ∀ i, i < T → a_tok i = nI (tk i) ∧ a_tokNum i = nI (tn i) ∧ a_tokPlace i = nI (tp i)) (hk : ∀ i, i < T → tk i ≤ 27) {Ee : Nat} (hE : Ee ≤ 320) {ds : List df_D} (hds : ds.length ≤ 50)
    (hok : ∀ u, 120 ≤ u → u < Ee → nd_ok tk tn Q u ∧ Q 11 u < 2 ^ 30) {nop0 nnm0 npl0 nA0 nB0 nC0 nLo0 nHi0 nLv0 : Nat → Int32}
    (hp : ∀ g opd dn dpl drt nop nnm npl nA nB nC nLo nHi nLv, rd_P tn tp ds ds.length dn dpl drt → drt ds.length = nI Ee → rd_B tk tp Q T ds ds.length Ee g nop nnm npl nA nB nC nLo nHi nLv → rd_L 120 nop0 nnm0 npl0 nA0 nB0 nC0 nLo0 nHi0 nLv0 nop nnm npl nA nB nC nLo nHi nLv → opd = a_opened →
      post (f_width, f_length, f_place, nI T, nI Ee, nI ds.length, a_text, a_tok, a_tokNum, a_tokPlace, a_opened, nop, nnm, npl, nA, nB, nC, nLo, nHi, nLv, dn, dpl, drt, a_loaded, a_count, a_status, a_number, a_origin, a_choice, a_slotF, a_slotX, a_slotHeld)) :
    ∀ r c fr e g dn dpl drt nop nnm npl nA nB nC nLo nHi nLv, md_F tk Q r fr e T Ee → ds.drop c = r → c ≤ ds.length → 120 ≤ e → rd_P tn tp ds c dn dpl drt → rd_B tk tp Q T ds c e g nop nnm npl nA nB nC nLo nHi nLv → rd_L 120 nop0 nnm0 npl0 nA0 nB0 nC0 nLo0 nHi0 nLv0 nop nnm npl nA nB nC nLo nHi nLv → ∀ n, T - fr < n →
      wY_readDefs_15 post n (nI fr) (nI fr) f_width f_length f_place (nI T) (nI e) (nI c) a_text a_tok a_tokNum a_tokPlace a_opened nop nnm npl nA nB nC nLo nHi nLv dn dpl drt a_loaded a_count a_status a_number a_origin a_choice a_slotF a_slotX a_slotHeld := by
  intro r
  induction r with
  | nil =>
    intro c fr e g dn dpl drt nop nnm npl nA nB nC nLo nHi nLv hM hd hc he hP hB hL n hn
    obtain ⟨n, rfl⟩ : ∃ m, n = m + 1 := ⟨n - 1, by omega⟩
    obtain ⟨rfl, rfl⟩ := hM
    have ec : c = ds.length := by have := List.drop_eq_nil_iff.mp hd; omega
    subst ec
    refine br_t (nI_le (Nat.le_refl _) (by omega)) ⟨vp_in_nI (by omega) (by decide), fun A eA => ?_⟩
    rw [nI_clamp (by omega)] at eA
    subst eA
    exact hp g a_opened _ _ _ _ _ _ _ _ _ _ _ _ (fun i d hi hs => by rw [pk_un (by omega)]; exact hP i d hi hs) pk_us hB hL rfl
  | cons d r ih =>
    intro c fr e g dn dpl drt nop nnm npl nA nB nC nLo nHi nLv hM hd hc he hP hB hL n hn
    obtain ⟨m1, m2, mD, m4⟩ := hM
    obtain ⟨p1, p2, p3, p4, p5, p6, p7, p8, p9⟩ := mD
    have le := md_le _ _ _ _ _ m4
    have p60 := p6.1
    subst m1 m2
    have ds1 : ds[c]? = some d := by
      have a : (ds.drop c)[0]? = some d := by rw [hd]; rfl
      rw [List.getElem?_drop, Nat.add_zero] at a
      exact a
    have cl : c < ds.length := by
      rcases Nat.lt_or_ge c ds.length with q | q
      · exact q
      · rw [List.getElem?_eq_none q] at ds1; exact absurd ds1 (by simp)
    have ds2 : ds.drop (c + 1) = r := by
      have a : ds.drop (c + 1) = (ds.drop c).drop 1 := by rw [List.drop_drop]
      rw [a, hd]; rfl
    -- at the ';'
    have semi : ∀ n, T - d.2.2.2 < n → wY_readDefs_15 post n (nI d.1) (nI d.2.2.2) f_width f_length f_place (nI T) (nI d.2.1) (nI c) a_text a_tok a_tokNum a_tokPlace a_opened nop nnm npl nA nB nC nLo nHi nLv dn dpl drt a_loaded a_count a_status a_number a_origin a_choice a_slotF a_slotX a_slotHeld := by
      intro n hn
      obtain ⟨n, rfl⟩ : ∃ m, n = m + 1 := ⟨n - 1, by omega⟩
      have sT : d.2.2.2 < T := by omega
      have fT : d.1 < T := by omega
      have hin : vp_in (nI d.1) 200 := vp_in_nI (by omega) (by decide)
      refine br_f (nI_ge sT (by omega)) ⟨vp_in_nI (by omega) (by decide), ?_⟩
      rw [nI_clamp (by omega), (ht _ sT).1, p3]
      refine br_t rfl ⟨hin, vp_in_nI (by omega) (by decide), fun A eA => ⟨hin, vp_in_nI (by omega) (by decide), fun B eB => ⟨vp_in_nI (by omega) (by decide), fun C eC => ?_⟩⟩⟩
      rw [nI_clamp (n := c) (by omega), nI_clamp (n := d.1) (by omega), (ht _ fT).2.1] at eA
      rw [nI_clamp (n := c) (by omega), nI_clamp (n := d.1) (by omega), (ht _ fT).2.2] at eB
      rw [nI_clamp (by omega)] at eC
      subst eA eB eC
      have e2 : nI d.1 + 2 = nI (d.1 + 2) := nI_add _ 2
      rw [e2]
      refine pr_Y (N := d.2.1) (by omega) ?_
      have I0 : yb_I tk tp Q T d.2.1 d.2.2.1 (Q 11 (d.2.2.1 - 1)) d.2.1 (d.2.1 + 1) (fun j => if j = d.2.1 then d.2.2.1 - 1 else g j) nop nnm npl nA nB nC (upd nLo d.2.1 (nI (d.1 + 2))) (upd nHi d.2.1 (nI d.2.2.2)) (upd nLv d.2.1 0) := by
        have gF : (fun j => if j = d.2.1 then d.2.2.1 - 1 else g j) d.2.1 = d.2.2.1 - 1 := if_pos rfl
        refine ⟨Nat.le_refl _, by omega, bf_0 (by rw [if_pos rfl]; omega) (by rw [if_pos rfl]; exact p7), fun j h1 h2 => ?_, fun j h1 h2 => by omega, ⟨d.2.1, Nat.le_refl _, by omega, 0, pk_us, Or.inr ⟨Nat.le_refl _, by rw [gF]; omega⟩⟩, by rw [gF]; omega⟩
        have ej : j = d.2.1 := by omega
        subst ej
        rw [gF]
        exact ⟨by omega, by omega, by omega, d.1 + 2, d.2.2.2, 0, pk_us, pk_us, pk_us, p5, by omega, fun _ => by omega, fun q => by omega⟩
      have h11 := (hok (d.2.2.1 - 1) (by omega) (by omega)).2
      refine ⟨_, rd_90 (F := d.2.1) (E := d.2.2.1) (c := c) (s := d.2.2.2) (g0 := fun j => if j = d.2.1 then d.2.2.1 - 1 else g j) (nop0 := nop) (nnm0 := nnm) (npl0 := npl) (nA0 := nA) (nB0 := nB) (nC0 := nC) (nLo0 := nLo) (nHi0 := nHi) (nLv0 := nLv) hT ht hk p8 (by omega) h11 (fun u h1 h2 => (hok u (by omega) (by omega)).1) ?_
        (d.2.2.1 - d.2.1) d.2.1 (d.2.1 + 1) _ _ _ _ _ _ _ _ _ _ (by omega) I0 (fun j hj => rfl) (fun j hj => ⟨rfl, rfl, rfl, rfl, rfl, rfl, pk_un (by omega), pk_un (by omega), pk_un (by omega)⟩) _ (Nat.lt_succ_self _)⟩
      intro g2 nop2 nnm2 npl2 nA2 nB2 nC2 nLo2 nHi2 nLv2 I2 hg2 hL2
      refine ih (c + 1) (d.2.2.2 + 1) d.2.2.1 g2 _ _ _ _ _ _ _ _ _ _ _ _ m4 ds2 (by omega) (by omega) (fun i d2 hi hs => ?_) (fun i d2 hi hs => ?_) (rd_Lt hL (rd_Lm hL2 (by omega))) n (by omega)
      · by_cases q : i = c
        · subst q
          rw [ds1] at hs
          have := Option.some.inj hs
          subst this
          rw [pk_us, pk_us, pk_us]; exact ⟨rfl, rfl, rfl⟩
        · rw [pk_un q, pk_un q, pk_un q]; exact hP i d2 (by omega) hs
      · by_cases q : i = c
        · subst q
          rw [ds1] at hs
          have := Option.some.inj hs
          subst this
          exact ⟨Nat.le_refl _, p8, I2⟩
        · obtain ⟨q1, q2, q3⟩ := hB i d2 (by omega) hs
          refine ⟨by omega, q2, yb_c (fun j hj => ?_) (fun j hj => hL2 j (by omega)) q2 q3⟩
          rw [hg2 j (by omega)]
          exact if_neg (by omega)
    -- up to it
    have skip : ∀ k i, i + k = d.2.2.2 → d.1 ≤ i → ∀ n, T - i < n → wY_readDefs_15 post n (nI d.1) (nI i) f_width f_length f_place (nI T) (nI d.2.1) (nI c) a_text a_tok a_tokNum a_tokPlace a_opened nop nnm npl nA nB nC nLo nHi nLv dn dpl drt a_loaded a_count a_status a_number a_origin a_choice a_slotF a_slotX a_slotHeld := by
      intro k
      induction k with
      | zero =>
        intro i hi h1 n hn
        have : i = d.2.2.2 := by omega
        subst this
        exact semi n hn
      | succ k ihk =>
        intro i hi h1 n hn
        obtain ⟨n, rfl⟩ : ∃ m, n = m + 1 := ⟨n - 1, by omega⟩
        have iT : i < T := by omega
        have k27 := hk i iT
        have n25 := p4 i h1 (by omega)
        refine br_f (nI_ge iT (by omega)) ⟨vp_in_nI (by omega) (by decide), ?_⟩
        rw [nI_clamp (by omega), (ht i iT).1]
        refine br_f (fun q => n25 ((nI_eq (b := 25) (by omega) (by decide)).mp q)) (fun y ey => ?_)
        rw [ey, nI_1]
        exact ihk (i + 1) (by omega) (by omega) n (by omega)
    exact skip (d.2.2.2 - d.1) d.1 (by omega) (Nat.le_refl _) n hn
theorem rd_Y (hT : T ≤ 200) (ht : ∀ i, i < T → a_tok i = nI (tk i) ∧ a_tokNum i = nI (tn i) ∧ a_tokPlace i = nI (tp i)) (hk : ∀ i, i < T → tk i ≤ 27) {Ee : Nat} (hE : Ee ≤ 320) {ds : List df_D}
    (hM : md_F tk Q ds 0 120 T Ee) (hok : ∀ u, 120 ≤ u → u < Ee → nd_ok tk tn Q u ∧ Q 11 u < 2 ^ 30)
    (hp : ∀ g dn dpl drt nop nnm npl nA nB nC nLo nHi nLv, rd_P tn tp ds ds.length dn dpl drt → drt ds.length = nI Ee → rd_B tk tp Q T ds ds.length Ee g nop nnm npl nA nB nC nLo nHi nLv → rd_L 120 a_nOp a_nNum a_nPlace a_nA a_nB a_nC a_nLo a_nHi a_nLevel nop nnm npl nA nB nC nLo nHi nLv →
      post (f_width, f_length, f_place, nI T, nI Ee, nI ds.length, a_text, a_tok, a_tokNum, a_tokPlace, a_opened, nop, nnm, npl, nA, nB, nC, nLo, nHi, nLv, dn, dpl, drt, a_loaded, a_count, a_status, a_number, a_origin, a_choice, a_slotF, a_slotX, a_slotHeld)) :
    wpY_readDefs post (f_width, f_length, f_place, nI T, f_nodes, f_defs, a_text, a_tok, a_tokNum, a_tokPlace, a_opened, a_nOp, a_nNum, a_nPlace, a_nA, a_nB, a_nC, a_nLo, a_nHi, a_nLevel, a_defName, a_defPlace, a_defRoot, a_loaded, a_count, a_status, a_number, a_origin, a_choice, a_slotF, a_slotX, a_slotHeld) := by
  have le := md_le _ _ _ _ _ hM
  refine ⟨T + 1, rd_15 hT ht hk hE (ds := ds) (by omega) hok (fun g _ dn dpl drt nop nnm npl nA nB nC nLo nHi nLv h1 h2 h3 h4 _ => hp g dn dpl drt nop nnm npl nA nB nC nLo nHi nLv h1 h2 h3 h4)
    ds 0 0 120 (fun j => j) a_defName a_defPlace a_defRoot a_nOp a_nNum a_nPlace a_nA a_nB a_nC a_nLo a_nHi a_nLevel hM rfl (Nat.zero_le _) (Nat.le_refl _) (fun i d hi _ => by omega) (fun i d hi _ => by omega) (fun j _ => ⟨rfl, rfl, rfl, rfl, rfl, rfl, rfl, rfl, rfl⟩) _ (by omega)⟩
end
