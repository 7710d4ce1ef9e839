-- X: do the loaded functions agree, where does the text clash, which kinds are found
def la_ok (P : Nat → Nat → Nat) (out : Nat → Prop) (kc : Nat → Nat) : Prop :=
  ∀ f, f < 5 → 0 < P 5 f → ¬ out f → (∀ u, f * 24 ≤ u → u < f * 24 + P 5 f → lc_m P kc u) ∧ ki_k P kc (f * 24 + P 5 f - 1) = kc f
theorem la_ki {P : Nat → Nat → Nat} {kc : Nat → Nat} (h24 : ∀ f, P 5 f ≤ 24) : la_ok P (fun _ => False) kc ↔ ki_ok P kc := by
  constructor
  · intro h
    refine ⟨fun u hu => ?_, fun f hf hs => (h f hf hs (fun q => q)).2⟩
    obtain ⟨h1, h2⟩ := hu
    exact (h (u / 24) (by omega) (by omega) (fun q => q)).1 u (by omega) (by omega)
  · intro h f hf hs _
    refine ⟨fun u h1 h2 => ?_, h.2 f hf hs⟩
    have := h24 f
    have e : u / 24 = f := by omega
    exact h.1 u ⟨by omega, by rw [e]; omega⟩
def xl_P (P : Nat → Nat → Nat) (sz no nn np pt : Nat → Int32) : Prop :=
  pg_ok P ∧ rl_le P ∧ (∀ f, f < 5 → sz f = nI (P 5 f)) ∧ (∀ u, ou_us P u → rl_nX P no nn pt u) ∧ (∀ u, u < 120 → np u = 0)
theorem xl_S {P : Nat → Nat → Nat} {sz no nn np pt : Nat → Int32} (h : xl_P P sz no nn np pt) {f : Nat} (hf : f < 5) (hs : 0 < P 5 f) : lc_S P (fun _ => 0) (f * 24) (f * 24 + P 5 f) no nn np pt := by
  obtain ⟨p1, p2, p3, p4, p5⟩ := h
  have h24 := p1.2.2.1 f
  refine ⟨by omega, by omega, fun u h1 h2 => ?_⟩
  have e : u / 24 = f := by omega
  have hu : ou_us P u := ⟨by omega, by rw [e]; omega⟩
  obtain ⟨o1, o2, o3, o4⟩ := p1.2.2.2 u hu
  obtain ⟨⟨a1, a2⟩, ⟨b1, b2⟩, ⟨c1, c2⟩⟩ := p2 u hu
  refine ⟨p4 u hu, ⟨o1, fun q => (o3 q).1, a1, b1, c1⟩, p5 u (by omega), Nat.zero_le _, by omega, by omega, by omega, fun j hj => (o4 j hj).1⟩
def tb_b (Tk : List tz_T) (Q : Nat → Nat → Nat) (ds : List df_D) (e : Nat) (kc : Nat → Nat) (p : Nat) : Prop :=
  (∃ u, 120 ≤ u ∧ u < e ∧ ¬ lc_m Q kc u ∧ p = tt_p Tk (Q 9 u)) ∨ (∃ i d, ds[i]? = some d ∧ ki_k Q kc (d.2.2.1 - 1) ≠ kc (mn_f Tk ds i) ∧ p = tt_p Tk d.1)
def tb_R (Tk : List tz_T) (Q : Nat → Nat → Nat) (ds : List df_D) (e : Nat) (kc : Nat → Nat) (m : Nat) : Prop :=
  m ≤ 201 ∧ (∀ p, tb_b Tk Q ds e kc p → m ≤ p) ∧ (m = 201 ∨ tb_b Tk Q ds e kc m)
theorem tb_u {Tk : List tz_T} {Q : Nat → Nat → Nat} {ds : List df_D} {e : Nat} {kc : Nat → Nat} {m n : Nat} (hb : ∀ p, tb_b Tk Q ds e kc p → p ≤ 200) (h : tb_R Tk Q ds e kc m) (g : tb_R Tk Q ds e kc n) : m = n := by
  obtain ⟨h1, h2, h3⟩ := h
  obtain ⟨g1, g2, g3⟩ := g
  rcases h3 with h3 | h3 <;> rcases g3 with g3 | g3
  · omega
  · have := h2 n g3; have := hb n g3; omega
  · have := g2 m h3; have := hb m h3; omega
  · have := h2 n g3; have := g2 m h3; omega
-- over the choices: none if some choice fits, else the furthest place
def cl_v (V : Nat → Prop) (M : Nat → Nat → Prop) (n m : Nat) : Prop := m ≤ 201 ∧ (∀ c x, c < n → V c → M c x → x ≤ m) ∧ (m = 0 ∨ ∃ c, c < n ∧ V c ∧ M c m)
def cl_R (V : Nat → Prop) (M : Nat → Nat → Prop) (r : Option Nat) : Prop :=
  (r = none ∧ ∃ c, c < 243 ∧ V c ∧ M c 201) ∨ (∃ m, r = some m ∧ m ≤ 200 ∧ (¬ ∃ c, c < 243 ∧ V c ∧ M c 201) ∧ cl_v V M 243 m)
theorem cl_u {V : Nat → Prop} {M : Nat → Nat → Prop} {r s : Option Nat} (h : cl_R V M r) (g : cl_R V M s) : r = s := by
  rcases h with ⟨h1, h2⟩ | ⟨m, h1, h2, h3, h4, h5, h6⟩ <;> rcases g with ⟨g1, g2⟩ | ⟨n, g1, g2, g3, g4, g5, g6⟩
  · rw [h1, g1]
  · exact absurd h2 g3
  · exact absurd g2 h3
  · have : m = n := by
      rcases h6 with h6 | ⟨c, c1, c2, c3⟩ <;> rcases g6 with g6 | ⟨d, d1, d2, d3⟩
      · omega
      · have := h5 d n d1 d2 d3; omega
      · have := g5 c m c1 c2 c3; omega
      · have := h5 d n d1 d2 d3; have := g5 c m c1 c2 c3; omega
    rw [h1, g1, this]
theorem cl_0 (V : Nat → Prop) (M : Nat → Nat → Prop) : cl_v V M 0 0 := ⟨by omega, fun c x h => by omega, Or.inl rfl⟩
theorem cl_n {V : Nat → Prop} {M : Nat → Nat → Prop} {n m : Nat} (h : cl_v V M n m) (hv : ¬ V n) : cl_v V M (n + 1) m := by
  refine ⟨h.1, fun c x h1 h2 h3 => ?_, ?_⟩
  · by_cases e : c = n
    · rw [e] at h2; exact absurd h2 hv
    · exact h.2.1 c x (by omega) h2 h3
  · rcases h.2.2 with q | ⟨c, c1, c2⟩
    · exact Or.inl q
    · exact Or.inr ⟨c, by omega, c2⟩
theorem cl_y {V : Nat → Prop} {M : Nat → Nat → Prop} {n m x : Nat} (h : cl_v V M n m) (hv : V n) (hx : M n x) (hx2 : x ≤ 201) (hu : ∀ y, M n y → y = x) : cl_v V M (n + 1) (if x ≤ m then m else x) := by
  refine ⟨by have := h.1; split <;> omega, fun c y h1 h2 h3 => ?_, ?_⟩
  · by_cases e : c = n
    · rw [e] at h3
      have := hu y h3
      split <;> omega
    · have := h.2.1 c y (by omega) h2 h3
      split <;> omega
  · split
    · rcases h.2.2 with q | ⟨c, c1, c2⟩
      · exact Or.inl q
      · exact Or.inr ⟨c, by omega, c2⟩
    · exact Or.inr ⟨n, by omega, hv, hx⟩
section
variable {f_width f_textLength f_foundPlace f_tokenCount f_frameCount f_operandCount f_defCount f_nodeEnd : Int32} {a_text a_tokenCode a_tokenPlace a_frameCode a_framePlace a_operand a_defPlace a_defFirst a_defEnd a_nodeOp a_nodeNumber a_nodePlace a_nodeDepth a_nodeKind a_part a_size a_kindFound a_choice a_status : Nat → Int32} {a_result : Nat → Int64} {a_slotFunction a_slotArgument : Nat → Int32} {P : Nat → Nat → Nat} {kc : Nat → Nat}
theorem la_X (hP : xl_P P a_size a_nodeOp a_nodeNumber a_nodePlace a_part) (hc : kx_c kc a_choice) {m : Nat} (hm : m < 32) {post : Int32 → SX → Prop}
    (h1 : la_ok P (fun f => m.testBit f = true) kc → ∀ nk, post 1 (f_width, f_textLength, f_foundPlace, f_tokenCount, f_frameCount, f_operandCount, f_defCount, f_nodeEnd, a_text, a_tokenCode, a_tokenPlace, a_frameCode, a_framePlace, a_operand, a_defPlace, a_defFirst, a_defEnd, a_nodeOp, a_nodeNumber, a_nodePlace, a_nodeDepth, nk, a_part, a_size, a_kindFound, a_choice, a_status, a_result, a_slotFunction, a_slotArgument)) (h0 : ¬ la_ok P (fun f => m.testBit f = true) kc → ∀ nk, post 0 (f_width, f_textLength, f_foundPlace, f_tokenCount, f_frameCount, f_operandCount, f_defCount, f_nodeEnd, a_text, a_tokenCode, a_tokenPlace, a_frameCode, a_framePlace, a_operand, a_defPlace, a_defFirst, a_defEnd, a_nodeOp, a_nodeNumber, a_nodePlace, a_nodeDepth, nk, a_part, a_size, a_kindFound, a_choice, a_status, a_result, a_slotFunction, a_slotArgument)) : wpX_loadedAgree post (f_width, f_textLength, f_foundPlace, f_tokenCount, f_frameCount, f_operandCount, f_defCount, f_nodeEnd, a_text, a_tokenCode, a_tokenPlace, a_frameCode, a_framePlace, a_operand, a_defPlace, a_defFirst, a_defEnd, a_nodeOp, a_nodeNumber, a_nodePlace, a_nodeDepth, a_nodeKind, a_part, a_size, a_kindFound, a_choice, a_status, a_result, a_slotFunction, a_slotArgument) (nI m) := by
  have key : ∀ d f nk, f + d = 5 → (∀ g, g < f → 0 < P 5 g → ¬ m.testBit g = true → (∀ u, g * 24 ≤ u → u < g * 24 + P 5 g → lc_m P kc u) ∧ ki_k P kc (g * 24 + P 5 g - 1) = kc g) → ∀ n, d < n →
      wX_loadedAgree_2 post (nI m) n (nI f) f_width f_textLength f_foundPlace f_tokenCount f_frameCount f_operandCount f_defCount f_nodeEnd a_text a_tokenCode a_tokenPlace a_frameCode a_framePlace a_operand a_defPlace a_defFirst a_defEnd a_nodeOp a_nodeNumber a_nodePlace a_nodeDepth nk a_part a_size a_kindFound a_choice a_status a_result a_slotFunction a_slotArgument := by
    intro d
    induction d with
    | zero =>
      intro f nk hf hg n hn
      obtain ⟨n, rfl⟩ : ∃ w, n = w + 1 := ⟨n - 1, by omega⟩
      have : f = 5 := by omega
      subst this
      exact br_t (nI_le (a := 5) (by decide) (by decide)) (h1 hg nk)
    | succ d ih =>
      intro f nk hf hg n hn
      obtain ⟨n, rfl⟩ : ∃ w, n = w + 1 := ⟨n - 1, by omega⟩
      have f5 : f < 5 := by omega
      have h24 := hP.1.2.2.1 f
      have go : ∀ nk, (0 < P 5 f → ¬ m.testBit f = true → (∀ u, f * 24 ≤ u → u < f * 24 + P 5 f → lc_m P kc u) ∧ ki_k P kc (f * 24 + P 5 f - 1) = kc f) → ∀ y, y = nI f + 1 → wX_loadedAgree_2 post (nI m) n y f_width f_textLength f_foundPlace f_tokenCount f_frameCount f_operandCount f_defCount f_nodeEnd a_text a_tokenCode a_tokenPlace a_frameCode a_framePlace a_operand a_defPlace a_defFirst a_defEnd a_nodeOp a_nodeNumber a_nodePlace a_nodeDepth nk a_part a_size a_kindFound a_choice a_status a_result a_slotFunction a_slotArgument := by
        intro nk hh y ey
        rw [ey, nI_1]
        refine ih (f + 1) nk (by omega) (fun g hg2 a b => ?_) n (by omega)
        by_cases e : g = f
        · subst e; exact hh a b
        · exact hg g (by omega) a b
      refine br_f (nI_ge (b := 5) f5 (by decide)) ⟨vp_in_nI f5 (by decide), ?_⟩
      rw [nI_clamp (by omega), hP.2.2.1 f f5]
      refine pk_le (P 5 f) 0 (fun c => go nk (fun q => by omega)) (fun c => ?_)
      refine br_c (fun c2 => fun y ey => ⟨vp_in_nI f5 (by decide), ?_⟩) (fun c2 => go nk (fun _ q => ?_))
      · rw [mn_3 m hm f f5] at c2
        have e1 : nI f * 24 = nI (f * 24) := pk_mul f 24
        rw [e1] at ey
        subst ey
        rw [nI_add]
        have S := xl_S hP f5 c
        refine lc_X (q := 0) S hc f5 (fun nk2 mm hmm => ?_)
        by_cases rt : ki_k P kc (f * 24 + P 5 f - 1) = kc f
        · rw [if_pos rt]
          have := hmm.1
          refine pk_eq mm 201 (fun e => go nk2 (fun _ _ => ⟨fun u u1 u2 => ?_, rt⟩)) (fun e => h0 (fun q => ?_) nk2)
          · exact Classical.byContradiction (fun nmet => by have : mm ≤ 0 := hmm.2.1 u u1 u2 nmet; omega)
          · rcases hmm.2.2 with w | ⟨u, u1, u2, u3, u4⟩
            · exact e w
            · exact u3 ((q f f5 c (by show ¬ m.testBit f = true; rw [c2]; decide)).1 u u1 u2)
        · rw [if_neg rt]
          exact br_f (by decide) (h0 (fun q => rt (q f f5 c (by show ¬ m.testBit f = true; rw [c2]; decide)).2) nk2)
      · rw [mn_3 m hm f f5] at c2
        exact absurd (by simpa using q) c2
  exact ⟨_, key 5 0 a_nodeKind rfl (fun g hg => by omega) 6 (by decide)⟩
variable {L : Nat} {tx : Nat → Nat} {Tk : List tz_T} {Q : Nat → Nat → Nat} {ds : List df_D} {e : Nat}
theorem tb_S {Tk : List tz_T} {tt : Nat → Int32} {dp df de no nn np nd pt : Nat → Int32} (I : xm_I L tx Tk Q ds e tt dp df de no nn np nd pt) {i : Nat} {d : df_D} (hs : ds[i]? = some d) : lc_S Q (fun u => tt_p Tk (Q 9 u)) d.2.1 d.2.2.1 no nn np pt ∧
    (∀ u, d.2.1 ≤ u → u < d.2.2.1 → d.1 + 2 ≤ Q 9 u ∧ Q 9 u < d.2.2.2) := by
  obtain ⟨i1, i2, i3, i4, i5, i6⟩ := I
  obtain ⟨q1, q2, q3, q4, q5⟩ := md_i ds _ _ _ _ i3 i _ hs
  obtain ⟨p1, p2, p3, p4, p5, p6, p7, p8, p9⟩ := q1
  have bl := bl_in (tn := tt_n Tk) (d.2.2.1 - 1) _ _ p5 (fun v h1 h2 => (i4.2 v (by omega) (by omega)).1)
  rw [p7] at bl
  refine ⟨⟨p8, by omega, fun u h1 h2 => ?_⟩, fun u h1 h2 => (bl u h1 (by omega)).2⟩
  obtain ⟨o1, o2, o3, o4, o5, o6, o7, o8, o9, o10⟩ := i4.2 u (by omega) (by omega)
  have o1' := o1
  obtain ⟨g1, gt, g3, g4, g5, g6, g7, g8, g9, g10⟩ := o1
  have kd := yb_k o1' (bl u h1 (by omega)).1
  have k13 := nd_13 g1
  have pT := (i2.2.2 _ o3).1
  have L2 := i2.2.1
  have n3 : pg_n (Q 0 u) ≤ 3 := by unfold pg_n; repeat' split
                                   all_goals omega
  have pop : pg_op (Q 0 u) := by
    unfold pg_op
    rcases g1 with g | ⟨w, _⟩ | ⟨w, _⟩ | ⟨w, _⟩ | ⟨w, _⟩ | ⟨w, _⟩ <;> omega
  have lo : ∀ j, j < pg_n (Q 0 u) → d.2.1 ≤ Q (2 + j) u ∧ Q (2 + j) u < u := fun j hj => by
    have := kd j hj; omega
  have b2 : d.2.1 ≤ Q 2 u ∧ Q 2 u ≤ u := by
    by_cases n : 0 < pg_n (Q 0 u)
    · have : d.2.1 ≤ Q 2 u ∧ Q 2 u < u := lo 0 n; omega
    · have := g8 (by omega); omega
  have b3 : d.2.1 ≤ Q 3 u ∧ Q 3 u ≤ u := by
    by_cases n : 1 < pg_n (Q 0 u)
    · have : d.2.1 ≤ Q 3 u ∧ Q 3 u < u := lo 1 n; omega
    · have := g9 (by omega); omega
  have b4 : d.2.1 ≤ Q 4 u ∧ Q 4 u ≤ u := by
    by_cases n : 2 < pg_n (Q 0 u)
    · have : d.2.1 ≤ Q 4 u ∧ Q 4 u < u := lo 2 n; omega
    · have := g10 (by omega); omega
  exact ⟨⟨o4, o5, o8, o9, o10⟩, ⟨pop, fun q => by rw [g3]; exact xp_n5 i1 i2 o3 (k13.mp q), b2.2, b3.2, b4.2⟩, o6, by show tt_p Tk (Q 9 u) ≤ 200; omega, b2.1, b3.1, b4.1, fun j hj => (lo j hj).2⟩
theorem tb_X (I : xm_I L tx Tk Q ds e a_text a_defPlace a_defFirst a_defEnd a_nodeOp a_nodeNumber a_nodePlace a_nodeDepth a_part) (hmo : ∀ i j, i < j → j < Tk.length → tt_p Tk i < tt_p Tk j) (hc : kx_c kc a_choice) {post : Int32 → SX → Prop}
    (h : ∀ nk m, tb_R Tk Q ds e kc m → post (nI m) (f_width, f_textLength, f_foundPlace, f_tokenCount, f_frameCount, f_operandCount, nI ds.length, f_nodeEnd, a_text, a_tokenCode, a_tokenPlace, a_frameCode, a_framePlace, a_operand, a_defPlace, a_defFirst, a_defEnd, a_nodeOp, a_nodeNumber, a_nodePlace, a_nodeDepth, nk, a_part, a_size, a_kindFound, a_choice, a_status, a_result, a_slotFunction, a_slotArgument)) : wpX_leastClashOfText post (f_width, f_textLength, f_foundPlace, f_tokenCount, f_frameCount, f_operandCount, nI ds.length, f_nodeEnd, a_text, a_tokenCode, a_tokenPlace, a_frameCode, a_framePlace, a_operand, a_defPlace, a_defFirst, a_defEnd, a_nodeOp, a_nodeNumber, a_nodePlace, a_nodeDepth, a_nodeKind, a_part, a_size, a_kindFound, a_choice, a_status, a_result, a_slotFunction, a_slotArgument) := by
  have b50 := xm_50 I.2.2.1 (by have := I.2.1.1; have := I.2.1.2.1; omega)
  have L2 := I.2.1.2.1
  have Tl := I.2.1.1
  have tpb : ∀ i, i < Tk.length → tt_p Tk i < 200 := fun i hi => by have := (I.2.1.2.2 i hi).1; omega
  -- what is bad in the def i
  let bad : Nat → Nat → Prop := fun i p => ∃ d, ds[i]? = some d ∧ ((∃ u, d.2.1 ≤ u ∧ u < d.2.2.1 ∧ ¬ lc_m Q kc u ∧ p = tt_p Tk (Q 9 u)) ∨ (ki_k Q kc (d.2.2.1 - 1) ≠ kc (mn_f Tk ds i) ∧ p = tt_p Tk d.1))
  have bt : ∀ p, tb_b Tk Q ds e kc p → ∃ i, i < ds.length ∧ bad i p := by
    intro p hp
    have il : ∀ (i : Nat) (d : df_D), ds[i]? = some d → i < ds.length := by
      intro i d q
      rcases Nat.lt_or_ge i ds.length with w | w
      · exact w
      · rw [List.getElem?_eq_none w] at q; exact absurd q (by simp)
    rcases hp with ⟨u, u1, u2, u3, u4⟩ | ⟨i, d, d1, d2, d3⟩
    · obtain ⟨i, d, d1, d2, d3⟩ := md_n ds _ _ _ _ I.2.2.1 u u1 u2
      exact ⟨i, il i d d1, d, d1, Or.inl ⟨u, d2, d3, u3, u4⟩⟩
    · exact ⟨i, il i d d1, d, d1, Or.inr ⟨d2, d3⟩⟩
  have tb : ∀ i p, bad i p → tb_b Tk Q ds e kc p := by
    intro i p ⟨d, d1, hh⟩
    obtain ⟨_, q2, q3, q4, q5⟩ := md_i ds _ _ _ _ I.2.2.1 i d d1
    rcases hh with ⟨u, u1, u2, u3, u4⟩ | ⟨w1, w2⟩
    · exact Or.inl ⟨u, by omega, by omega, u3, u4⟩
    · exact Or.inr ⟨i, d, d1, w1, w2⟩
  -- places of a def lie between its name and its end
  have rng : ∀ i d p, ds[i]? = some d → bad i p → tt_p Tk d.1 ≤ p ∧ ∃ t, p = tt_p Tk t ∧ d.1 ≤ t ∧ t < d.2.2.2 := by
    intro i d p hs ⟨d2, d1, hh⟩
    rw [hs] at d1
    have := Option.some.inj d1
    subst this
    obtain ⟨q1, q2, q3, q4, q5⟩ := md_i ds _ _ _ _ I.2.2.1 i d hs
    have lt := q1.2.2.2.2.2.1.1
    rcases hh with ⟨u, u1, u2, u3, u4⟩ | ⟨w1, w2⟩
    · have pos := (tb_S I hs).2 u u1 u2
      have := hmo d.1 (Q 9 u) (by omega) (by omega)
      exact ⟨by omega, Q 9 u, u4, by omega, pos.2⟩
    · exact ⟨by omega, d.1, w2, Nat.le_refl _, by omega⟩
  have key : ∀ d i nk, i + d = ds.length → (∀ j, j < i → ∀ p, ¬ bad j p) → ∀ n, d < n → wX_leastClashOfText_6 post n 201 (nI i) f_width f_textLength f_foundPlace f_tokenCount f_frameCount f_operandCount (nI ds.length) f_nodeEnd a_text a_tokenCode a_tokenPlace a_frameCode a_framePlace a_operand a_defPlace a_defFirst a_defEnd a_nodeOp a_nodeNumber a_nodePlace a_nodeDepth nk a_part a_size a_kindFound a_choice a_status a_result a_slotFunction a_slotArgument := by
    intro d
    induction d with
    | zero =>
      intro i nk hi hb n hn
      obtain ⟨n, rfl⟩ : ∃ w, n = w + 1 := ⟨n - 1, by omega⟩
      have ei : i = ds.length := by omega
      subst ei
      refine br_t (nI_le (Nat.le_refl _) (by omega)) (h nk 201 ⟨Nat.le_refl _, fun p hp => ?_, Or.inl rfl⟩)
      obtain ⟨j, j1, j2⟩ := bt p hp
      exact absurd j2 (hb j j1 p)
    | succ dd ih =>
      intro i nk hi hb n hn
      obtain ⟨n, rfl⟩ : ∃ w, n = w + 1 := ⟨n - 1, by omega⟩
      have il : i < ds.length := by omega
      obtain ⟨f5, d, hs, hD, dT, sT, d120, de, fe⟩ := xm_f5 I il
      have hin : vp_in (nI i) 200 := vp_in_nI (by omega) (by decide)
      have dA := I.2.2.2.2.1 i d hs
      obtain ⟨S, pos⟩ := tb_S I hs
      have dTb := tpb d.1 dT
      refine br_f (nI_ge il (by omega)) (br_t rfl (xm_fn I il ⟨hin, hin, hin, ?_⟩))
      rw [nI_clamp (by omega), dA.1, dA.2.1, dA.2.2]
      refine lc_X S hc f5 (fun nk2 m hm => fun y ey => ?_)
      rw [ey, nI_1]
      -- the result of this def
      have stop : ∀ r, r ≤ 200 → bad i r → (∀ p, bad i p → r ≤ p) → wX_leastClashOfText_6 post n (nI r) (nI (i + 1)) f_width f_textLength f_foundPlace f_tokenCount f_frameCount f_operandCount (nI ds.length) f_nodeEnd a_text a_tokenCode a_tokenPlace a_frameCode a_framePlace a_operand a_defPlace a_defFirst a_defEnd a_nodeOp a_nodeNumber a_nodePlace a_nodeDepth nk2 a_part a_size a_kindFound a_choice a_status a_result a_slotFunction a_slotArgument := by
        intro r r2 rb rm
        have R : tb_R Tk Q ds e kc r := by
          refine ⟨by omega, fun p hp => ?_, Or.inr (tb i r rb)⟩
          obtain ⟨j, j1, j2⟩ := bt p hp
          rcases Nat.lt_trichotomy j i with w | w | w
          · exact absurd j2 (hb j w p)
          · subst w; exact rm p j2
          · have hs2 : ds[j]? = some ds[j] := List.getElem?_eq_getElem j1
            have lt := md_o ds _ _ _ _ I.2.2.1 i j d _ w hs hs2
            obtain ⟨_, t, t1, t2, t3⟩ := rng i d r hs rb
            obtain ⟨x1, _⟩ := rng j _ p hs2 j2
            obtain ⟨q1, q2, q3, q4, q5⟩ := md_i ds _ _ _ _ I.2.2.1 j _ hs2
            have := q1.2.2.2.2.2.1.1
            have := hmo t ds[j].1 (by omega) (by omega)
            omega
        obtain ⟨n, rfl⟩ : ∃ w, n = w + 1 := ⟨n - 1, by omega⟩
        refine pk_le ds.length (i + 1) (fun _ => h nk2 r R) (fun _ => br_f (fun q => by have := (nI_eq (a := r) (b := 201) (by omega) (by decide)).mp q; omega) (h nk2 r R))
      by_cases rt : ki_k Q kc (d.2.2.1 - 1) = kc (mn_f Tk ds i)
      · rw [if_pos rt]
        rcases hm.2.2 with w | ⟨u, u1, u2, u3, u4⟩
        · rw [w]
          refine ih (i + 1) nk2 (by omega) (fun j hj p hp => ?_) n (by omega)
          by_cases q : j = i
          · subst q
            obtain ⟨d2, d1, hh⟩ := hp
            rw [hs] at d1
            have := Option.some.inj d1
            subst this
            rcases hh with ⟨u, u1, u2, u3, u4⟩ | ⟨w1, w2⟩
            · have : m ≤ tt_p Tk (Q 9 u) := hm.2.1 u u1 u2 u3
              have := pos u u1 u2
              have := tpb (Q 9 u) (by omega)
              omega
            · exact w1 rt
          · exact hb j (by omega) p hp
        · have := pos u u1 u2
          have := tpb (Q 9 u) (by omega)
          have u4 : tt_p Tk (Q 9 u) = m := u4
          refine stop m (by omega) ⟨d, hs, Or.inl ⟨u, u1, u2, u3, u4.symm⟩⟩ (fun p ⟨d2, d1, hh⟩ => ?_)
          rw [hs] at d1
          have := Option.some.inj d1
          subst this
          rcases hh with ⟨u, u1, u2, u3, u4⟩ | ⟨w1, w2⟩
          · rw [u4]; exact hm.2.1 u u1 u2 u3
          · exact absurd rt w1
      · rw [if_neg rt]
        exact stop _ (by omega) ⟨d, hs, Or.inr ⟨rt, rfl⟩⟩ (fun p hp => (rng i d p hs hp).1)
  exact ⟨_, key ds.length 0 a_nodeKind (by omega) (fun j hj => by omega) _ (Nat.lt_succ_self _)⟩
theorem tb_200 {tt dp df de no nn np nd pt : Nat → Int32} (I : xm_I L tx Tk Q ds e tt dp df de no nn np nd pt) : ∀ p, tb_b Tk Q ds e kc p → p ≤ 200 := by
  intro p hp
  have tpb : ∀ i, i < Tk.length → tt_p Tk i < 200 := fun i hi => by have := (I.2.1.2.2 i hi).1; have := I.2.1.2.1; omega
  rcases hp with ⟨u, u1, u2, u3, u4⟩ | ⟨i, d, d1, d2, d3⟩
  · have := tpb _ (I.2.2.2.1.2 u u1 u2).2.2.1; omega
  · obtain ⟨q1, q2, q3, q4, q5⟩ := md_i ds _ _ _ _ I.2.2.1 i d d1
    have := q1.2.2.2.2.2.1.1
    have := tpb d.1 (by omega); omega
theorem ck_X (I : xm_I L tx Tk Q ds e a_text a_defPlace a_defFirst a_defEnd a_nodeOp a_nodeNumber a_nodePlace a_nodeDepth a_part) (hmo : ∀ i j, i < j → j < Tk.length → tt_p Tk i < tt_p Tk j)
    (hP : xl_P P a_size a_nodeOp a_nodeNumber a_nodePlace a_part) {r : Option Nat} (hR : cl_R (fun c => la_ok P (fun f => ∃ i, i < ds.length ∧ mn_f Tk ds i = f) (ki_c c)) (fun c => tb_R Tk Q ds e (ki_c c)) r) {post : Int32 → SX → Prop}
    (h1 : r = none → ∀ nk ch, post 1 (f_width, f_textLength, f_foundPlace, f_tokenCount, f_frameCount, f_operandCount, nI ds.length, f_nodeEnd, a_text, a_tokenCode, a_tokenPlace, a_frameCode, a_framePlace, a_operand, a_defPlace, a_defFirst, a_defEnd, a_nodeOp, a_nodeNumber, a_nodePlace, a_nodeDepth, nk, a_part, a_size, a_kindFound, ch, a_status, a_result, a_slotFunction, a_slotArgument)) (h2 : ∀ m, r = some m → ∀ nk ch, post 8 (f_width, f_textLength, nI m, f_tokenCount, f_frameCount, f_operandCount, nI ds.length, f_nodeEnd, a_text, a_tokenCode, a_tokenPlace, a_frameCode, a_framePlace, a_operand, a_defPlace, a_defFirst, a_defEnd, a_nodeOp, a_nodeNumber, a_nodePlace, a_nodeDepth, nk, a_part, a_size, a_kindFound, ch, a_status, a_result, a_slotFunction, a_slotArgument)) : wpX_checkKinds post (f_width, f_textLength, f_foundPlace, f_tokenCount, f_frameCount, f_operandCount, nI ds.length, f_nodeEnd, a_text, a_tokenCode, a_tokenPlace, a_frameCode, a_framePlace, a_operand, a_defPlace, a_defFirst, a_defEnd, a_nodeOp, a_nodeNumber, a_nodePlace, a_nodeDepth, a_nodeKind, a_part, a_size, a_kindFound, a_choice, a_status, a_result, a_slotFunction, a_slotArgument) := by
  have f5 : ∀ i, i < ds.length → mn_f Tk ds i < 5 := fun i hi => (xm_f5 I hi).1
  obtain ⟨m32, mb⟩ := mn_b (f := mn_f Tk ds) ds.length f5
  have la : ∀ kc, la_ok P (fun f => (mn_m (mn_f Tk ds) ds.length).testBit f = true) kc ↔ la_ok P (fun f => ∃ i, i < ds.length ∧ mn_f Tk ds i = f) kc := by
    intro kc
    constructor
    · intro q f a b c; exact q f a b (fun w => c ((mb f a).mp w))
    · intro q f a b c; exact q f a b (fun w => c ((mb f a).mpr w))
  refine xm_names I ?_
  have key : ∀ d c m nk ch, c + d = 243 → cl_v (fun c => la_ok P (fun f => ∃ i, i < ds.length ∧ mn_f Tk ds i = f) (ki_c c)) (fun c => tb_R Tk Q ds e (ki_c c)) c m → ∀ n, d < n →
      wX_checkKinds_9 post (nI (mn_m (mn_f Tk ds) ds.length)) n (nI m) (nI c) f_width f_textLength f_foundPlace f_tokenCount f_frameCount f_operandCount (nI ds.length) f_nodeEnd a_text a_tokenCode a_tokenPlace a_frameCode a_framePlace a_operand a_defPlace a_defFirst a_defEnd a_nodeOp a_nodeNumber a_nodePlace a_nodeDepth nk a_part a_size a_kindFound ch a_status a_result a_slotFunction a_slotArgument := by
    intro d
    induction d with
    | zero =>
      intro c m nk ch hc hv n hn
      obtain ⟨n, rfl⟩ : ∃ w, n = w + 1 := ⟨n - 1, by omega⟩
      have : c = 243 := by omega
      subst this
      have m201 := hv.1
      refine br_t (nI_le (a := 243) (by decide) (by decide)) (pk_eq m 201 (fun e => h1 ?_ nk ch) (fun e => h2 m ?_ nk ch))
      · refine cl_u hR (Or.inl ⟨rfl, ?_⟩)
        rcases hv.2.2 with w | ⟨c, c1, c2, c3⟩
        · omega
        · exact ⟨c, c1, c2, e ▸ c3⟩
      · refine cl_u hR (Or.inr ⟨m, rfl, by omega, fun ⟨c, c1, c2, c3⟩ => ?_, hv⟩)
        have := hv.2.1 c 201 c1 c2 c3
        omega
    | succ d ih =>
      intro c m nk ch hc hv n hn
      obtain ⟨n, rfl⟩ : ∃ w, n = w + 1 := ⟨n - 1, by omega⟩
      have m201 := hv.1
      refine br_f (nI_ge (b := 243) (by omega) (by decide)) (ch_X (by omega) (fun ch2 hch => ?_))
      refine la_X hP hch m32 (fun ok nk2 => bq_1 ?_) (fun nok nk2 => br_t rfl (fun y ey => ?_))
      · refine tb_X I hmo hch (fun nk3 x hx => ?_)
        have x201 := hx.1
        have st := cl_y hv ((la _).mp ok) hx x201 (fun y hy => tb_u (tb_200 I) hy hx)
        refine pk_le x m (fun e => fun y ey => ?_) (fun e => fun y ey => ?_)
        · rw [if_pos e] at st
          rw [ey, nI_1]
          exact ih (c + 1) m nk3 ch2 (by omega) st n (by omega)
        · rw [if_neg (by omega)] at st
          rw [ey, nI_1]
          exact ih (c + 1) x nk3 ch2 (by omega) st n (by omega)
      · rw [ey, nI_1]
        exact ih (c + 1) m nk2 ch2 (by omega) (cl_n hv (fun q => nok ((la _).mpr q))) n (by omega)
  exact ⟨_, key 243 0 0 a_nodeKind a_choice rfl (cl_0 _ _) 244 (by decide)⟩
end
