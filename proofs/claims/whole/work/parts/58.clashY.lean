-- Y: choices, clashes, kinds
def yl_P (P : Nat → Nat → Nat) (g : Nat → Nat) (ld cn nop nnm nA nB nC : Nat → Int32) : Prop :=
  pg_ok P ∧ rl_g P g ∧ (∀ f, f < 5 → ld f = if 0 < P 5 f then 1 else 0) ∧ (∀ f, f < 5 → 0 < P 5 f → cn f = nI (P 5 f)) ∧ (∀ r, ou_us P r → rl_nY P g nop nnm nA nB nC r)
theorem yl_S {P : Nat → Nat → Nat} {g : Nat → Nat} {ld cn nop nnm nA nB nC : Nat → Int32} (h : yl_P P g ld cn nop nnm nA nB nC) : ky_S P g (fun r => ou_us P r) nop nnm nA nB nC := by
  obtain ⟨p1, p2, p3, p4, p5⟩ := h
  intro r hr
  obtain ⟨n1, n2, n3, n4, n5⟩ := p5 r hr
  obtain ⟨g1, g2⟩ := p2.1 r hr
  obtain ⟨o1, o2, o3, o4⟩ := p1.2.2.2 _ g1
  refine ⟨by have := hr.1; omega, n1, n2, o1, fun q => (o3 q).1, fun n => ?_, fun n => ?_, fun n => ?_⟩
  · obtain ⟨a, a1, a2, a3⟩ := n3 n; exact ⟨a, a1, a2, a3, (o4 0 n).1⟩
  · obtain ⟨a, a1, a2, a3⟩ := n4 n; exact ⟨a, a1, a2, a3, (o4 1 n).1⟩
  · obtain ⟨a, a1, a2, a3⟩ := n5 n; exact ⟨a, a1, a2, a3, (o4 2 n).1⟩
theorem cy_d {c d : Nat} (hc : c < 243) (hd : 0 < d) (hd2 : d < 1000) : ((nI c / nI d) - (nI c / nI d) / 3 * 3) + 1 = nI (c / d % 3 + 1) := by
  rw [pk_div (by omega) hd (by omega)]
  have lt : c / d < 2 ^ 31 := Nat.lt_of_le_of_lt (Nat.div_le_self _ _) (by omega)
  have er : nI (c / d) - nI (c / d) / 3 * 3 = nI (c / d % 3) := pk_rem (d := 3) lt (by decide) (by decide)
  rw [er, nI_1]
section
variable {f_width f_length f_place f_toks f_nodes f_defs : Int32} {a_text a_tok a_tokNum a_tokPlace a_opened a_nOp a_nNum a_nPlace a_nA a_nB a_nC a_nLo a_nHi a_nLevel a_defName a_defPlace a_defRoot a_loaded a_count a_status : Nat → Int32} {a_number : Nat → Int64} {a_origin a_choice a_slotF a_slotX a_slotHeld : Nat → Int32} {P : Nat → Nat → Nat} {g : Nat → Nat} {kc : Nat → Nat}
theorem ch_Y {c : Nat} (hc : c < 243) {post : SY → Prop} (h : ∀ ch, kx_c (ki_c c) ch → post (f_width, f_length, f_place, f_toks, f_nodes, f_defs, a_text, a_tok, a_tokNum, a_tokPlace, a_opened, a_nOp, a_nNum, a_nPlace, a_nA, a_nB, a_nC, a_nLo, a_nHi, a_nLevel, a_defName, a_defPlace, a_defRoot, a_loaded, a_count, a_status, a_number, a_origin, ch, a_slotF, a_slotX, a_slotHeld)) : wpY_choose post (f_width, f_length, f_place, f_toks, f_nodes, f_defs, a_text, a_tok, a_tokNum, a_tokPlace, a_opened, a_nOp, a_nNum, a_nPlace, a_nA, a_nB, a_nC, a_nLo, a_nHi, a_nLevel, a_defName, a_defPlace, a_defRoot, a_loaded, a_count, a_status, a_number, a_origin, a_choice, a_slotF, a_slotX, a_slotHeld) (nI c) := by
  have e0 : (nI c - nI c / 3 * 3) + 1 = nI (c % 3 + 1) := by
    have er : nI c - nI c / 3 * 3 = nI (c % 3) := pk_rem (d := 3) (by omega) (by decide) (by decide)
    rw [er, nI_1]
  refine ⟨by decide, fun A eA => ⟨by decide, by decide, fun B eB => ⟨by decide, by decide, fun C eC => ⟨by decide, by decide, fun D eD => ⟨by decide, by decide, fun E eE => h E (fun f hf => ⟨?_, (ki_c_r c f).2⟩)⟩⟩⟩⟩⟩
  rw [e0] at eA
  have q3 : ((nI c / 3) - (nI c / 3) / 3 * 3) + 1 = nI (c / 3 % 3 + 1) := cy_d (d := 3) hc (by decide) (by decide)
  rw [q3] at eB
  have q9 : ((nI c / 9) - (nI c / 9) / 3 * 3) + 1 = nI (c / 9 % 3 + 1) := cy_d (d := 9) hc (by decide) (by decide)
  rw [q9] at eC
  have q27 : ((nI c / 27) - (nI c / 27) / 3 * 3) + 1 = nI (c / 27 % 3 + 1) := cy_d (d := 27) hc (by decide) (by decide)
  rw [q27] at eD
  have q81 : ((nI c / 81) - (nI c / 81) / 3 * 3) + 1 = nI (c / 81 % 3 + 1) := cy_d (d := 81) hc (by decide) (by decide)
  rw [q81] at eE
  subst eA eB eC eD eE
  have hh : f = 0 ∨ f = 1 ∨ f = 2 ∨ f = 3 ∨ f = 4 := by omega
  rcases hh with q | q | q | q | q <;> subst q
  · rw [pk_un (by decide), pk_un (by decide), pk_un (by decide), pk_un (by decide), pk_us]; unfold ki_c; rw [Nat.pow_zero, Nat.div_one]
  · rw [pk_un (by decide), pk_un (by decide), pk_un (by decide), pk_us]; rfl
  · rw [pk_un (by decide), pk_un (by decide), pk_us]; rfl
  · rw [pk_un (by decide), pk_us]; rfl
  · rw [pk_us]; rfl
theorem su_Y (hP : yl_P P g a_loaded a_count a_nOp a_nNum a_nA a_nB a_nC) (hc : kx_c kc a_choice) {out : Nat → Prop} {x1 : Int32}
    (hd : (x1 = 0 ∧ ∀ f, f < 5 → ¬ out f) ∨ (¬ x1 = 0 ∧ ∀ f, f < 5 → ∀ q : Int32 → Prop, (out f → ∀ i, i < 1000 → q (nI i)) → (¬ out f → q (-1)) → wpY_defOf q (f_width, f_length, f_place, f_toks, f_nodes, f_defs, a_text, a_tok, a_tokNum, a_tokPlace, a_opened, a_nOp, a_nNum, a_nPlace, a_nA, a_nB, a_nC, a_nLo, a_nHi, a_nLevel, a_defName, a_defPlace, a_defRoot, a_loaded, a_count, a_status, a_number, a_origin, a_choice, a_slotF, a_slotX, a_slotHeld) (nI f)))
    {post : Int32 → Prop} (h1 : la_ok P out kc → post 1) (h0 : ¬ la_ok P out kc → post 0) : wpY_suits post (f_width, f_length, f_place, f_toks, f_nodes, f_defs, a_text, a_tok, a_tokNum, a_tokPlace, a_opened, a_nOp, a_nNum, a_nPlace, a_nA, a_nB, a_nC, a_nLo, a_nHi, a_nLevel, a_defName, a_defPlace, a_defRoot, a_loaded, a_count, a_status, a_number, a_origin, a_choice, a_slotF, a_slotX, a_slotHeld) x1 := by
  have S := yl_S hP
  obtain ⟨p1, p2, p3, p4, p5⟩ := hP
  have key : ∀ d k, k + d = 120 → (∀ r, r < k → ou_us P r → ¬ out (r / 24) → lc_m P kc (g r) ∧ (r % 24 = 0 → ki_k P kc (g r) = kc (r / 24))) → ∀ n, d < n → wY_suits_2 post x1 f_width f_length f_place f_toks f_nodes f_defs a_text a_tok a_tokNum a_tokPlace a_opened a_nOp a_nNum a_nPlace a_nA a_nB a_nC a_nLo a_nHi a_nLevel a_defName a_defPlace a_defRoot a_loaded a_count a_status a_number a_origin a_choice a_slotF a_slotX a_slotHeld n (nI k) := by
    intro d
    induction d with
    | zero =>
      intro k hk hI n hn
      obtain ⟨n, rfl⟩ : ∃ w, n = w + 1 := ⟨n - 1, by omega⟩
      have : k = 120 := by omega
      subst this
      refine br_t (nI_le (a := 120) (by decide) (by decide)) (h1 (fun f hf hs ho => ⟨fun u h1 h2 => ?_, ?_⟩))
      · have h24 := p1.2.2.1 f
        have e : u / 24 = f := by omega
        have hu : ou_us P u := ⟨by omega, by rw [e]; omega⟩
        obtain ⟨r, r1, r2⟩ := p2.2.2.2 u hu
        have := (p2.1 r r1).2
        have e2 : r / 24 = f := by rw [← this, r2, e]
        have := (hI r r1.1 r1 (by rw [e2]; exact ho)).1
        rw [r2] at this; exact this
      · have e : f * 24 / 24 = f := by omega
        have hu : ou_us P (f * 24) := ⟨by omega, by rw [e]; omega⟩
        have := (hI (f * 24) (by omega) hu (by rw [e]; exact ho)).2 (by omega)
        rw [p2.2.1 f hf hs, e] at this; exact this
    | succ d ih =>
      intro k hk hI n hn
      obtain ⟨n, rfl⟩ : ∃ w, n = w + 1 := ⟨n - 1, by omega⟩
      have k120 : k < 120 := by omega
      have f5 : k / 24 < 5 := by omega
      have ed : nI k / 24 = nI (k / 24) := pk_div (d := 24) (by omega) (by decide) (by decide)
      have er : nI k - nI k / 24 * 24 = nI (k % 24) := pk_rem (d := 24) (by omega) (by decide) (by decide)
      have go : (ou_us P k → ¬ out (k / 24) → lc_m P kc (g k) ∧ (k % 24 = 0 → ki_k P kc (g k) = kc (k / 24))) → ∀ y, y = nI k + 1 → wY_suits_2 post x1 f_width f_length f_place f_toks f_nodes f_defs a_text a_tok a_tokNum a_tokPlace a_opened a_nOp a_nNum a_nPlace a_nA a_nB a_nC a_nLo a_nHi a_nLevel a_defName a_defPlace a_defRoot a_loaded a_count a_status a_number a_origin a_choice a_slotF a_slotX a_slotHeld n y := by
        intro hh y ey
        rw [ey, nI_1]
        refine ih (k + 1) (by omega) (fun r hr => ?_) n (by omega)
        by_cases e : r = k
        · subst e; exact hh
        · exact hI r (by omega)
      refine br_f (nI_ge (b := 120) k120 (by decide)) ⟨by decide, fun x3 e3 => ?_⟩
      rw [ed] at e3
      subst e3
      refine ⟨vp_in_nI f5 (by decide), ?_⟩
      rw [nI_clamp (by omega), p3 _ f5]
      by_cases hs : 0 < P 5 (k / 24)
      · rw [if_pos hs]
        refine bq_1 ⟨by decide, vp_in_nI f5 (by decide), ?_⟩
        rw [p4 _ f5 hs, er]
        have h24 := p1.2.2.1 (k / 24)
        refine pk_lt (k % 24) (P 5 (k / 24)) (fun c => ?_) (fun c => go (fun q => by have := q.2; omega))
        have hu : ou_us P k := ⟨k120, c⟩
        have body : ¬ out (k / 24) → wY_suits_57 post (wY_suits_2 post x1 f_width f_length f_place f_toks f_nodes f_defs a_text a_tok a_tokNum a_tokPlace a_opened a_nOp a_nNum a_nPlace a_nA a_nB a_nC a_nLo a_nHi a_nLevel a_defName a_defPlace a_defRoot a_loaded a_count a_status a_number a_origin a_choice a_slotF a_slotX a_slotHeld n) x1 (nI k) (nI (k / 24)) f_width f_length f_place f_toks f_nodes f_defs a_text a_tok a_tokNum a_tokPlace a_opened a_nOp a_nNum a_nPlace a_nA a_nB a_nC a_nLo a_nHi a_nLevel a_defName a_defPlace a_defRoot a_loaded a_count a_status a_number a_origin a_choice a_slotF a_slotX a_slotHeld := by
          intro ho
          have g24 := (p2.1 k hu).2
          have gu := (p2.1 k hu).1
          have nla : ¬ lc_m P kc (g k) → ¬ la_ok P out kc := fun nm q => by
            have h24 := p1.2.2.1 (k / 24)
            have := gu.2
            rw [g24] at this
            exact nm ((q (k / 24) f5 hs ho).1 (g k) (by omega) (by omega))
          refine ky_c S hc hu (fun met => bq_1 ⟨by decide, ?_⟩) (fun nmet => br_t rfl (h0 (nla nmet)))
          rw [er]
          refine pk_eq (k % 24) 0 (fun c0 => ?_) (fun c0 => go (fun _ _ => ⟨met, fun q => absurd q c0⟩))
          refine ky_k S hc hu ⟨vp_in_nI f5 (by decide), ?_⟩
          rw [nI_clamp (by omega), (hc _ f5).1]
          have b1 := ky_3 (kc := kc) S (fun f hf => (hc f hf).2) k hu
          have b2 := (hc _ f5).2
          refine pk_eq (ki_k P kc (g k)) (kc (k / 24)) (fun c1 => go (fun _ _ => ⟨met, fun _ => c1⟩)) (fun c1 => h0 (fun q => c1 ?_))
          have e : k = k / 24 * 24 := by omega
          have := (q (k / 24) f5 hs ho).2
          rw [← p2.2.1 _ f5 hs, ← e] at this
          exact this
        rcases hd with ⟨e, hno⟩ | ⟨ne, hdf⟩
        · exact br_t e (body (hno _ f5))
        · refine br_f ne (hdf _ f5 _ (fun ho i hi => br_f (nI_pos (by omega)) (go (fun _ q => absurd ho q))) (fun ho => br_t (by decide) (body ho)))
      · rw [if_neg hs]
        exact br_t rfl (go (fun q => by have := q.2; omega))
  exact ⟨_, key 120 0 rfl (fun r hr => by omega) 121 (by decide)⟩
-- kind
theorem kd_Y (hP : yl_P P g a_loaded a_count a_nOp a_nNum a_nA a_nB a_nC) {f : Nat} (hf : f < 5) (hs : 0 < P 5 f) {r : Nat} (hr : ki_r (rl_V P) 243 f r) {post : Int32 → SY → Prop} (h : ∀ ch, post (nI r) (f_width, f_length, f_place, f_toks, f_nodes, f_defs, a_text, a_tok, a_tokNum, a_tokPlace, a_opened, a_nOp, a_nNum, a_nPlace, a_nA, a_nB, a_nC, a_nLo, a_nHi, a_nLevel, a_defName, a_defPlace, a_defRoot, a_loaded, a_count, a_status, a_number, a_origin, ch, a_slotF, a_slotX, a_slotHeld)) : wpY_kind post (f_width, f_length, f_place, f_toks, f_nodes, f_defs, a_text, a_tok, a_tokNum, a_tokPlace, a_opened, a_nOp, a_nNum, a_nPlace, a_nA, a_nB, a_nC, a_nLo, a_nHi, a_nLevel, a_defName, a_defPlace, a_defRoot, a_loaded, a_count, a_status, a_number, a_origin, a_choice, a_slotF, a_slotX, a_slotHeld) (nI f) := by
  have h24 := hP.1.2.2.1
  have la : ∀ kc, la_ok P (fun _ => False) kc ↔ ki_ok P kc := fun kc => la_ki h24
  have key : ∀ d c x ch, c + d = 243 → ki_r (rl_V P) c f x → (x ≠ 0 → ∃ c0, c0 < c ∧ rl_V P c0 ∧ ki_c c0 f = x) → ∀ n, d < n → wY_kind_24 post (nI f) n (nI x) (nI c) f_width f_length f_place f_toks f_nodes f_defs a_text a_tok a_tokNum a_tokPlace a_opened a_nOp a_nNum a_nPlace a_nA a_nB a_nC a_nLo a_nHi a_nLevel a_defName a_defPlace a_defRoot a_loaded a_count a_status a_number a_origin ch a_slotF a_slotX a_slotHeld := by
    intro d
    induction d with
    | zero =>
      intro c x ch hc hx hw n hn
      obtain ⟨n, rfl⟩ : ∃ w, n = w + 1 := ⟨n - 1, by omega⟩
      have : c = 243 := by omega
      subst this
      have e := ki_r_u hr hx
      subst e
      exact br_t (nI_le (a := 243) (by decide) (by decide)) (h ch)
    | succ d ih =>
      intro c x ch hc hx hw n hn
      obtain ⟨n, rfl⟩ : ∃ w, n = w + 1 := ⟨n - 1, by omega⟩
      have x3 := fk_3 hx
      have kr := ki_c_r c f
      refine br_f (nI_ge (b := 243) (by omega) (by decide)) (ch_Y (by omega) (fun ch2 hch => ⟨vp_in_nI hf (by decide), ?_⟩))
      rw [nI_clamp (by omega), (hch f hf).1]
      have up : ∀ x2, ki_r (rl_V P) (c + 1) f x2 → (x2 ≠ 0 → ∃ c0, c0 < c + 1 ∧ rl_V P c0 ∧ ki_c c0 f = x2) → ∀ y, y = nI c + 1 → wY_kind_24 post (nI f) n (nI x2) y f_width f_length f_place f_toks f_nodes f_defs a_text a_tok a_tokNum a_tokPlace a_opened a_nOp a_nNum a_nPlace a_nA a_nB a_nC a_nLo a_nHi a_nLevel a_defName a_defPlace a_defRoot a_loaded a_count a_status a_number a_origin ch2 a_slotF a_slotX a_slotHeld := by
        intro x2 q1 q2 y ey
        rw [ey, nI_1]
        exact ih (c + 1) x2 ch2 (by omega) q1 q2 n (by omega)
      have mono : x ≠ 0 → ∃ c0, c0 < c + 1 ∧ rl_V P c0 ∧ ki_c c0 f = x := fun q => by
        obtain ⟨c0, a, b⟩ := hw q; exact ⟨c0, by omega, b⟩
      refine pk_eq (ki_c c f) x (fun e => up x ?_ mono) (fun e => ?_)
      · by_cases v : rl_V P c
        · have := ki_r_y hx v
          rw [if_pos (Or.inr e.symm), e] at this
          exact this
        · exact ki_r_n hx v
      · refine su_Y (out := fun _ => False) hP hch (Or.inl ⟨rfl, fun _ _ q => q⟩) (fun ok => bq_1 ?_) (fun nok => br_t rfl (up x (ki_r_n hx (fun q => nok ((la _).mpr q))) mono))
        have v : rl_V P c := (la _).mp ok
        refine pk_eq x 0 (fun e0 => ⟨vp_in_nI hf (by decide), fun y ey => ?_⟩) (fun e0 => ?_)
        · subst ey
          have := ki_r_y hx v
          rw [if_pos (Or.inl e0)] at this
          exact up (ki_c c f) this (fun _ => ⟨c, by omega, v, rfl⟩)
        · obtain ⟨c0, c1, c2, c3⟩ := hw e0
          have : ki_r (rl_V P) 243 f 1 := Or.inr (Or.inr ⟨rfl, c0, by omega, c2, c, by omega, v, by omega⟩)
          have e := ki_r_u hr this
          subst e
          exact h ch2
  have hin : vp_in (nI f) 5 := vp_in_nI hf (by decide)
  refine br_f (nI_pos (by omega)) (br_f (nI_nlt (a := 4) (by omega) (by omega)) ⟨hin, ?_⟩)
  rw [nI_clamp (by omega), hP.2.2.1 f hf, if_pos hs]
  exact bq_1 ⟨_, key 243 0 0 a_choice rfl (ki_r_0 _ _) (fun q => absurd rfl q) 244 (by decide)⟩
end
theorem tb_ex (Tk : List tz_T) (Q : Nat → Nat → Nat) (ds : List df_D) (e : Nat) (kc : Nat → Nat) (hb : ∀ p, tb_b Tk Q ds e kc p → p ≤ 200) : ∃ m, tb_R Tk Q ds e kc m := by
  by_cases h : ∃ p, tb_b Tk Q ds e kc p
  · obtain ⟨k, k1, k2⟩ := pk_least (fun p => tb_b Tk Q ds e kc p) h
    refine ⟨k, by have := hb k k1; omega, fun p hp => ?_, Or.inr k1⟩
    rcases Nat.lt_or_ge p k with q | q
    · exact absurd hp (k2 p q)
    · exact q
  · exact ⟨201, Nat.le_refl _, fun p hp => absurd ⟨p, hp⟩ h, Or.inl rfl⟩
theorem cl_ex (V : Nat → Prop) (M : Nat → Nat → Prop) (hM : ∀ c, ∃ m, M c m ∧ m ≤ 201 ∧ ∀ y, M c y → y = m) : ∃ r, cl_R V M r := by
  have st : ∀ n, ∃ m, cl_v V M n m := by
    intro n
    induction n with
    | zero => exact ⟨0, cl_0 V M⟩
    | succ n ih =>
      obtain ⟨m, hm⟩ := ih
      by_cases v : V n
      · obtain ⟨x, x1, x2, x3⟩ := hM n
        exact ⟨_, cl_y hm v x1 x2 x3⟩
      · exact ⟨m, cl_n hm v⟩
  by_cases h : ∃ c, c < 243 ∧ V c ∧ M c 201
  · exact ⟨none, Or.inl ⟨rfl, h⟩⟩
  · obtain ⟨m, hm⟩ := st 243
    refine ⟨some m, Or.inr ⟨m, rfl, ?_, h, hm⟩⟩
    rcases hm.2.2 with q | ⟨c, c1, c2, c3⟩
    · omega
    · have : m ≠ 201 := fun q => h ⟨c, c1, c2, q ▸ c3⟩
      have := hm.1
      omega
section
variable {f_width f_length f_place f_toks f_nodes f_defs : Int32} {a_text a_tok a_tokNum a_tokPlace a_opened a_nOp a_nNum a_nPlace a_nA a_nB a_nC a_nLo a_nHi a_nLevel a_defName a_defPlace a_defRoot a_loaded a_count a_status : Nat → Int32} {a_number : Nat → Int64} {a_origin a_choice a_slotF a_slotX a_slotHeld : Nat → Int32} {P : Nat → Nat → Nat} {g gl : Nat → Nat} {kc : Nat → Nat} {Tk : List tz_T} {Q : Nat → Nat → Nat} {ds : List df_D} {e : Nat}
theorem fb_S (I : ym_I Tk Q ds e g a_tok a_tokNum a_tokPlace a_defName a_defPlace a_defRoot a_nOp a_nNum a_nPlace a_nA a_nB a_nC a_nLo a_nHi a_nLevel) :
    ky_S Q g (fun r => 120 ≤ r ∧ r < e) a_nOp a_nNum a_nA a_nB a_nC ∧ (∀ r, 120 ≤ r → r < e → 120 ≤ g r ∧ g r < e ∧ a_nPlace r = nI (tt_p Tk (Q 9 (g r)))) ∧ (∀ u, 120 ≤ u → u < e → ∃ r, 120 ≤ r ∧ r < e ∧ g r = u) := by
  have I0 := I
  obtain ⟨i1, i2, i3, i4, i5, i6, i7, i8, i9⟩ := I
  have blk : ∀ r, 120 ≤ r → r < e → ∃ d : df_D, 120 ≤ d.2.1 ∧ d.2.2.1 ≤ e ∧ d.2.1 ≤ r ∧ r < d.2.2.1 ∧ yb_I (tt_k Tk) (tt_p Tk) Q Tk.length d.2.1 d.2.2.1 (Q 11 (d.2.2.1 - 1)) d.2.2.1 d.2.2.1 g a_nOp a_nNum a_nPlace a_nA a_nB a_nC a_nLo a_nHi a_nLevel := by
    intro r h1 h2
    obtain ⟨i, d, d1, d2, d3⟩ := md_n ds _ _ _ _ i4 r h1 h2
    have il : i < ds.length := by
      rcases Nat.lt_or_ge i ds.length with w | w
      · exact w
      · rw [List.getElem?_eq_none w] at d1; exact absurd d1 (by simp)
    obtain ⟨_, q2, q3, q4, q5⟩ := md_i ds _ _ _ _ i4 i d d1
    exact ⟨d, q4, q5, d2, d3, (i9 i d il d1).2.2⟩
  refine ⟨fun r ⟨h1, h2⟩ => ?_, fun r h1 h2 => ?_, fun u h1 h2 => ?_⟩
  · obtain ⟨d, d1, d2, d3, d4, y1, y2, y3, y4, y5, y6, y7⟩ := blk r h1 h2
    obtain ⟨z1, z2, z3, z4, z5, z6⟩ := y5 r d3 d4
    obtain ⟨w1, w2, w3, _⟩ := y4 r d3 d4
    obtain ⟨ok, _, p9⟩ := i6 (g r) (by omega) (by omega)
    have kd := yb_k ok w1
    have k13 := nd_13 ok.1
    have pop : pg_op (Q 0 (g r)) := by
      unfold pg_op
      rcases ok.1 with q | ⟨q, _⟩ | ⟨q, _⟩ | ⟨q, _⟩ | ⟨q, _⟩ | ⟨q, _⟩ <;> omega
    refine ⟨by omega, z1, z2, pop, fun q => ?_, fun n => ?_, fun n => ?_, fun n => ?_⟩
    · rw [ok.2.2.1]; exact (i2 _ p9).2.2 (k13.mp q)
    · obtain ⟨a, a1, a2, a3, a4⟩ := z4 n; exact ⟨a, a1, ⟨by omega, by omega⟩, a4, (kd 0 n).2.2.1⟩
    · obtain ⟨a, a1, a2, a3, a4⟩ := z5 n; exact ⟨a, a1, ⟨by omega, by omega⟩, a4, (kd 1 n).2.2.1⟩
    · obtain ⟨a, a1, a2, a3, a4⟩ := z6 n; exact ⟨a, a1, ⟨by omega, by omega⟩, a4, (kd 2 n).2.2.1⟩
  · obtain ⟨d, d1, d2, d3, d4, y1, y2, y3, y4, y5, y6, y7⟩ := blk r h1 h2
    obtain ⟨w1, w2, w3, _⟩ := y4 r d3 d4
    exact ⟨by omega, by omega, (y5 r d3 d4).2.2.1⟩
  · obtain ⟨d, d1, d2, d3, d4, y1, y2, y3, y4, y5, y6, y7⟩ := blk u h1 h2
    obtain ⟨r, r1, r2, r3⟩ := bf_sur y3 (by omega) d3 d4
    exact ⟨r, by omega, by omega, r3⟩
theorem fb_Y (I : ym_I Tk Q ds e g a_tok a_tokNum a_tokPlace a_defName a_defPlace a_defRoot a_nOp a_nNum a_nPlace a_nA a_nB a_nC a_nLo a_nHi a_nLevel) (hc : kx_c kc a_choice) {m : Nat} (hm : tb_R Tk Q ds e kc m) {post : Int32 → Prop} (h : post (nI (if m = 201 then 1000 else m))) :
    wpY_firstBad post (f_width, f_length, f_place, f_toks, nI e, nI ds.length, a_text, a_tok, a_tokNum, a_tokPlace, a_opened, a_nOp, a_nNum, a_nPlace, a_nA, a_nB, a_nC, a_nLo, a_nHi, a_nLevel, a_defName, a_defPlace, a_defRoot, a_loaded, a_count, a_status, a_number, a_origin, a_choice, a_slotF, a_slotX, a_slotHeld) := by
  obtain ⟨S, pl, sur⟩ := fb_S I
  have I0 := I
  obtain ⟨i1, i2, i3, i4, i5, i6, i7, i8, i9⟩ := I
  have b50 := xm_50 i4 i1
  have k3 := ky_3 (kc := kc) S (fun f hf => (hc f hf).2)
  have p200 : ∀ r, 120 ≤ r → r < e → tt_p Tk (Q 9 (g r)) < 200 := fun r h1 h2 => by
    obtain ⟨w1, w2, _⟩ := pl r h1 h2
    exact (i2 _ (i6 _ w1 w2).2.2).2.1
  -- the rest over the defs
  have l2 : ∀ dd i x, i + dd = ds.length → x ≤ 1000 → (x = 1000 ∨ tb_b Tk Q ds e kc x) → (∀ u, 120 ≤ u → u < e → ¬ lc_m Q kc u → x ≤ tt_p Tk (Q 9 u)) →
      (∀ j d, j < i → ds[j]? = some d → ki_k Q kc (d.2.2.1 - 1) ≠ kc (mn_f Tk ds j) → x ≤ tt_p Tk d.1) → ∀ n, dd < n → wY_firstBad_48 post f_width f_length f_place f_toks (nI e) (nI ds.length) a_text a_tok a_tokNum a_tokPlace a_opened a_nOp a_nNum a_nPlace a_nA a_nB a_nC a_nLo a_nHi a_nLevel a_defName a_defPlace a_defRoot a_loaded a_count a_status a_number a_origin a_choice a_slotF a_slotX a_slotHeld n (nI x) (nI i) := by
    intro dd
    induction dd with
    | zero =>
      intro i x hi hx hb hu hd n hn
      obtain ⟨n, rfl⟩ : ∃ w, n = w + 1 := ⟨n - 1, by omega⟩
      have ei : i = ds.length := by omega
      subst ei
      refine br_t (nI_le (Nat.le_refl _) (by omega)) ?_
      have all : ∀ p, tb_b Tk Q ds e kc p → x ≤ p := by
        intro p hp
        rcases hp with ⟨u, u1, u2, u3, u4⟩ | ⟨j, d, d1, d2, d3⟩
        · rw [u4]; exact hu u u1 u2 u3
        · rw [d3]
          have jl : j < ds.length := by
            rcases Nat.lt_or_ge j ds.length with w | w
            · exact w
            · rw [List.getElem?_eq_none w] at d1; exact absurd d1 (by simp)
          exact hd j d jl d1 d2
      have ex : x = if m = 201 then 1000 else m := by
        obtain ⟨m1, m2, m3⟩ := hm
        rcases hb with hb | hb <;> rcases m3 with m3 | m3
        · rw [if_pos m3, hb]
        · have := all m m3
          by_cases q : m = 201
          · rw [if_pos q, hb]
          · omega
        · have := m2 x hb
          have x200 : x ≤ 200 := by
            rcases hb with ⟨u, u1, u2, u3, u4⟩ | ⟨j, d, d1, d2, d3⟩
            · obtain ⟨r, r1, r2, r3⟩ := sur u u1 u2
              have := p200 r r1 r2
              rw [r3] at this; omega
            · obtain ⟨q1, q2, q3, q4, q5⟩ := md_i ds _ _ _ _ i4 j d d1
              have := q1.2.2.2.2.2.1.1
              have := (i2 d.1 (by omega)).2.1
              omega
          omega
        · have := m2 x hb
          have := all m m3
          by_cases q : m = 201
          · have x200 : x ≤ 200 := by
              rcases hb with ⟨u, u1, u2, u3, u4⟩ | ⟨j, d, d1, d2, d3⟩
              · obtain ⟨r, r1, r2, r3⟩ := sur u u1 u2
                have := p200 r r1 r2
                rw [r3] at this; omega
              · obtain ⟨q1, q2, q3, q4, q5⟩ := md_i ds _ _ _ _ i4 j d d1
                have := q1.2.2.2.2.2.1.1
                have := (i2 d.1 (by omega)).2.1
                omega
            omega
          · rw [if_neg q]; omega
      rw [ex]; exact h
    | succ dd ih =>
      intro i x hi hx hb hu hd n hn
      obtain ⟨n, rfl⟩ : ∃ w, n = w + 1 := ⟨n - 1, by omega⟩
      have il : i < ds.length := by omega
      obtain ⟨d, hs, hD, dT, sT, d120, de, fe, dN, dP, dR, dR2, f5, yb⟩ := ym_d I0 il
      have dpb := (i2 d.1 dT).2.1
      have hin : vp_in (nI i) 100 := vp_in_nI (by omega) (by decide)
      have FE := hD.2.2.2.2.2.2.2.1
      have nxt : ∀ x2, x2 ≤ 1000 → (x2 = 1000 ∨ tb_b Tk Q ds e kc x2) → x2 ≤ x → (ki_k Q kc (d.2.2.1 - 1) ≠ kc (mn_f Tk ds i) → x2 ≤ tt_p Tk d.1) → ∀ y, y = nI i + 1 → wY_firstBad_48 post f_width f_length f_place f_toks (nI e) (nI ds.length) a_text a_tok a_tokNum a_tokPlace a_opened a_nOp a_nNum a_nPlace a_nA a_nB a_nC a_nLo a_nHi a_nLevel a_defName a_defPlace a_defRoot a_loaded a_count a_status a_number a_origin a_choice a_slotF a_slotX a_slotHeld n (nI x2) y := by
        intro x2 q1 q2 q3 q4 y ey
        rw [ey, nI_1]
        refine ih (i + 1) x2 (by omega) q1 q2 (fun u u1 u2 u3 => Nat.le_trans q3 (hu u u1 u2 u3)) (fun j d2 hj hs2 hk => ?_) n (by omega)
        by_cases w : j = i
        · subst w
          rw [hs] at hs2
          have := Option.some.inj hs2
          subst this
          exact q4 hk
        · exact Nat.le_trans q3 (hd j d2 (by omega) hs2 hk)
      refine br_f (nI_ge il (by omega)) ⟨hin, ?_⟩
      rw [nI_clamp (by omega), dP]
      refine pk_le x (tt_p Tk d.1) (fun c => nxt x hx hb (Nat.le_refl _) (fun _ => c)) (fun c => ⟨vp_in_nI (by omega) (by decide), ?_⟩)
      rw [dR]
      have hg : g d.2.1 = d.2.2.1 - 1 := by have := yb.2.2.2.2.2.2; omega
      refine ky_k S hc (r := d.2.1) ⟨by omega, by omega⟩ ⟨hin, ?_⟩
      rw [dN]
      refine ⟨vp_in_nI f5 (by decide), ?_⟩
      rw [nI_clamp (by omega), (hc _ f5).1, hg]
      have b1 := k3 d.2.1 ⟨by omega, by omega⟩
      rw [hg] at b1
      have b2 := (hc _ f5).2
      refine pk_eq (ki_k Q kc (d.2.2.1 - 1)) (kc (mn_f Tk ds i)) (fun c2 => nxt x hx hb (Nat.le_refl _) (fun q => absurd c2 q)) (fun c2 => ⟨hin, fun y ey => ?_⟩)
      subst ey
      exact nxt _ (by omega) (Or.inr (Or.inr ⟨i, d, hs, c2, rfl⟩)) (by omega) (fun _ => Nat.le_refl _)
  have l1 : ∀ dd k x, k + dd = e → 120 ≤ k → x ≤ 1000 → (x = 1000 ∨ tb_b Tk Q ds e kc x) → (∀ r, 120 ≤ r → r < k → ¬ lc_m Q kc (g r) → x ≤ tt_p Tk (Q 9 (g r))) → ∀ n, dd < n → wY_firstBad_7 post f_width f_length f_place f_toks (nI e) (nI ds.length) a_text a_tok a_tokNum a_tokPlace a_opened a_nOp a_nNum a_nPlace a_nA a_nB a_nC a_nLo a_nHi a_nLevel a_defName a_defPlace a_defRoot a_loaded a_count a_status a_number a_origin a_choice a_slotF a_slotX a_slotHeld n (nI x) (nI k) := by
    intro dd
    induction dd with
    | zero =>
      intro k x hk h120 hx hb hr n hn
      obtain ⟨n, rfl⟩ : ∃ w, n = w + 1 := ⟨n - 1, by omega⟩
      have ek : k = e := by omega
      subst ek
      refine br_t (nI_le (Nat.le_refl _) (by omega)) ⟨_, l2 ds.length 0 x (by omega) hx hb (fun u u1 u2 u3 => ?_) (fun j d hj => by omega) _ (Nat.lt_succ_self _)⟩
      obtain ⟨r, r1, r2, r3⟩ := sur u u1 u2
      have := hr r r1 r2 (by rw [r3]; exact u3)
      rw [r3] at this; exact this
    | succ dd ih =>
      intro k x hk h120 hx hb hr n hn
      obtain ⟨n, rfl⟩ : ∃ w, n = w + 1 := ⟨n - 1, by omega⟩
      have ke : k < e := by omega
      have hin : vp_in (nI k) 320 := vp_in_nI (by omega) (by decide)
      obtain ⟨g1, g2, g3⟩ := pl k h120 ke
      have pb := p200 k h120 ke
      have nxt : ∀ x2, x2 ≤ 1000 → (x2 = 1000 ∨ tb_b Tk Q ds e kc x2) → x2 ≤ x → (¬ lc_m Q kc (g k) → x2 ≤ tt_p Tk (Q 9 (g k))) → ∀ y, y = nI k + 1 → wY_firstBad_7 post f_width f_length f_place f_toks (nI e) (nI ds.length) a_text a_tok a_tokNum a_tokPlace a_opened a_nOp a_nNum a_nPlace a_nA a_nB a_nC a_nLo a_nHi a_nLevel a_defName a_defPlace a_defRoot a_loaded a_count a_status a_number a_origin a_choice a_slotF a_slotX a_slotHeld n (nI x2) y := by
        intro x2 q1 q2 q3 q4 y ey
        rw [ey, nI_1]
        refine ih (k + 1) x2 (by omega) (by omega) q1 q2 (fun r r1 r2 r3 => ?_) n (by omega)
        by_cases w : r = k
        · subst w; exact q4 r3
        · exact Nat.le_trans q3 (hr r r1 (by omega) r3)
      refine br_f (nI_ge ke (by omega)) ⟨hin, ?_⟩
      rw [nI_clamp (by omega), g3]
      refine pk_le x (tt_p Tk (Q 9 (g k))) (fun c => nxt x hx hb (Nat.le_refl _) (fun _ => c)) (fun c => ?_)
      refine ky_c S hc (r := k) ⟨h120, ke⟩ (fun met => bq_1 (nxt x hx hb (Nat.le_refl _) (fun q => absurd met q))) (fun nm => br_t rfl ⟨hin, fun y ey => ?_⟩)
      subst ey
      exact nxt _ (by omega) (Or.inr (Or.inl ⟨g k, g1, g2, nm, rfl⟩)) (by omega) (fun _ => Nat.le_refl _)
  have le := md_le _ _ _ _ _ i4
  exact ⟨_, l1 (e - 120) 120 1000 (by omega) (Nat.le_refl _) (Nat.le_refl _) (Or.inl rfl) (fun r r1 r2 => by omega) _ (Nat.lt_succ_self _)⟩
theorem cl_Y (I : ym_I Tk Q ds e g a_tok a_tokNum a_tokPlace a_defName a_defPlace a_defRoot a_nOp a_nNum a_nPlace a_nA a_nB a_nC a_nLo a_nHi a_nLevel) (hP : yl_P P gl a_loaded a_count a_nOp a_nNum a_nA a_nB a_nC) (h200 : ∀ kc p, tb_b Tk Q ds e kc p → p ≤ 200) {r : Option Nat}
    (hR : cl_R (fun c => la_ok P (fun f => ∃ i, i < ds.length ∧ mn_f Tk ds i = f) (ki_c c)) (fun c => tb_R Tk Q ds e (ki_c c)) r) {post : Int32 → SY → Prop}
    (h1 : r = none → ∀ ch, post (-1) (f_width, f_length, f_place, f_toks, nI e, nI ds.length, a_text, a_tok, a_tokNum, a_tokPlace, a_opened, a_nOp, a_nNum, a_nPlace, a_nA, a_nB, a_nC, a_nLo, a_nHi, a_nLevel, a_defName, a_defPlace, a_defRoot, a_loaded, a_count, a_status, a_number, a_origin, ch, a_slotF, a_slotX, a_slotHeld)) (h2 : ∀ m, r = some m → m ≤ 200 → ∀ ch, post (nI m) (f_width, f_length, f_place, f_toks, nI e, nI ds.length, a_text, a_tok, a_tokNum, a_tokPlace, a_opened, a_nOp, a_nNum, a_nPlace, a_nA, a_nB, a_nC, a_nLo, a_nHi, a_nLevel, a_defName, a_defPlace, a_defRoot, a_loaded, a_count, a_status, a_number, a_origin, ch, a_slotF, a_slotX, a_slotHeld)) : wpY_clash post (f_width, f_length, f_place, f_toks, nI e, nI ds.length, a_text, a_tok, a_tokNum, a_tokPlace, a_opened, a_nOp, a_nNum, a_nPlace, a_nA, a_nB, a_nC, a_nLo, a_nHi, a_nLevel, a_defName, a_defPlace, a_defRoot, a_loaded, a_count, a_status, a_number, a_origin, a_choice, a_slotF, a_slotX, a_slotHeld) := by
  have b50 := xm_50 I.2.2.2.1 I.1
  have key : ∀ d c m ch, c + d = 243 → cl_v (fun c => la_ok P (fun f => ∃ i, i < ds.length ∧ mn_f Tk ds i = f) (ki_c c)) (fun c => tb_R Tk Q ds e (ki_c c)) c m → m ≤ 200 →
      (¬ ∃ c', c' < c ∧ la_ok P (fun f => ∃ i, i < ds.length ∧ mn_f Tk ds i = f) (ki_c c') ∧ tb_R Tk Q ds e (ki_c c') 201) → ∀ n, d < n → wY_clash_4 post n (nI m) (nI c) f_width f_length f_place f_toks (nI e) (nI ds.length) a_text a_tok a_tokNum a_tokPlace a_opened a_nOp a_nNum a_nPlace a_nA a_nB a_nC a_nLo a_nHi a_nLevel a_defName a_defPlace a_defRoot a_loaded a_count a_status a_number a_origin ch a_slotF a_slotX a_slotHeld := by
    intro d
    induction d with
    | zero =>
      intro c m ch hc hv hm hno n hn
      obtain ⟨n, rfl⟩ : ∃ w, n = w + 1 := ⟨n - 1, by omega⟩
      have : c = 243 := by omega
      subst this
      exact br_t (nI_le (a := 243) (by decide) (by decide)) (h2 m (cl_u hR (Or.inr ⟨m, rfl, hm, hno, hv⟩)) hm ch)
    | succ d ih =>
      intro c m ch hc hv hm hno n hn
      obtain ⟨n, rfl⟩ : ∃ w, n = w + 1 := ⟨n - 1, by omega⟩
      refine br_f (nI_ge (b := 243) (by omega) (by decide)) (ch_Y (by omega) (fun ch2 hch => ?_))
      refine su_Y (out := fun f => ∃ i, i < ds.length ∧ mn_f Tk ds i = f) hP hch (Or.inr ⟨by decide, fun f hf q q1 q2 => ym_of I hf (fun i hi hfi => q1 ⟨i, hi, hfi⟩ i (by omega)) q2⟩) (fun ok => bq_1 ?_) (fun nok => br_t rfl (fun y ey => ?_))
      · obtain ⟨x, hx⟩ := tb_ex Tk Q ds e (ki_c c) (h200 _)
        refine fb_Y I hch hx ?_
        have x201 := hx.1
        by_cases q : x = 201
        · rw [if_pos q]
          refine br_t rfl (h1 (cl_u hR (Or.inl ⟨rfl, c, by omega, ok, q ▸ hx⟩)) ch2)
        · rw [if_neg q]
          refine br_f (fun w => by have := (nI_eq (a := x) (b := 1000) (by omega) (by decide)).mp w; omega) ?_
          have st := cl_y hv ok hx x201 (fun y hy => tb_u (h200 _) hy hx)
          have no2 : ¬ ∃ c', c' < c + 1 ∧ la_ok P (fun f => ∃ i, i < ds.length ∧ mn_f Tk ds i = f) (ki_c c') ∧ tb_R Tk Q ds e (ki_c c') 201 := by
            rintro ⟨c', a, b, w⟩
            by_cases z : c' = c
            · subst z; exact q (tb_u (h200 _) hx w)
            · exact hno ⟨c', by omega, b, w⟩
          refine pk_le x m (fun z => fun y ey => ?_) (fun z => fun y ey => ?_)
          · rw [if_pos z] at st
            rw [ey, nI_1]
            exact ih (c + 1) m ch2 (by omega) st hm no2 n (by omega)
          · rw [if_neg (by omega)] at st
            rw [ey, nI_1]
            exact ih (c + 1) x ch2 (by omega) st (by omega) no2 n (by omega)
      · rw [ey, nI_1]
        refine ih (c + 1) m ch2 (by omega) (cl_n hv nok) hm (fun ⟨c', a, b, w⟩ => ?_) n (by omega)
        by_cases z : c' = c
        · subst z; exact nok b
        · exact hno ⟨c', by omega, b, w⟩
  exact ⟨_, key 243 0 0 a_choice rfl (cl_0 _ _) (by omega) (fun ⟨c', a, _⟩ => by omega) 244 (by decide)⟩
end
