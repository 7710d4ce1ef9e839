-- KINDS and what an outcome is like
def pg_n (t : Nat) : Nat := if t = 3 then 3 else if t = 1 ∨ t = 2 ∨ t = 10 ∨ t = 11 ∨ t = 12 then 0 else if t = 7 ∨ t = 8 ∨ t = 9 ∨ t = 13 ∨ t = 23 ∨ t = 28 then 1 else 2
def pg_op (t : Nat) : Prop := 1 ≤ t ∧ t ≤ 28 ∧ t ≠ 4 ∧ t ≠ 5 ∧ t ≠ 25 ∧ t ≠ 26 ∧ t ≠ 27
def pg_nd (P : Nat → Nat → Nat) (u : Nat) : Prop :=
  pg_op (P 0 u) ∧ (P 0 u = 1 → P 1 u < 1000000000) ∧ (P 0 u = 13 → P 1 u < 5 ∧ 0 < P 5 (P 1 u)) ∧
  (∀ j, j < pg_n (P 0 u) → P (2 + j) u < u ∧ P (2 + j) u / 24 = u / 24)
def pg_ok (P : Nat → Nat → Nat) : Prop := 2 ≤ P 6 0 ∧ P 6 0 ≤ 6 ∧ (∀ f, P 5 f ≤ 24) ∧ ∀ u, ou_us P u → pg_nd P u
def ki_f (t kc ka kb : Nat) : Nat :=
  if t = 13 then kc else if t = 3 then kb else if t = 6 then ka else
  if t = 10 ∨ t = 24 ∨ t = 8 then 3 else
  if t = 11 ∨ t = 12 ∨ (19 ≤ t ∧ t ≤ 23) ∨ t = 9 then 2 else 1
def ki_m (t ka kb kc : Nat) : Prop :=
  if t = 7 ∨ t = 8 ∨ t = 9 then ka = 3 else
  if t = 23 then ka = 2 else
  if t = 28 ∨ t = 13 then ka = 1 else
  if t = 3 then ka = 2 ∧ kb = kc else
  if t = 6 then ka = kb else
  if t = 20 then ka = kb ∧ ka ≠ 3 else
  if t = 24 then ka = 1 ∧ kb = 3 else
  if t = 21 ∨ t = 22 then ka = 2 ∧ kb = 2 else
  if 14 ≤ t ∧ t ≤ 19 then ka = 1 ∧ kb = 1 else True
def ty_ok (P : Nat → Nat → Nat) (kc K : Nat → Nat) : Prop :=
  (∀ u, ou_us P u → K u = ki_f (P 0 u) (kc (P 1 u)) (K (P 2 u)) (K (P 3 u)) ∧ ki_m (P 0 u) (K (P 2 u)) (K (P 3 u)) (K (P 4 u))) ∧
  (∀ f, f < 5 → 0 < P 5 f → K (f * 24 + P 5 f - 1) = kc f)
def ty_o (P : Nat → Nat → Nat) (K : Nat → Nat) (c : Nat) (o : ou_O) : Prop :=
  (o.1 = 1 ∧ o.2.1 = K (c / 6) ∧ (o.2.1 = 2 → o.2.2 = 0 ∨ o.2.2 = 1) ∧
    (o.2.1 = 3 → o.2.2 = 0 ∨ ∃ j, j < 720 ∧ ou_uc P j ∧ P 0 (j / 6) = 24 ∧ o.2.2 = lN (j + 1))) ∨
  ((o.1 = 3 ∨ o.1 = 4 ∨ o.1 = 5) ∧ o.2 = (0, 0))
theorem ty_cp {P : Nat → Nat → Nat} {K : Nat → Nat} {c d : Nat} {o : ou_O} (h : ty_o P K d o) (e : K (d / 6) = K (c / 6)) : ty_o P K c o := by
  unfold ty_o at *; rw [← e]; exact h
theorem ty_er {P : Nat → Nat → Nat} {K : Nat → Nat} {c d : Nat} {o : ou_O} (h : ty_o P K d o) (hn : ¬ o.1 = 1) : ty_o P K c o := by
  rcases h with h | h
  · exact absurd h.1 hn
  · exact Or.inr h
theorem ou_ps_d (P : Nat → Nat → Nat) (k c : Nat) : ou_ps P k c / 6 = P k (c / 6) := by
  unfold ou_ps; omega
theorem ou_ps_m (P : Nat → Nat → Nat) (k c : Nat) : ou_ps P k c % 6 = c % 6 := by
  unfold ou_ps; omega
theorem ou_jn_e {j : Nat} (h : j < 720) : ou_jn (lN (j + 1)) = j := by
  unfold ou_jn; rw [lN_toInt (by omega)]; omega
theorem ou_arg {v : Int64} {w : Nat} (hw : w < 2 ^ 31) (h : ¬ (v < 0 ∨ lN w ≤ v)) : ∃ x, x < w ∧ v = lN x ∧ ou_an v = x := by
  have h0 : ¬ v < 0 := fun q => h (Or.inl q)
  obtain ⟨k, hk, rfl⟩ := pk_lOf h0
  have h1 : ¬ lN w ≤ lN k := fun q => h (Or.inr q)
  rw [pk_lLE (by omega) hk] at h1
  refine ⟨k, by omega, rfl, ?_⟩
  unfold ou_an; rw [pk_lT hk]; omega
theorem ou_cf_d {P : Nat → Nat → Nat} {f x : Nat} (hx : x < 6) : ou_cf P f x / 6 = f * 24 + P 5 f - 1 := by
  unfold ou_cf; omega
theorem ou_cf_m {P : Nat → Nat → Nat} {f x : Nat} (hx : x < 6) : ou_cf P f x % 6 = x := by
  unfold ou_cf; omega
theorem pg_pu {P : Nat → Nat → Nat} {u p : Nat} (hu : ou_us P u) (h : p < u) (hd : p / 24 = u / 24) : ou_us P p := by
  obtain ⟨h1, h2⟩ := hu
  refine ⟨by omega, ?_⟩
  rw [hd]; omega
theorem pg_ru {P : Nat → Nat → Nat} (hP : pg_ok P) {f : Nat} (hf : f < 5) (hs : 0 < P 5 f) : ou_us P (f * 24 + P 5 f - 1) := by
  have := hP.2.2.1 f
  have e : (f * 24 + P 5 f - 1) / 24 = f := by omega
  refine ⟨by omega, ?_⟩
  rw [e]; omega
theorem pg_cs {t : Nat} (h : pg_op t) : t = 1 ∨ t = 2 ∨ t = 3 ∨ t = 6 ∨ t = 7 ∨ t = 8 ∨ t = 9 ∨ t = 10 ∨ t = 11 ∨ t = 12 ∨ t = 13 ∨ (14 ≤ t ∧ t ≤ 20) ∨ t = 21 ∨ t = 22 ∨ t = 23 ∨ t = 24 ∨ t = 28 := by
  unfold pg_op at h; omega
theorem ty_ar {P : Nat → Nat → Nat} {K : Nat → Nat} {c : Nat} {x y : Int64} {t : Nat} (h1 : 14 ≤ t) (h2 : t ≤ 20) (hk : K (c / 6) = if 19 ≤ t then 2 else 1) : ty_o P K c (ou_ar t x y) := by
  unfold ou_ar
  split
  · exact Or.inr ⟨Or.inl rfl, rfl⟩
  · rename_i hz
    have h : t = 14 ∨ t = 15 ∨ t = 16 ∨ t = 17 ∨ t = 18 ∨ t = 19 ∨ t = 20 := by omega
    rcases h with h | h | h | h | h | h | h <;> subst h <;> simp at hk <;> simp [ty_o, hk]
    · by_cases hq : x < y
      · simp [hq]
      · exact Or.inl (Int64.not_lt.mp hq)
    · by_cases hq : x = y
      · simp [hq]
      · simp [hq]
theorem ty_lf {P : Nat → Nat → Nat} {K : Nat → Nat} {c : Nat} {kc : Nat} {ka kb : Nat} (hc : c < 720) (hu : ou_uc P c) (ht : ou_lf (P 0 (c / 6)) = true) (hk : K (c / 6) = ki_f (P 0 (c / 6)) kc ka kb) : ty_o P K c (ou_lv P c) := by
  have h : P 0 (c / 6) = 1 ∨ P 0 (c / 6) = 2 ∨ P 0 (c / 6) = 10 ∨ P 0 (c / 6) = 11 ∨ P 0 (c / 6) = 12 ∨ P 0 (c / 6) = 24 := by
    simp [ou_lf] at ht; omega
  rcases h with h | h | h | h | h | h <;> rw [h] at hk <;> simp [ki_f] at hk <;> simp [ou_lv, h, ty_o, hk]
  exact Or.inr ⟨c, hc, hu, h, rfl⟩
theorem ou_uc_lt {P : Nat → Nat → Nat} {c : Nat} (h : ou_uc P c) : c < 720 := by
  have := h.1.1; omega
theorem ty_ev {P : Nat → Nat → Nat} {kc K : Nat → Nat} (hP : pg_ok P) (hK : ty_ok P kc K) : ∀ k c o, ou_ev P k c = some o → ty_o P K c o := by
  intro k
  induction k with
  | zero => intro c o h; simp [ou_ev] at h
  | succ k ih =>
    intro c o h
    have hu := ou_V_us (P := P) (c := c) (o := o) ⟨k + 1, h⟩
    rw [ou_ev1, if_pos hu] at h
    obtain ⟨hKu, hm⟩ := hK.1 _ hu.1
    obtain ⟨ho, _, hcl, hpt⟩ := hP.2.2.2 _ hu.1
    unfold ou_rl at h
    by_cases hl : ou_lf (P 0 (c / 6)) = true
    · rw [if_pos hl] at h
      rw [← Option.some.inj h]
      exact ty_lf (ou_uc_lt hu) hu hl hKu
    · rw [if_neg hl] at h
      obtain ⟨a, ha, hg⟩ := ou_bi h
      have ta := ih _ _ ha
      have d2 := ou_ps_d P 2 c
      have d3 := ou_ps_d P 3 c
      have d4 := ou_ps_d P 4 c
      have tE : ∀ d r, ou_ev P k d = some r → K (d / 6) = K (c / 6) → ty_o P K c r := fun d r hd e => ty_cp (ih d r hd) e
      clear ha h
      generalize hE : ou_ev P k = E at *
      by_cases h6 : P 0 (c / 6) = 6
      · rw [h6] at hKu hm
        simp [ki_f] at hKu
        simp [ki_m] at hm
        by_cases h1 : a.1 = 1
        · simp [ou_md, h6, h1, ou_go] at hg
          subst hg
          exact ty_cp ta (by rw [d2, hKu])
        · simp [ou_md, h6, h1, ou_go] at hg
          exact tE _ _ hg (by rw [d3, hKu, hm])
      · by_cases h1 : ¬ a.1 = 1
        · simp [ou_md, h6, h1, ou_go] at hg
          subst hg
          exact ty_er ta h1
        · have h1 : a.1 = 1 := Classical.not_not.mp h1
          obtain ⟨_, hta, htb, htl⟩ : a.1 = 1 ∧ a.2.1 = K (P 2 (c / 6)) ∧ (a.2.1 = 2 → a.2.2 = 0 ∨ a.2.2 = 1) ∧
              (a.2.1 = 3 → a.2.2 = 0 ∨ ∃ j, j < 720 ∧ ou_uc P j ∧ P 0 (j / 6) = 24 ∧ a.2.2 = lN (j + 1)) := by
            rcases ta with ta | ta
            · rw [d2] at ta; exact ta
            · have := ta.1; omega
          rcases pg_cs ho with t | t | t | t | t | t | t | t | t | t | t | t | t | t | t | t | t
          · exact absurd (by rw [t]; rfl) hl
          · exact absurd (by rw [t]; rfl) hl
          · -- if
            rw [t] at hKu hm
            simp [ki_f] at hKu
            simp [ki_m] at hm
            by_cases hv : a.2.2 = 0
            · simp [ou_md, t, h1, hv, ou_go] at hg
              exact tE _ _ hg (by rw [d4, hKu, hm.2])
            · simp [ou_md, t, h1, hv, ou_go] at hg
              exact tE _ _ hg (by rw [d3, hKu])
          · exact absurd t h6
          · -- hd
            rw [t] at hKu hm
            simp [ki_f] at hKu
            simp [ki_m] at hm
            by_cases hv : a.2.2 = 0
            · simp [ou_md, t, h1, hv, ou_go] at hg
              subst hg
              exact Or.inr ⟨Or.inr (Or.inr rfl), rfl⟩
            · rcases htl (by rw [hta, hm]) with q | ⟨j, hj, hju, hj24, hjv⟩
              · exact absurd q hv
              · have hmj := (hK.1 _ hju.1).2
                rw [hj24] at hmj
                simp [ki_m] at hmj
                simp [ou_md, t, h1, hv, ou_go] at hg
                rw [hjv, ou_jn_e hj] at hg
                exact tE _ _ hg (by rw [ou_ps_d, hKu, hmj.1])
          · -- tl
            rw [t] at hKu hm
            simp [ki_f] at hKu
            simp [ki_m] at hm
            by_cases hv : a.2.2 = 0
            · simp [ou_md, t, h1, hv, ou_go] at hg
              subst hg
              exact Or.inr ⟨Or.inr (Or.inr rfl), rfl⟩
            · rcases htl (by rw [hta, hm]) with q | ⟨j, hj, hju, hj24, hjv⟩
              · exact absurd q hv
              · have hmj := (hK.1 _ hju.1).2
                rw [hj24] at hmj
                simp [ki_m] at hmj
                simp [ou_md, t, h1, hv, ou_go] at hg
                rw [hjv, ou_jn_e hj] at hg
                exact tE _ _ hg (by rw [ou_ps_d, hKu, hmj.2])
          · -- nul
            rw [t] at hKu
            simp [ki_f] at hKu
            by_cases hv : a.2.2 = 0
            · simp [ou_md, t, h1, hv, ou_go] at hg
              subst hg; simp [ty_o, hKu]
            · simp [ou_md, t, h1, hv, ou_go] at hg
              subst hg; simp [ty_o, hKu]
          · exact absurd (by rw [t]; rfl) hl
          · exact absurd (by rw [t]; rfl) hl
          · exact absurd (by rw [t]; rfl) hl
          · -- call
            rw [t] at hKu
            simp [ki_f] at hKu
            obtain ⟨hf, hs⟩ := hcl t
            by_cases hv : a.2.2 < 0 ∨ lN (P 6 0) ≤ a.2.2
            · simp only [ou_md, t, h1, ou_go] at hg
              rw [if_pos hv] at hg
              simp at hg
              subst hg
              exact Or.inr ⟨Or.inr (Or.inl rfl), rfl⟩
            · simp only [ou_md, t, h1, ou_go] at hg
              rw [if_neg hv] at hg
              simp at hg
              have hw := hP.2.1
              obtain ⟨x, hx, _, hxn⟩ := ou_arg (by omega) hv
              rw [hxn] at hg
              exact tE _ _ hg (by rw [ou_cf_d (by omega), hK.2 _ hf hs, hKu])
          · -- two sides
            have hmd : ou_md P c a = (2, ou_ps P 3 c, a) := by
              unfold ou_md
              rw [if_neg (by omega), if_neg (by simp [h1]), if_neg (by omega), if_neg (by omega), if_neg (by omega), if_neg (by omega), if_neg (by omega), if_neg (by omega), if_neg (by omega), if_neg (by omega)]
            rw [hmd] at hg
            simp only [ou_go] at hg
            rw [if_neg (by omega), if_neg (by omega)] at hg
            obtain ⟨b, hb, hr⟩ := ou_bi hg
            by_cases hb1 : b.1 = 1
            · rw [if_pos hb1] at hr
              rw [← Option.some.inj hr]
              refine ty_ar t.1 t.2 ?_
              rw [hKu]
              unfold ki_f
              by_cases h19 : 19 ≤ P 0 (c / 6)
              · rw [if_pos h19, if_neg (by omega), if_neg (by omega), if_neg (by omega), if_neg (by omega), if_pos (by omega)]
              · rw [if_neg h19, if_neg (by omega), if_neg (by omega), if_neg (by omega), if_neg (by omega), if_neg (by omega)]
            · rw [if_neg hb1] at hr
              rw [← Option.some.inj hr]
              exact ty_er (ih _ _ hb) hb1
          · -- and
            rw [t] at hKu hm
            simp [ki_f] at hKu
            simp [ki_m] at hm
            by_cases hv : a.2.2 = 0
            · simp [ou_md, t, h1, hv, ou_go] at hg
              subst hg
              exact ty_cp ta (by rw [d2, hKu, hm.1])
            · simp [ou_md, t, h1, hv, ou_go] at hg
              exact tE _ _ hg (by rw [d3, hKu, hm.2])
          · -- or
            rw [t] at hKu hm
            simp [ki_f] at hKu
            simp [ki_m] at hm
            by_cases hv : a.2.2 = 0
            · simp [ou_md, t, h1, hv, ou_go] at hg
              exact tE _ _ hg (by rw [d3, hKu, hm.2])
            · simp [ou_md, t, h1, hv, ou_go] at hg
              subst hg
              exact ty_cp ta (by rw [d2, hKu, hm.1])
          · -- not
            rw [t] at hKu
            simp [ki_f] at hKu
            by_cases hv : a.2.2 = 0
            · simp [ou_md, t, h1, hv, ou_go] at hg
              subst hg; simp [ty_o, hKu]
            · simp [ou_md, t, h1, hv, ou_go] at hg
              subst hg; simp [ty_o, hKu]
          · exact absurd (by rw [t]; rfl) hl
          · -- neg
            rw [t] at hKu
            simp [ki_f] at hKu
            simp [ou_md, t, h1, ou_go] at hg
            subst hg; simp [ty_o, hKu]
