-- the defs in their order, and Y's breadth-first reading
def md_D (tk : Nat → Nat) (Q : Nat → Nat → Nat) (d : df_D) : Prop :=
  tk d.1 = 13 ∧ tk (d.1 + 1) = 20 ∧ tk d.2.2.2 = 25 ∧ (∀ i, d.1 ≤ i → i < d.2.2.2 → tk i ≠ 25) ∧ nd_W tk Q (d.1 + 2) d.2.2.2 (d.2.2.1 - 1) ∧ rg_o tk (d.1 + 2) d.2.2.2 ∧ Q 10 (d.2.2.1 - 1) = d.2.1 ∧ d.2.1 < d.2.2.1 ∧ 120 ≤ d.2.1
def md_F (tk : Nat → Nat) (Q : Nat → Nat → Nat) : List df_D → Nat → Nat → Nat → Nat → Prop
  | [], t, e, t2, e2 => t = t2 ∧ e = e2
  | d :: r, t, e, t2, e2 => d.1 = t ∧ d.2.1 = e ∧ md_D tk Q d ∧ md_F tk Q r (d.2.2.2 + 1) d.2.2.1 t2 e2
theorem md_of {tk : Nat → Nat} {Q : Nat → Nat → Nat} : ∀ (dl : List df_D) (t e : Nat), df_C tk Q dl t e → ∀ r t2 e2, md_F tk Q r t e t2 e2 → md_F tk Q (dl.reverse ++ r) 0 120 t2 e2 := by
  intro dl
  induction dl with
  | nil => intro t e h r t2 e2 g; obtain ⟨rfl, rfl⟩ := h; exact g
  | cons d s ih =>
    intro t e h r t2 e2 g
    obtain ⟨h1, h2, h3, h4, h5, h6, h7, h8, h9, h10, h11, h12⟩ := h
    have : (d :: s).reverse ++ r = s.reverse ++ (d :: r) := by simp
    rw [this]
    subst h1 h2
    exact ih _ _ h12 (d :: r) t2 e2 ⟨rfl, rfl, ⟨h3, h4, h5, h6, h7, h8, h9, h10, h11⟩, g⟩
theorem md_le {tk : Nat → Nat} {Q : Nat → Nat → Nat} : ∀ (r : List df_D) (t e t2 e2 : Nat), md_F tk Q r t e t2 e2 → t + 4 * r.length ≤ t2 ∧ e ≤ e2 := by
  intro r
  induction r with
  | nil => intro t e t2 e2 h; obtain ⟨rfl, rfl⟩ := h; simp
  | cons d s ih =>
    intro t e t2 e2 h
    obtain ⟨h1, h2, h3, h4⟩ := h
    have := ih _ _ _ _ h4
    have := h3.2.2.2.2.2.1.1
    have := h3.2.2.2.2.2.2.2.1
    rw [List.length_cons]
    omega
def yb_I (tk tp : Nat → Nat) (Q : Nat → Nat → Nat) (T F E Rd k N : Nat) (g : Nat → Nat) (nop nnm npl nA nB nC nLo nHi nLv : Nat → Int32) : Prop :=
  F ≤ k ∧ k ≤ N ∧ bf_B Q F E k N g ∧
  (∀ j, F ≤ j → j < N → F ≤ Q 10 (g j) ∧ Q 10 (g j) ≤ g j ∧ g j < E ∧ ∃ l h lv, nLo j = nI l ∧ nHi j = nI h ∧ nLv j = nI lv ∧ nd_W tk Q l h (g j) ∧ h ≤ T ∧ (k ≤ j → lv + Q 11 (g j) ≤ Rd) ∧ (j < k → lv + 1 ≤ Rd)) ∧
  (∀ j, F ≤ j → j < k → nop j = nI (Q 0 (g j)) ∧ nnm j = nI (Q 1 (g j)) ∧ npl j = nI (tp (Q 9 (g j))) ∧ (0 < pg_n (Q 0 (g j)) → ∃ a, nA j = nI a ∧ F ≤ a ∧ a < N ∧ g a = Q 2 (g j)) ∧
    (1 < pg_n (Q 0 (g j)) → ∃ a, nB j = nI a ∧ F ≤ a ∧ a < N ∧ g a = Q 3 (g j)) ∧ (2 < pg_n (Q 0 (g j)) → ∃ a, nC j = nI a ∧ F ≤ a ∧ a < N ∧ g a = Q 4 (g j))) ∧
  (∃ j, F ≤ j ∧ j < N ∧ ∃ lv, nLv j = nI lv ∧ ((j < k ∧ lv + 1 = Rd) ∨ (k ≤ j ∧ lv + Q 11 (g j) = Rd))) ∧ g F + 1 = E
theorem yb_c {tk tp : Nat → Nat} {Q : Nat → Nat → Nat} {T F E Rd k N : Nat} {g g2 : Nat → Nat} {nop nnm npl nA nB nC nLo nHi nLv nop2 nnm2 npl2 nA2 nB2 nC2 nLo2 nHi2 nLv2 : Nat → Int32}
    (hg : ∀ j, j < N → g2 j = g j) (ha : ∀ j, j < N → nop2 j = nop j ∧ nnm2 j = nnm j ∧ npl2 j = npl j ∧ nA2 j = nA j ∧ nB2 j = nB j ∧ nC2 j = nC j ∧ nLo2 j = nLo j ∧ nHi2 j = nHi j ∧ nLv2 j = nLv j) (hFN : F < N)
    (I : yb_I tk tp Q T F E Rd k N g nop nnm npl nA nB nC nLo nHi nLv) : yb_I tk tp Q T F E Rd k N g2 nop2 nnm2 npl2 nA2 nB2 nC2 nLo2 nHi2 nLv2 := by
  obtain ⟨i1, i2, i3, i4, i5, i6, i7⟩ := I
  refine ⟨i1, i2, fun S => ?_, fun j h1 h2 => ?_, fun j h1 h2 => ?_, ?_, by rw [hg F hFN]; exact i7⟩
  · have b := i3 S
    have c1 : ∀ m, m ≤ N → rg_c (bf_p S g2) m = rg_c (bf_p S g) m := fun m hm => bf_cc m (fun i hi => by unfold bf_p; rw [hg i (by omega)])
    have c2 : ∀ m, m ≤ N → rg_c (bf_w S Q g2) m = rg_c (bf_w S Q g) m := fun m hm => bf_cc m (fun i hi => by unfold bf_w; rw [hg i (by omega)])
    rw [c1 k i2, c1 F (by omega), c2 N (Nat.le_refl _), c2 k i2]
    exact b
  · obtain ⟨a1, a2, a3, a4, a5, a6, a7, a8, a9⟩ := ha j h2
    rw [hg j h2, a7, a8, a9]
    exact i4 j h1 h2
  · obtain ⟨a1, a2, a3, a4, a5, a6, a7, a8, a9⟩ := ha j (by omega)
    rw [hg j (by omega), a1, a2, a3, a4, a5, a6]
    obtain ⟨q1, q2, q3, q4, q5, q6⟩ := i5 j h1 h2
    refine ⟨q1, q2, q3, fun n => ?_, fun n => ?_, fun n => ?_⟩
    · obtain ⟨a, z1, z2, z3, z4⟩ := q4 n; exact ⟨a, z1, z2, z3, by rw [hg a z3]; exact z4⟩
    · obtain ⟨a, z1, z2, z3, z4⟩ := q5 n; exact ⟨a, z1, z2, z3, by rw [hg a z3]; exact z4⟩
    · obtain ⟨a, z1, z2, z3, z4⟩ := q6 n; exact ⟨a, z1, z2, z3, by rw [hg a z3]; exact z4⟩
  · obtain ⟨j, h1, h2, lv, h3, h4⟩ := i6
    obtain ⟨a1, a2, a3, a4, a5, a6, a7, a8, a9⟩ := ha j h2
    exact ⟨j, h1, h2, lv, by rw [a9]; exact h3, by rw [hg j h2]; exact h4⟩
-- the kids of a node
theorem yb_k {tk tn : Nat → Nat} {Q : Nat → Nat → Nat} {u F : Nat} (h : nd_ok tk tn Q u) (hF : F ≤ Q 10 u) : ∀ i, i < pg_n (Q 0 u) → F ≤ Q 10 (Q (2 + i) u) ∧ Q 10 (Q (2 + i) u) ≤ Q (2 + i) u ∧ Q (2 + i) u < u ∧ Q 11 (Q (2 + i) u) + 1 ≤ Q 11 u := by
  obtain ⟨g1, ⟨t0, t1, t2, t3⟩, g3, g4, g5, g6, g7, g8, g9, g10⟩ := h
  have n3 : pg_n (Q 0 u) ≤ 3 := by unfold pg_n; repeat' split
                                   all_goals omega
  have m1 : ∀ a b, a ≤ nd_m a b ∧ b ≤ nd_m a b := by intro a b; unfold nd_m; split <;> omega
  intro i hi
  have hc : pg_n (Q 0 u) = 1 ∨ pg_n (Q 0 u) = 2 ∨ pg_n (Q 0 u) = 3 := by omega
  rcases hc with e | e | e
  · have x := t1 e
    have a := g5 (by omega)
    have : i = 0 := by omega
    subst this
    have := m1 0 (Q 11 (Q 2 u))
    exact ⟨by show F ≤ Q 10 (Q 2 u); omega, a.2, a.1, by show Q 11 (Q 2 u) + 1 ≤ Q 11 u; omega⟩
  · have x := t2 e
    have a := g5 (by omega)
    have b := g6 (by omega)
    have q1 := m1 0 (Q 11 (Q 2 u))
    have q2 := m1 (nd_m 0 (Q 11 (Q 2 u))) (Q 11 (Q 3 u))
    have : i = 0 ∨ i = 1 := by omega
    rcases this with z | z <;> subst z
    · exact ⟨by show F ≤ Q 10 (Q 2 u); omega, a.2, a.1, by show Q 11 (Q 2 u) + 1 ≤ Q 11 u; omega⟩
    · exact ⟨by show F ≤ Q 10 (Q 3 u); omega, b.2, b.1, by show Q 11 (Q 3 u) + 1 ≤ Q 11 u; omega⟩
  · have x := t3 e
    have a := g5 (by omega)
    have b := g6 (by omega)
    have c := g7 (by omega)
    have q1 := m1 0 (Q 11 (Q 2 u))
    have q2 := m1 (nd_m 0 (Q 11 (Q 2 u))) (Q 11 (Q 3 u))
    have q3 := m1 (nd_m (nd_m 0 (Q 11 (Q 2 u))) (Q 11 (Q 3 u))) (Q 11 (Q 4 u))
    have : i = 0 ∨ i = 1 ∨ i = 2 := by omega
    rcases this with z | z | z <;> subst z
    · exact ⟨by show F ≤ Q 10 (Q 2 u); omega, a.2, a.1, by show Q 11 (Q 2 u) + 1 ≤ Q 11 u; omega⟩
    · exact ⟨by show F ≤ Q 10 (Q 3 u); omega, b.2, b.1, by show Q 11 (Q 3 u) + 1 ≤ Q 11 u; omega⟩
    · exact ⟨by show F ≤ Q 10 (Q 4 u); omega, c.2, c.1, by show Q 11 (Q 4 u) + 1 ≤ Q 11 u; omega⟩
theorem yb_d {tk tn : Nat → Nat} {Q : Nat → Nat → Nat} {u : Nat} (h : nd_ok tk tn Q u) : (pg_n (Q 0 u) = 0 ∧ Q 11 u = 1) ∨ ∃ i, i < pg_n (Q 0 u) ∧ Q 11 (Q (2 + i) u) + 1 = Q 11 u := by
  obtain ⟨g1, ⟨t0, t1, t2, t3⟩, _⟩ := h
  have n3 : pg_n (Q 0 u) ≤ 3 := by unfold pg_n; repeat' split
                                   all_goals omega
  have m0 : ∀ b, nd_m 0 b = b := by intro b; unfold nd_m; split <;> omega
  have mm : ∀ a b, nd_m a b = a ∨ nd_m a b = b := by intro a b; unfold nd_m; split <;> simp
  have hc : pg_n (Q 0 u) = 0 ∨ pg_n (Q 0 u) = 1 ∨ pg_n (Q 0 u) = 2 ∨ pg_n (Q 0 u) = 3 := by omega
  rcases hc with e | e | e | e
  · exact Or.inl ⟨e, (t0 e).2⟩
  · have x := t1 e
    rw [m0] at x
    exact Or.inr ⟨0, by omega, by show Q 11 (Q 2 u) + 1 = Q 11 u; omega⟩
  · have x := t2 e
    rw [m0] at x
    rcases mm (Q 11 (Q 2 u)) (Q 11 (Q 3 u)) with z | z <;> rw [z] at x
    · exact Or.inr ⟨0, by omega, by show Q 11 (Q 2 u) + 1 = Q 11 u; omega⟩
    · exact Or.inr ⟨1, by omega, by show Q 11 (Q 3 u) + 1 = Q 11 u; omega⟩
  · have x := t3 e
    rw [m0] at x
    rcases mm (nd_m (Q 11 (Q 2 u)) (Q 11 (Q 3 u))) (Q 11 (Q 4 u)) with z | z <;> rw [z] at x
    · rcases mm (Q 11 (Q 2 u)) (Q 11 (Q 3 u)) with z | z <;> rw [z] at x
      · exact Or.inr ⟨0, by omega, by show Q 11 (Q 2 u) + 1 = Q 11 u; omega⟩
      · exact Or.inr ⟨1, by omega, by show Q 11 (Q 3 u) + 1 = Q 11 u; omega⟩
    · exact Or.inr ⟨2, by omega, by show Q 11 (Q 4 u) + 1 = Q 11 u; omega⟩
theorem yb_gi {g : Nat → Nat} {N u i : Nat} {Q : Nat → Nat → Nat} : bf_g g N Q u (N + i) = Q (2 + i) u := by
  unfold bf_g; rw [if_pos (by omega), Nat.add_sub_cancel_left]
theorem yb_s {tk tn tp : Nat → Nat} {Q : Nat → Nat → Nat} {T F E Rd k N : Nat} {g : Nat → Nat} {nop nnm npl nA nB nC nLo nHi nLv nop2 nnm2 npl2 nA2 nB2 nC2 nLo2 nHi2 nLv2 : Nat → Int32}
    (I : yb_I tk tp Q T F E Rd k N g nop nnm npl nA nB nC nLo nHi nLv) (hk : k < N) (hok : nd_ok tk tn Q (g k)) {l h lv : Nat} (hlv : nLv k = nI lv) (hlv2 : lv < 2 ^ 30) (hRd : Rd < 2 ^ 30)
    (R : sp_R tk tn tp Q T (g k) k N (lv + 1) nop nnm npl nA nB nC nLo nHi nLv nop2 nnm2 npl2 nA2 nB2 nC2 nLo2 nHi2 nLv2) : yb_I tk tp Q T F E Rd (k + 1) (N + pg_n (Q 0 (g k))) (bf_g g N Q (g k)) nop2 nnm2 npl2 nA2 nB2 nC2 nLo2 nHi2 nLv2 := by
  obtain ⟨i1, i2, i3, i4, i5, i6, i7⟩ := I
  obtain ⟨⟨r1, r1k⟩, ⟨r2, r2k⟩, ⟨r3, r3k⟩, ⟨r4, r4k⟩, ⟨r5, r5k⟩, ⟨r6, r6k⟩, r7, r8⟩ := R
  have n3 : pg_n (Q 0 (g k)) ≤ 3 := by unfold pg_n; repeat' split
                                       all_goals omega
  obtain ⟨k1, k2, k3, l0, h0, lv0, k4, k5, k6, k7, k8, k9, k10⟩ := i4 k i1 hk
  have elv : lv0 = lv := by
    rw [k6] at hlv
    have := k9 (Nat.le_refl _)
    exact (nI_eq (by omega) (by omega)).mp hlv
  subst elv
  have kd := yb_k hok k1
  have d1 : 1 ≤ Q 11 (g k) := by
    rcases yb_d hok with q | ⟨i, q1, q2⟩
    · omega
    · omega
  have gl : ∀ j, j < N → bf_g g N Q (g k) j = g j := fun j hj => bf_gl hj
  refine ⟨by omega, by omega, bf_st i3 i1 hk hok.2.1 n3, fun j h1 h2 => ?_, fun j h1 h2 => ?_, ?_, by rw [gl F (by omega)]; exact i7⟩
  · by_cases c : j < N
    · obtain ⟨a1, a2, a3⟩ := r7 j c
      rw [gl j c, a1, a2, a3]
      obtain ⟨q1, q2, q3, l1, h1', lv1, q4, q5, q6, q7, q8, q9, q10⟩ := i4 j h1 c
      refine ⟨q1, q2, q3, l1, h1', lv1, q4, q5, q6, q7, q8, fun z => q9 (by omega), fun z => ?_⟩
      by_cases e : j = k
      · subst e
        rw [k6] at q6
        have := q9 (Nat.le_refl _)
        omega
      · exact q10 (by omega)
    · obtain ⟨i, rfl⟩ : ∃ i, j = N + i := ⟨j - N, by omega⟩
      obtain ⟨l1, h1', q4, q5, q6, q7, q8⟩ := r8 i (by omega)
      obtain ⟨y1, y2, y3, y4⟩ := kd i (by omega)
      rw [yb_gi]
      have := k9 (Nat.le_refl _)
      exact ⟨y1, y2, by omega, l1, h1', lv0 + 1, q4, q5, q6, q7, q8, fun _ => by omega, fun z => by omega⟩
  · by_cases c : j = k
    · subst c
      rw [gl j hk, r1k, r2k, r3k]
      refine ⟨rfl, by rw [hok.2.2.1], rfl, fun n => ⟨N, r4k n, by omega, by omega, bf_g0⟩, fun n => ⟨N + 1, r5k n, by omega, by omega, bf_g1⟩, fun n => ⟨N + 2, r6k n, by omega, by omega, bf_g2⟩⟩
    · rw [gl j (by omega), r1 j c, r2 j c, r3 j c, r4 j c, r5 j c, r6 j c]
      obtain ⟨q1, q2, q3, q4, q5, q6⟩ := i5 j h1 (by omega)
      refine ⟨q1, q2, q3, fun n => ?_, fun n => ?_, fun n => ?_⟩
      · obtain ⟨a, z1, z2, z3, z4⟩ := q4 n; exact ⟨a, z1, z2, by omega, by rw [gl a z3]; exact z4⟩
      · obtain ⟨a, z1, z2, z3, z4⟩ := q5 n; exact ⟨a, z1, z2, by omega, by rw [gl a z3]; exact z4⟩
      · obtain ⟨a, z1, z2, z3, z4⟩ := q6 n; exact ⟨a, z1, z2, by omega, by rw [gl a z3]; exact z4⟩
  · obtain ⟨j, h1, h2, lw, h3, h4⟩ := i6
    by_cases c : j = k
    · subst c
      have e2 : lw + Q 11 (g j) = Rd := by omega
      have e3 : lw = lv0 := by
        rw [k6] at h3
        exact ((nI_eq (by omega) (by omega)).mp h3).symm
      subst e3
      rcases yb_d hok with ⟨q1, q2⟩ | ⟨i, q1, q2⟩
      · exact ⟨j, h1, by omega, lw, by rw [(r7 j h2).2.2]; exact h3, Or.inl ⟨by omega, by omega⟩⟩
      · obtain ⟨l1, h1', w4, w5, w6, w7, w8⟩ := r8 i q1
        exact ⟨N + i, by omega, by omega, lw + 1, w6, Or.inr ⟨by omega, by rw [yb_gi]; omega⟩⟩
    · refine ⟨j, h1, by omega, lw, by rw [(r7 j h2).2.2]; exact h3, ?_⟩
      rw [gl j h2]
      omega
