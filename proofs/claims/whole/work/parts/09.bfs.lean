-- BREADTH FIRST: the reference's node j stands for the node g j
theorem bf_cc {h g : Nat → Int} : ∀ n, (∀ i, i < n → h i = g i) → rg_c h n = rg_c g n := by
  intro n
  induction n with
  | zero => intro _; rfl
  | succ n ih => intro e; show rg_c h n + h n = rg_c g n + g n; rw [ih (fun i hi => e i (by omega)), e n (by omega)]
def bf_p (S : Nat → Int) (g : Nat → Nat) (j : Nat) : Int := S (g j + 1) - S (g j)
def bf_w (S : Nat → Int) (Q : Nat → Nat → Nat) (g : Nat → Nat) (j : Nat) : Int := S (g j + 1) - S (Q 10 (g j))
def bf_B (Q : Nat → Nat → Nat) (F E k N : Nat) (g : Nat → Nat) : Prop :=
  ∀ S : Nat → Int, (rg_c (bf_p S g) k - rg_c (bf_p S g) F) + (rg_c (bf_w S Q g) N - rg_c (bf_w S Q g) k) = S E - S F
def bf_g (g : Nat → Nat) (N : Nat) (Q : Nat → Nat → Nat) (u : Nat) : Nat → Nat := fun i => if N ≤ i then Q (2 + (i - N)) u else g i
theorem bf_gl {g : Nat → Nat} {N u i : Nat} {Q : Nat → Nat → Nat} (h : i < N) : bf_g g N Q u i = g i := if_neg (by omega)
theorem bf_g0 {g : Nat → Nat} {N u : Nat} {Q : Nat → Nat → Nat} : bf_g g N Q u N = Q 2 u := by
  unfold bf_g; rw [if_pos (Nat.le_refl _), Nat.sub_self]
theorem bf_g1 {g : Nat → Nat} {N u : Nat} {Q : Nat → Nat → Nat} : bf_g g N Q u (N + 1) = Q 3 u := by
  unfold bf_g; rw [if_pos (by omega), Nat.add_sub_cancel_left]
theorem bf_g2 {g : Nat → Nat} {N u : Nat} {Q : Nat → Nat → Nat} : bf_g g N Q u (N + 2) = Q 4 u := by
  unfold bf_g; rw [if_pos (by omega), Nat.add_sub_cancel_left]
theorem bf_s1 (h : Nat → Int) (n : Nat) : rg_c h (n + 1) = rg_c h n + h n := rfl
theorem bf_0 {Q : Nat → Nat → Nat} {F E : Nat} {g : Nat → Nat} (h1 : g F + 1 = E) (h2 : Q 10 (g F) = F) : bf_B Q F E F (F + 1) g := by
  intro S
  rw [bf_s1]
  have : bf_w S Q g F = S E - S F := by unfold bf_w; rw [h1, h2]
  omega
theorem bf_st {Q : Nat → Nat → Nat} {F E k N : Nat} {g : Nat → Nat} (hB : bf_B Q F E k N g) (hF : F ≤ k) (hk : k < N) (ht : nd_t Q (g k)) (hn : pg_n (Q 0 (g k)) ≤ 3) :
    bf_B Q F E (k + 1) (N + pg_n (Q 0 (g k))) (bf_g g N Q (g k)) := by
  intro S
  have b := hB S
  have c1 : rg_c (bf_p S (bf_g g N Q (g k))) k = rg_c (bf_p S g) k := bf_cc k (fun i hi => by unfold bf_p; rw [bf_gl (by omega)])
  have c2 : rg_c (bf_p S (bf_g g N Q (g k))) F = rg_c (bf_p S g) F := bf_cc F (fun i hi => by unfold bf_p; rw [bf_gl (by omega)])
  have c3 : rg_c (bf_w S Q (bf_g g N Q (g k))) N = rg_c (bf_w S Q g) N := bf_cc N (fun i hi => by unfold bf_w; rw [bf_gl (by omega)])
  have c4 : rg_c (bf_w S Q (bf_g g N Q (g k))) k = rg_c (bf_w S Q g) k := bf_cc k (fun i hi => by unfold bf_w; rw [bf_gl (by omega)])
  have c5 : bf_p S (bf_g g N Q (g k)) k = S (g k + 1) - S (g k) := by unfold bf_p; rw [bf_gl hk]
  have c6 : bf_w S Q (bf_g g N Q (g k)) k = S (g k + 1) - S (Q 10 (g k)) := by unfold bf_w; rw [bf_gl hk]
  have w0 : bf_w S Q (bf_g g N Q (g k)) N = S (Q 2 (g k) + 1) - S (Q 10 (Q 2 (g k))) := by unfold bf_w; rw [bf_g0]
  have w1 : bf_w S Q (bf_g g N Q (g k)) (N + 1) = S (Q 3 (g k) + 1) - S (Q 10 (Q 3 (g k))) := by unfold bf_w; rw [bf_g1]
  have w2 : bf_w S Q (bf_g g N Q (g k)) (N + 2) = S (Q 4 (g k) + 1) - S (Q 10 (Q 4 (g k))) := by unfold bf_w; rw [bf_g2]
  obtain ⟨t0, t1, t2, t3⟩ := ht
  have hc : pg_n (Q 0 (g k)) = 0 ∨ pg_n (Q 0 (g k)) = 1 ∨ pg_n (Q 0 (g k)) = 2 ∨ pg_n (Q 0 (g k)) = 3 := by omega
  rcases hc with e | e | e | e
  · obtain ⟨x1, _⟩ := t0 e
    have e0 : N + pg_n (Q 0 (g k)) = N := by omega
    rw [e0, bf_s1, bf_s1, c1, c2, c3, c4, c5, c6]
    have : S (Q 10 (g k)) = S (g k) := by rw [x1]
    omega
  · obtain ⟨x1, x2, _⟩ := t1 e
    rw [e, bf_s1, bf_s1, bf_s1, c1, c2, c3, c4, c5, c6, w0]
    have y1 : S (Q 2 (g k) + 1) = S (g k) := by rw [x1]
    have y2 : S (Q 10 (Q 2 (g k))) = S (Q 10 (g k)) := by rw [x2]
    omega
  · obtain ⟨x1, x2, x3, _⟩ := t2 e
    have e2 : N + 2 = N + 1 + 1 := rfl
    rw [e, e2, bf_s1, bf_s1, bf_s1, bf_s1, c1, c2, c3, c4, c5, c6, w0, w1]
    have y1 : S (Q 3 (g k) + 1) = S (g k) := by rw [x1]
    have y2 : S (Q 2 (g k) + 1) = S (Q 10 (Q 3 (g k))) := by rw [x2]
    have y3 : S (Q 10 (Q 2 (g k))) = S (Q 10 (g k)) := by rw [x3]
    omega
  · obtain ⟨x1, x2, x3, x4, _⟩ := t3 e
    have e2 : N + 3 = N + 1 + 1 + 1 := rfl
    have w2' : bf_w S Q (bf_g g N Q (g k)) (N + 1 + 1) = S (Q 4 (g k) + 1) - S (Q 10 (Q 4 (g k))) := w2
    rw [e, e2, bf_s1, bf_s1, bf_s1, bf_s1, bf_s1, c1, c2, c3, c4, c5, c6, w0, w1, w2']
    have y1 : S (Q 4 (g k) + 1) = S (g k) := by rw [x1]
    have y2 : S (Q 3 (g k) + 1) = S (Q 10 (Q 4 (g k))) := by rw [x2]
    have y3 : S (Q 2 (g k) + 1) = S (Q 10 (Q 3 (g k))) := by rw [x3]
    have y4 : S (Q 10 (Q 2 (g k))) = S (Q 10 (g k)) := by rw [x4]
    omega
-- sums of terms that are at least b
theorem bf_ge {h : Nat → Int} {a : Nat} : ∀ n, (∀ i, a ≤ i → i < a + n → 1 ≤ h i) → (n : Int) ≤ rg_c h (a + n) - rg_c h a := by
  intro n
  induction n with
  | zero => intro _; show ((0 : Nat) : Int) ≤ rg_c h a - rg_c h a; omega
  | succ n ih =>
    intro e
    have := ih (fun i h1 h2 => e i h1 (by omega))
    have h2 := e (a + n) (by omega) (by omega)
    have h3 : rg_c h (a + (n + 1)) = rg_c h (a + n) + h (a + n) := rfl
    omega
theorem bf_pos {h : Nat → Int} {a : Nat} : ∀ n, (∀ i, a ≤ i → i < a + n → 0 ≤ h i) → 0 ≤ rg_c h (a + n) - rg_c h a := by
  intro n
  induction n with
  | zero => intro _; show (0 : Int) ≤ rg_c h a - rg_c h a; omega
  | succ n ih =>
    intro e
    have := ih (fun i h1 h2 => e i h1 (by omega))
    have h2 := e (a + n) (by omega) (by omega)
    have h3 : rg_c h (a + (n + 1)) = rg_c h (a + n) + h (a + n) := rfl
    omega
theorem bf_zero {h : Nat → Int} {a : Nat} : ∀ n, (∀ i, a ≤ i → i < a + n → h i = 0) → rg_c h (a + n) - rg_c h a = 0 := by
  intro n
  induction n with
  | zero => intro _; show rg_c h a - rg_c h a = 0; omega
  | succ n ih =>
    intro e
    have := ih (fun i h1 h2 => e i h1 (by omega))
    have h2 := e (a + n) (by omega) (by omega)
    have h3 : rg_c h (a + (n + 1)) = rg_c h (a + n) + h (a + n) := rfl
    omega
-- how many nodes there may be
theorem bf_bd {Q : Nat → Nat → Nat} {F E k N : Nat} {g : Nat → Nat} (hB : bf_B Q F E k N g) (hF : F ≤ k) (hk : k ≤ N) (hE : F ≤ E) (hg : ∀ j, k ≤ j → j < N → Q 10 (g j) ≤ g j) : N - F ≤ E - F := by
  have b := hB (fun n => (n : Int))
  have p : ((k - F : Nat) : Int) ≤ rg_c (bf_p (fun n => (n : Int)) g) (F + (k - F)) - rg_c (bf_p (fun n => (n : Int)) g) F := by
    refine bf_ge _ (fun i _ _ => ?_)
    show (1 : Int) ≤ ((g i + 1 : Nat) : Int) - ((g i : Nat) : Int)
    omega
  have q : ((N - k : Nat) : Int) ≤ rg_c (bf_w (fun n => (n : Int)) Q g) (k + (N - k)) - rg_c (bf_w (fun n => (n : Int)) Q g) k := by
    refine bf_ge _ (fun i h1 h2 => ?_)
    show (1 : Int) ≤ ((g i + 1 : Nat) : Int) - ((Q 10 (g i) : Nat) : Int)
    have := hg i h1 (by omega)
    omega
  have e1 : F + (k - F) = k := by omega
  have e2 : k + (N - k) = N := by omega
  rw [e1] at p
  rw [e2] at q
  omega
theorem bf_n {Q : Nat → Nat → Nat} {F E N : Nat} {g : Nat → Nat} (hB : bf_B Q F E N N g) (S : Nat → Int) : rg_c (bf_p S g) N - rg_c (bf_p S g) F = S E - S F := by
  have := hB S; omega
theorem bf_N {Q : Nat → Nat → Nat} {F E N : Nat} {g : Nat → Nat} (hB : bf_B Q F E N N g) (hF : F ≤ N) (hE : F ≤ E) : N = E := by
  have b := bf_n hB (fun n => (n : Int))
  have c : rg_c (bf_p (fun n => (n : Int)) g) N = rg_c (fun _ => (1 : Int)) N := bf_cc N (fun i _ => by
    show ((g i + 1 : Nat) : Int) - ((g i : Nat) : Int) = 1
    omega)
  have d : rg_c (bf_p (fun n => (n : Int)) g) F = rg_c (fun _ => (1 : Int)) F := bf_cc F (fun i _ => by
    show ((g i + 1 : Nat) : Int) - ((g i : Nat) : Int) = 1
    omega)
  have one : ∀ n, rg_c (fun _ => (1 : Int)) n = (n : Int) := by
    intro n
    induction n with
    | zero => rfl
    | succ n ih => rw [bf_s1, ih]; omega
  rw [c, d, one, one] at b
  omega
def bf_i (c : Nat) (n : Nat) : Int := if c < n then 1 else 0
theorem bf_ip (c : Nat) (g : Nat → Nat) (j : Nat) : bf_p (bf_i c) g j = if g j = c then 1 else 0 := by
  unfold bf_p bf_i
  by_cases e : g j = c
  · rw [if_pos e, if_pos (by omega), if_neg (by omega)]; rfl
  · rw [if_neg e]
    by_cases h : c < g j
    · rw [if_pos (by omega), if_pos h]; rfl
    · rw [if_neg (by omega), if_neg h]; rfl
theorem bf_sur {Q : Nat → Nat → Nat} {F E N : Nat} {g : Nat → Nat} (hB : bf_B Q F E N N g) (hF : F ≤ N) {c : Nat} (h1 : F ≤ c) (h2 : c < E) : ∃ j, F ≤ j ∧ j < N ∧ g j = c := by
  apply Classical.byContradiction
  intro hn
  have z : rg_c (bf_p (bf_i c) g) (F + (N - F)) - rg_c (bf_p (bf_i c) g) F = 0 := by
    refine bf_zero _ (fun i a b => ?_)
    rw [bf_ip, if_neg (fun q => hn ⟨i, a, by omega, q⟩)]
  have b := bf_n hB (bf_i c)
  have e1 : F + (N - F) = N := by omega
  rw [e1] at z
  have x : bf_i c E = 1 := if_pos h2
  have y : bf_i c F = 0 := if_neg (by omega)
  omega
theorem bf_inj {Q : Nat → Nat → Nat} {F E N : Nat} {g : Nat → Nat} (hB : bf_B Q F E N N g) {i j : Nat} (hi : F ≤ i) (hij : i < j) (hj : j < N) : g i ≠ g j := by
  intro e
  have b := bf_n hB (bf_i (g i))
  have np : ∀ x, 0 ≤ bf_p (bf_i (g i)) g x := by
    intro x; rw [bf_ip]; split <;> decide
  have p1 := bf_pos (h := bf_p (bf_i (g i)) g) (a := F) (i - F) (fun x _ _ => np x)
  have p2 := bf_pos (h := bf_p (bf_i (g i)) g) (a := i + 1) (j - (i + 1)) (fun x _ _ => np x)
  have p3 := bf_pos (h := bf_p (bf_i (g i)) g) (a := j + 1) (N - (j + 1)) (fun x _ _ => np x)
  have e1 : F + (i - F) = i := by omega
  have e2 : i + 1 + (j - (i + 1)) = j := by omega
  have e3 : j + 1 + (N - (j + 1)) = N := by omega
  rw [e1] at p1
  rw [e2] at p2
  rw [e3] at p3
  have s1 := bf_s1 (bf_p (bf_i (g i)) g) i
  have s2 := bf_s1 (bf_p (bf_i (g i)) g) j
  have v1 : bf_p (bf_i (g i)) g i = 1 := by rw [bf_ip, if_pos rfl]
  have v2 : bf_p (bf_i (g i)) g j = 1 := by rw [bf_ip, if_pos e.symm]
  have x : bf_i (g i) E ≤ 1 := by unfold bf_i; split <;> decide
  have y : 0 ≤ bf_i (g i) F := by unfold bf_i; split <;> decide
  omega
-- every name in a range is some node's token
theorem bf_nm {tk tn : Nat → Nat} {Q : Nat → Nat → Nat} {F : Nat} : ∀ u, F ≤ Q 10 u → (∀ v, F ≤ v → v ≤ u → nd_ok tk tn Q v) → F ≤ u → ∀ l h, nd_W tk Q l h u → ∀ i, l ≤ i → i < h → tk i = 13 → ∃ v, Q 10 u ≤ v ∧ v ≤ u ∧ Q 9 v = i := by
  intro u
  induction u using Nat.strongRecOn with
  | ind u ih =>
    intro hFu hok hF l h hW i hl hh hi
    obtain ⟨b, w1, w2, w3⟩ := hW
    obtain ⟨g1, gt, g3, g4, g5, g6, g7, g8, g9, g10⟩ := hok u hF (Nat.le_refl _)
    have core : Q 7 u ≤ i ∧ i < Q 8 u := by
      constructor
      · apply Classical.byContradiction
        intro q
        have := (w3 (i - l) (by omega)).1
        have e : l + (i - l) = i := by omega
        rw [e] at this; omega
      · apply Classical.byContradiction
        intro q
        have := (w3 (h - 1 - i) (by omega)).2.1
        have e : h - 1 - (h - 1 - i) = i := by omega
        rw [e] at this; omega
    have me : Q 9 u = i → ∃ v, Q 10 u ≤ v ∧ v ≤ u ∧ Q 9 v = i := fun q => ⟨u, g4, Nat.le_refl _, q⟩
    have kid : ∀ v, v < u → Q 10 v ≤ v → Q 10 u ≤ Q 10 v → ∀ l h, nd_W tk Q l h v → l ≤ i → i < h → ∃ v, Q 10 u ≤ v ∧ v ≤ u ∧ Q 9 v = i := by
      intro v hv hv1 hv2 l h hw h1 h2
      obtain ⟨x, x1, x2, x3⟩ := ih v hv (by omega) (fun y y1 y2 => hok y y1 (by omega)) (by omega) l h hw i h1 h2 hi
      exact ⟨x, by omega, by omega, x3⟩
    obtain ⟨t0, t1, t2, t3⟩ := gt
    rcases g1 with g | ⟨q1, q2, q3, q4, q5, q6, q7, q8, q9⟩ | ⟨q1, q2, q3, q4⟩ | ⟨q1, q2, q3, q4, q5, q5a, q5b, q6⟩ | ⟨q1, q2, q3, p1, p2, q4, q5, q6, q7, q8, q9, q10, q11, q12, q13⟩ | ⟨q1, q2, q3, p2, q4, q5, q6, q7, q8, q9⟩
    · exact me (by omega)
    · have n := nd_n2 (t := Q 0 u) (by omega)
      have x := t2 n
      have xa := g5 (by omega)
      have xb := g6 (by omega)
      by_cases e : i = Q 9 u
      · exact me e.symm
      · by_cases e2 : i < Q 9 u
        · exact kid _ xa.1 xa.2 (by omega) _ _ q8 core.1 e2
        · exact kid _ xb.1 xb.2 (by omega) _ _ q9 (by omega) core.2
    · have n := nd_n1 (t := Q 0 u) (by omega)
      have x := t1 n
      have xa := g5 (by omega)
      by_cases e : i = Q 9 u
      · exact me e.symm
      · exact kid _ xa.1 xa.2 (by omega) _ _ q4 (by omega) core.2
    · have n := nd_n1 (t := Q 0 u) (by omega)
      have x := t1 n
      have xa := g5 (by omega)
      by_cases e : i = Q 9 u
      · exact me e.symm
      · have e1 : i ≠ Q 7 u + 1 := by intro q; rw [q] at hi; omega
        have e2 : i ≠ Q 8 u - 1 := by intro q; rw [q] at hi; omega
        exact kid _ xa.1 xa.2 (by omega) _ _ q6 (by omega) (by omega)
    · have n : pg_n (Q 0 u) = 3 := by rw [q1]; rfl
      have x := t3 n
      have xa := g5 (by omega)
      have xb := g6 (by omega)
      have xc := g7 (by omega)
      have e1 : i ≠ p1 := by intro q; rw [q] at hi; omega
      have e2 : i ≠ p2 := by intro q; rw [q] at hi; omega
      by_cases e : i = Q 9 u
      · exact me e.symm
      · by_cases e3 : i < p1
        · exact kid _ xa.1 xa.2 (by omega) _ _ q11 (by omega) e3
        · by_cases e4 : i < p2
          · exact kid _ xb.1 xb.2 (by omega) _ _ q12 (by omega) e4
          · exact kid _ xc.1 xc.2 (by omega) _ _ q13 (by omega) core.2
    · have n := nd_n2 (t := Q 0 u) (by omega)
      have x := t2 n
      have xa := g5 (by omega)
      have xb := g6 (by omega)
      have e2 : i ≠ p2 := by intro q; rw [q] at hi; omega
      by_cases e : i = Q 9 u
      · exact me e.symm
      · by_cases e3 : i < p2
        · exact kid _ xa.1 xa.2 (by omega) _ _ q8 (by omega) e3
        · exact kid _ xb.1 xb.2 (by omega) _ _ q9 (by omega) core.2
