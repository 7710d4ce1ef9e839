-- KINDS of nodes, choices, what unload leaves, counting
def ki_n (P : Nat → Nat → Nat) (kc : Nat → Nat) : Nat → Nat → Nat
  | 0 => fun _ => 0
  | n + 1 => fun u => ki_f (P 0 u) (kc (P 1 u)) (ki_n P kc n (P 2 u)) (ki_n P kc n (P 3 u))
def ki_k (P : Nat → Nat → Nat) (kc : Nat → Nat) (u : Nat) : Nat := ki_n P kc (u + 1) u
theorem ki_fc {t x a b a2 b2 : Nat} (h6 : t = 6 → a = a2) (h3 : t = 3 → b = b2) : ki_f t x a b = ki_f t x a2 b2 := by
  by_cases e3 : t = 3
  · subst e3; simp [ki_f, h3 rfl]
  · by_cases e6 : t = 6
    · subst e6; simp [ki_f, h6 rfl]
    · simp [ki_f, e3, e6]
def ki_cl (P : Nat → Nat → Nat) (S : Nat → Prop) : Prop := ∀ u, S u → ∀ j, j < pg_n (P 0 u) → P (2 + j) u < u ∧ S (P (2 + j) u)
theorem ki_p2 {P : Nat → Nat → Nat} {S : Nat → Prop} (h : ki_cl P S) {u : Nat} (hu : S u) (hn : 0 < pg_n (P 0 u)) : P 2 u < u ∧ S (P 2 u) := h u hu 0 hn
theorem ki_p3 {P : Nat → Nat → Nat} {S : Nat → Prop} (h : ki_cl P S) {u : Nat} (hu : S u) (hn : 1 < pg_n (P 0 u)) : P 3 u < u ∧ S (P 3 u) := h u hu 1 hn
theorem ki_p4 {P : Nat → Nat → Nat} {S : Nat → Prop} (h : ki_cl P S) {u : Nat} (hu : S u) (hn : 2 < pg_n (P 0 u)) : P 4 u < u ∧ S (P 4 u) := h u hu 2 hn
theorem ki_st {P : Nat → Nat → Nat} {kc : Nat → Nat} {S : Nat → Prop} (h : ki_cl P S) : ∀ u, S u → ∀ n m, u < n → u < m → ki_n P kc n u = ki_n P kc m u := by
  intro u
  induction u using Nat.strongRecOn with
  | ind u ih =>
    intro hu n m hn hm
    obtain ⟨n, rfl⟩ : ∃ k, n = k + 1 := ⟨n - 1, by omega⟩
    obtain ⟨m, rfl⟩ : ∃ k, m = k + 1 := ⟨m - 1, by omega⟩
    show ki_f _ _ _ _ = ki_f _ _ _ _
    apply ki_fc
    · intro h6
      have hp := ki_p2 h hu (by rw [h6]; decide)
      exact ih _ hp.1 hp.2 _ _ (by omega) (by omega)
    · intro h3
      have hp := ki_p3 h hu (by rw [h3]; decide)
      exact ih _ hp.1 hp.2 _ _ (by omega) (by omega)
theorem ki_e {P : Nat → Nat → Nat} {kc : Nat → Nat} {S : Nat → Prop} (h : ki_cl P S) {u : Nat} (hu : S u) : ki_k P kc u = ki_f (P 0 u) (kc (P 1 u)) (ki_k P kc (P 2 u)) (ki_k P kc (P 3 u)) := by
  show ki_f _ _ _ _ = ki_f _ _ _ _
  apply ki_fc
  · intro h6
    have hp := ki_p2 h hu (by rw [h6]; decide)
    exact ki_st h _ hp.2 _ _ (by omega) (by omega)
  · intro h3
    have hp := ki_p3 h hu (by rw [h3]; decide)
    exact ki_st h _ hp.2 _ _ (by omega) (by omega)
theorem ki_u {P : Nat → Nat → Nat} {kc : Nat → Nat} {S : Nat → Prop} (h : ki_cl P S) {K : Nat → Nat} : ∀ u, S u → (∀ v, v ≤ u → S v → K v = ki_f (P 0 v) (kc (P 1 v)) (K (P 2 v)) (K (P 3 v))) → K u = ki_k P kc u := by
  intro u
  induction u using Nat.strongRecOn with
  | ind u ih =>
    intro hu hK
    rw [hK u (Nat.le_refl _) hu, ki_e h hu]
    apply ki_fc
    · intro h6
      have hp := ki_p2 h hu (by rw [h6]; decide)
      exact ih _ hp.1 hp.2 (fun v hv => hK v (by omega))
    · intro h3
      have hp := ki_p3 h hu (by rw [h3]; decide)
      exact ih _ hp.1 hp.2 (fun v hv => hK v (by omega))
theorem ki_ag {P Q : Nat → Nat → Nat} {kc : Nat → Nat} {S : Nat → Prop} (h : ki_cl P S) (g : ki_cl Q S) (e : ∀ u, S u → P 0 u = Q 0 u ∧ P 1 u = Q 1 u ∧ (0 < pg_n (P 0 u) → P 2 u = Q 2 u) ∧ (1 < pg_n (P 0 u) → P 3 u = Q 3 u)) : ∀ u, S u → ki_k P kc u = ki_k Q kc u := by
  intro u
  induction u using Nat.strongRecOn with
  | ind u ih =>
    intro hu
    obtain ⟨e0, e1, e2, e3⟩ := e u hu
    rw [ki_e h hu, ki_e g hu, ← e0, ← e1]
    apply ki_fc
    · intro h6
      have hn : 0 < pg_n (P 0 u) := by rw [h6]; decide
      have hp := ki_p2 h hu hn
      rw [← e2 hn]; exact ih _ hp.1 hp.2
    · intro h3
      have hn : 1 < pg_n (P 0 u) := by rw [h3]; decide
      have hp := ki_p3 h hu hn
      rw [← e3 hn]; exact ih _ hp.1 hp.2
theorem pg_cl {P : Nat → Nat → Nat} (hP : pg_ok P) : ki_cl P (fun u => ou_us P u) := by
  intro u hu j hj
  obtain ⟨_, _, _, h⟩ := hP.2.2.2 u hu
  exact ⟨(h j hj).1, pg_pu hu (h j hj).1 (h j hj).2⟩
def ki_ok (P : Nat → Nat → Nat) (kc : Nat → Nat) : Prop :=
  (∀ u, ou_us P u → ki_m (P 0 u) (ki_k P kc (P 2 u)) (ki_k P kc (P 3 u)) (ki_k P kc (P 4 u))) ∧
  (∀ f, f < 5 → 0 < P 5 f → ki_k P kc (f * 24 + P 5 f - 1) = kc f)
theorem ki_ty {P : Nat → Nat → Nat} {kc : Nat → Nat} (hP : pg_ok P) (h : ki_ok P kc) : ty_ok P kc (ki_k P kc) :=
  ⟨fun u hu => ⟨ki_e (pg_cl hP) hu, h.1 u hu⟩, h.2⟩
-- choices
def ki_c (c f : Nat) : Nat := c / 3 ^ f % 3 + 1
theorem ki_c_r (c f : Nat) : 1 ≤ ki_c c f ∧ ki_c c f ≤ 3 := by
  unfold ki_c; omega
def ki_r (V : Nat → Prop) (n f r : Nat) : Prop :=
  (r = 0 ∧ ∀ c, c < n → ¬ V c) ∨
  (∃ c, c < n ∧ V c ∧ ki_c c f = r ∧ ∀ d, d < n → V d → ki_c d f = r) ∨
  (r = 1 ∧ ∃ c, c < n ∧ V c ∧ ∃ d, d < n ∧ V d ∧ ki_c c f ≠ ki_c d f)
theorem ki_r_u {V : Nat → Prop} {n f r s : Nat} (h : ki_r V n f r) (g : ki_r V n f s) : r = s := by
  rcases h with ⟨h, h2⟩ | ⟨c, hc, vc, ec, ac⟩ | ⟨h, c, hc, vc, d, hd, vd, ne⟩ <;>
  rcases g with ⟨g, g2⟩ | ⟨c2, hc2, vc2, ec2, ac2⟩ | ⟨g, c2, hc2, vc2, d2, hd2, vd2, ne2⟩
  · rw [h, g]
  · exact absurd vc2 (h2 _ hc2)
  · exact absurd vc2 (h2 _ hc2)
  · exact absurd vc (g2 _ hc)
  · rw [← ec2]; exact (ac _ hc2 vc2).symm
  · exact absurd (by rw [ac _ hc2 vc2, ac _ hd2 vd2]) ne2
  · exact absurd vc (g2 _ hc)
  · exact absurd (by rw [ac2 _ hc vc, ac2 _ hd vd]) ne
  · rw [h, g]
theorem ki_r_0 (V : Nat → Prop) (f : Nat) : ki_r V 0 f 0 := Or.inl ⟨rfl, fun c h => absurd h (Nat.not_lt_zero c)⟩
theorem ki_r_n {V : Nat → Prop} {n f r : Nat} (h : ki_r V n f r) (hv : ¬ V n) : ki_r V (n + 1) f r := by
  rcases h with ⟨h, h2⟩ | ⟨c, hc, vc, ec, ac⟩ | ⟨h, c, hc, vc, d, hd, vd, ne⟩
  · refine Or.inl ⟨h, fun c hc => ?_⟩
    by_cases e : c = n
    · rw [e]; exact hv
    · exact h2 c (by omega)
  · refine Or.inr (Or.inl ⟨c, by omega, vc, ec, fun d hd vd => ?_⟩)
    by_cases e : d = n
    · rw [e] at vd; exact absurd vd hv
    · exact ac d (by omega) vd
  · exact Or.inr (Or.inr ⟨h, c, by omega, vc, d, by omega, vd, ne⟩)
theorem ki_r_y {V : Nat → Prop} {n f r : Nat} (h : ki_r V n f r) (hv : V n) : ki_r V (n + 1) f (if r = 0 ∨ r = ki_c n f then ki_c n f else 1) := by
  have hcn := ki_c_r n f
  rcases h with ⟨h, h2⟩ | ⟨c, hc, vc, ec, ac⟩ | ⟨h, c, hc, vc, d, hd, vd, ne⟩
  · rw [if_pos (Or.inl h)]
    refine Or.inr (Or.inl ⟨n, by omega, hv, rfl, fun d hd vd => ?_⟩)
    by_cases e : d = n
    · rw [e]
    · exact absurd vd (h2 d (by omega))
  · have hcc := ki_c_r c f
    by_cases e : r = ki_c n f
    · rw [if_pos (Or.inr e)]
      refine Or.inr (Or.inl ⟨n, by omega, hv, rfl, fun d hd vd => ?_⟩)
      by_cases e2 : d = n
      · rw [e2]
      · rw [← e]; exact ac d (by omega) vd
    · rw [if_neg (by omega)]
      exact Or.inr (Or.inr ⟨rfl, c, by omega, vc, n, by omega, hv, by omega⟩)
  · have : (if r = 0 ∨ r = ki_c n f then ki_c n f else 1) = 1 := by
      split
      · omega
      · rfl
    rw [this]
    exact Or.inr (Or.inr ⟨rfl, c, by omega, vc, d, by omega, vd, ne⟩)
-- counting
def ct_n (p : Nat → Bool) : Nat → Nat
  | 0 => 0
  | n + 1 => ct_n p n + (if p n = true then 1 else 0)
theorem ct_le (p : Nat → Bool) (n : Nat) : ct_n p n ≤ n := by
  induction n with
  | zero => exact Nat.le_refl _
  | succ n ih => simp only [ct_n]; split <;> omega
theorem ct_mono {p q : Nat → Bool} (n : Nat) (h : ∀ i, i < n → p i = true → q i = true) : ct_n p n ≤ ct_n q n := by
  induction n with
  | zero => exact Nat.le_refl _
  | succ n ih =>
    have := ih (fun i hi => h i (by omega))
    simp only [ct_n]
    by_cases hp : p n = true
    · rw [if_pos hp, if_pos (h n (by omega) hp)]; omega
    · rw [if_neg hp]; split <;> omega
theorem ct_lt {p q : Nat → Bool} (n : Nat) (h : ∀ i, i < n → p i = true → q i = true) {j : Nat} (hj : j < n) (hp : p j = false) (hq : q j = true) : ct_n p n < ct_n q n := by
  induction n with
  | zero => omega
  | succ n ih =>
    simp only [ct_n]
    by_cases e : j = n
    · subst e
      have := ct_mono j (fun i hi => h i (by omega))
      rw [if_pos hq, if_neg (by rw [hp]; decide)]; omega
    · have := ih (fun i hi => h i (by omega)) (by omega)
      by_cases hp : p n = true
      · rw [if_pos hp, if_pos (h n (by omega) hp)]; omega
      · rw [if_neg hp]; split <;> omega
theorem ct_0 {p : Nat → Bool} {n : Nat} (h : ct_n p n = 0) : ∀ i, i < n → p i = false := by
  induction n with
  | zero => intro i hi; omega
  | succ n ih =>
    simp only [ct_n] at h
    intro i hi
    by_cases e : i = n
    · subst e
      cases hp : p i with
      | false => rfl
      | true => rw [if_pos hp] at h; omega
    · exact ih (by omega) i (by omega)
