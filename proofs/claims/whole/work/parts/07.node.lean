-- NODES of the text as ranges: Q 0 op, Q 1 number, Q 2 .. Q 4 parts, Q 7, Q 8 the range without brackets, Q 9 the token, Q 10 the first node below, Q 11 depth
def nd_W (tk : Nat → Nat) (Q : Nat → Nat → Nat) (l h u : Nat) : Prop :=
  ∃ b, Q 7 u = l + b ∧ h = Q 8 u + b ∧ ∀ i, i < b → tk (l + i) = 26 ∧ tk (h - 1 - i) = 27 ∧ rg_C tk (l + i) (h - i) (l + i) 9
def nd_k (tk : Nat → Nat) (Q : Nat → Nat → Nat) (t l h p a b c : Nat) : Prop :=
  ((t = 1 ∨ t = 2 ∨ t = 10 ∨ t = 11 ∨ t = 12) ∧ tk p = t ∧ p = l ∧ h = l + 1) ∨
  (((14 ≤ t ∧ t ≤ 22) ∨ t = 24) ∧ tk p = t ∧ l < p ∧ p < h ∧ tk l ≠ 3 ∧ tk l ≠ 6 ∧ (∃ W, rg_C tk l h p W) ∧ nd_W tk Q l p a ∧ nd_W tk Q (p + 1) h b) ∨
  (((t = 28 ∧ tk p = 15) ∨ (t = 23 ∧ tk p = 23)) ∧ p = l ∧ rg_C tk l h l 9 ∧ nd_W tk Q (l + 1) h a) ∨
  ((t = 7 ∨ t = 8 ∨ t = 9 ∨ t = 13) ∧ tk p = t ∧ p = l ∧ rg_C tk l h l 9 ∧ l + 3 < h ∧ tk (l + 1) = 26 ∧ tk (h - 1) = 27 ∧ nd_W tk Q (l + 2) (h - 1) a) ∨
  (t = 3 ∧ tk p = 3 ∧ p = l ∧ ∃ p1 p2, l < p1 ∧ p1 < p2 ∧ p2 < h ∧ tk p1 = 4 ∧ rg_N (rg_T tk) (l + 1) p1 ∧ tk p2 = 5 ∧ rg_N (rg_E tk) (p1 + 1) p2 ∧ nd_W tk Q (l + 1) p1 a ∧ nd_W tk Q (p1 + 1) p2 b ∧ nd_W tk Q (p2 + 1) h c) ∨
  (t = 6 ∧ tk p = 6 ∧ p = l ∧ ∃ p2, l < p2 ∧ p2 < h ∧ tk p2 = 5 ∧ rg_N (rg_E tk) (l + 1) p2 ∧ nd_W tk Q (l + 1) p2 a ∧ nd_W tk Q (p2 + 1) h b)
def nd_m (a b : Nat) : Nat := if a < b then b else a
def nd_t (Q : Nat → Nat → Nat) (u : Nat) : Prop :=
  (pg_n (Q 0 u) = 0 → Q 10 u = u ∧ Q 11 u = 1) ∧
  (pg_n (Q 0 u) = 1 → Q 2 u + 1 = u ∧ Q 10 u = Q 10 (Q 2 u) ∧ Q 11 u = nd_m 0 (Q 11 (Q 2 u)) + 1) ∧
  (pg_n (Q 0 u) = 2 → Q 3 u + 1 = u ∧ Q 2 u + 1 = Q 10 (Q 3 u) ∧ Q 10 u = Q 10 (Q 2 u) ∧ Q 11 u = nd_m (nd_m 0 (Q 11 (Q 2 u))) (Q 11 (Q 3 u)) + 1) ∧
  (pg_n (Q 0 u) = 3 → Q 4 u + 1 = u ∧ Q 3 u + 1 = Q 10 (Q 4 u) ∧ Q 2 u + 1 = Q 10 (Q 3 u) ∧ Q 10 u = Q 10 (Q 2 u) ∧ Q 11 u = nd_m (nd_m (nd_m 0 (Q 11 (Q 2 u))) (Q 11 (Q 3 u))) (Q 11 (Q 4 u)) + 1)
def nd_ok (tk tn : Nat → Nat) (Q : Nat → Nat → Nat) (u : Nat) : Prop :=
  nd_k tk Q (Q 0 u) (Q 7 u) (Q 8 u) (Q 9 u) (Q 2 u) (Q 3 u) (Q 4 u) ∧ nd_t Q u ∧ Q 1 u = tn (Q 9 u) ∧ Q 10 u ≤ u ∧
  (0 < pg_n (Q 0 u) → Q 2 u < u ∧ Q 10 (Q 2 u) ≤ Q 2 u) ∧ (1 < pg_n (Q 0 u) → Q 3 u < u ∧ Q 10 (Q 3 u) ≤ Q 3 u) ∧ (2 < pg_n (Q 0 u) → Q 4 u < u ∧ Q 10 (Q 4 u) ≤ Q 4 u) ∧
  (pg_n (Q 0 u) ≤ 0 → Q 2 u = u) ∧ (pg_n (Q 0 u) ≤ 1 → Q 3 u = u) ∧ (pg_n (Q 0 u) ≤ 2 → Q 4 u = u)
theorem nd_n0 {t : Nat} (h : t = 1 ∨ t = 2 ∨ t = 10 ∨ t = 11 ∨ t = 12) : pg_n t = 0 := by
  unfold pg_n; rw [if_neg (by omega), if_pos h]
theorem nd_n1 {t : Nat} (h : t = 7 ∨ t = 8 ∨ t = 9 ∨ t = 13 ∨ t = 23 ∨ t = 28) : pg_n t = 1 := by
  unfold pg_n; rw [if_neg (by omega), if_neg (by omega), if_pos h]
theorem nd_n2 {t : Nat} (h : (14 ≤ t ∧ t ≤ 22) ∨ t = 24 ∨ t = 6) : pg_n t = 2 := by
  unfold pg_n; rw [if_neg (by omega), if_neg (by omega), if_neg (by omega)]
theorem nd_Wc {tk : Nat → Nat} {Q R : Nat → Nat → Nat} {l h v : Nat} (e : ∀ k, R k v = Q k v) (g : nd_W tk Q l h v) : nd_W tk R l h v := by
  unfold nd_W at *; rw [e, e]; exact g
theorem nd_kc {tk : Nat → Nat} {Q R : Nat → Nat → Nat} {t l h p a b c : Nat} (ea : 0 < pg_n t → ∀ k, R k a = Q k a) (eb : 1 < pg_n t → ∀ k, R k b = Q k b) (ec : 2 < pg_n t → ∀ k, R k c = Q k c)
    (g : nd_k tk Q t l h p a b c) : nd_k tk R t l h p a b c := by
  rcases g with g | ⟨g1, g2, g3, g4, g5, g6, g7, g8, g9⟩ | ⟨g1, g2, g3, g4⟩ | ⟨g1, g2, g3, g4, g5, g5a, g5b, g6⟩ | ⟨g1, g2, g3, p1, p2, g4, g5, g6, g7, g8, g9, g10, g11, g12, g13⟩ | ⟨g1, g2, g3, p2, g4, g5, g6, g7, g8, g9⟩
  · exact Or.inl g
  · have n := nd_n2 (t := t) (by omega)
    exact Or.inr (Or.inl ⟨g1, g2, g3, g4, g5, g6, g7, nd_Wc (ea (by omega)) g8, nd_Wc (eb (by omega)) g9⟩)
  · have n := nd_n1 (t := t) (by omega)
    exact Or.inr (Or.inr (Or.inl ⟨g1, g2, g3, nd_Wc (ea (by omega)) g4⟩))
  · have n := nd_n1 (t := t) (by omega)
    exact Or.inr (Or.inr (Or.inr (Or.inl ⟨g1, g2, g3, g4, g5, g5a, g5b, nd_Wc (ea (by omega)) g6⟩)))
  · have n : pg_n t = 3 := by rw [g1]; rfl
    exact Or.inr (Or.inr (Or.inr (Or.inr (Or.inl ⟨g1, g2, g3, p1, p2, g4, g5, g6, g7, g8, g9, g10, nd_Wc (ea (by omega)) g11, nd_Wc (eb (by omega)) g12, nd_Wc (ec (by omega)) g13⟩))))
  · have n := nd_n2 (t := t) (by omega)
    exact Or.inr (Or.inr (Or.inr (Or.inr (Or.inr ⟨g1, g2, g3, p2, g4, g5, g6, g7, nd_Wc (ea (by omega)) g8, nd_Wc (eb (by omega)) g9⟩))))
theorem nd_okc {tk tn : Nat → Nat} {Q R : Nat → Nat → Nat} {u v : Nat} (e : ∀ k w, w < u → R k w = Q k w) (hv : v < u) (g : nd_ok tk tn Q v) : nd_ok tk tn R v := by
  obtain ⟨g1, g2, g3, g4, g5, g6, g7, g8, g9, g10⟩ := g
  have e0 : ∀ k, R k v = Q k v := fun k => e k v hv
  have ea : 0 < pg_n (Q 0 v) → ∀ k, R k (Q 2 v) = Q k (Q 2 v) := fun n k => e k _ (by have := g5 n; omega)
  have eb : 1 < pg_n (Q 0 v) → ∀ k, R k (Q 3 v) = Q k (Q 3 v) := fun n k => e k _ (by have := g6 n; omega)
  have ec : 2 < pg_n (Q 0 v) → ∀ k, R k (Q 4 v) = Q k (Q 4 v) := fun n k => e k _ (by have := g7 n; omega)
  unfold nd_ok
  simp only [e0]
  refine ⟨nd_kc ea eb ec g1, ?_, g3, g4, fun n => by rw [ea n]; exact g5 n, fun n => by rw [eb n]; exact g6 n, fun n => by rw [ec n]; exact g7 n, g8, g9, g10⟩
  obtain ⟨t0, t1, t2, t3⟩ := g2
  unfold nd_t
  simp only [e0]
  refine ⟨t0, fun n => ?_, fun n => ?_, fun n => ?_⟩
  · rw [ea (by omega), ea (by omega)]; exact t1 n
  · rw [ea (by omega), ea (by omega), eb (by omega), eb (by omega)]; exact t2 n
  · rw [ea (by omega), ea (by omega), eb (by omega), eb (by omega), ec (by omega), ec (by omega)]; exact t3 n
def nd_U (Q : Nat → Nat → Nat) (u : Nat) (w : Nat → Nat) : Nat → Nat → Nat := fun k v => if v = u then w k else Q k v
theorem nd_Us {Q : Nat → Nat → Nat} {u k : Nat} {w : Nat → Nat} : nd_U Q u w k u = w k := if_pos rfl
theorem nd_Un {Q : Nat → Nat → Nat} {u k v : Nat} {w : Nat → Nat} (h : v ≠ u) : nd_U Q u w k v = Q k v := if_neg h
def nd_w (t n a b c l h p s d : Nat) : Nat → Nat := fun k =>
  if k = 0 then t else if k = 1 then n else if k = 2 then a else if k = 3 then b else if k = 4 then c else
  if k = 7 then l else if k = 8 then h else if k = 9 then p else if k = 10 then s else d
theorem nd_add {tk tn : Nat → Nat} {Q : Nat → Nat → Nat} {u t a b c l h p s d : Nat} (hk : nd_k tk Q t l h p a b c) (hs : s ≤ u)
    (h0 : pg_n t = 0 → a = u ∧ b = u ∧ c = u ∧ s = u ∧ d = 1)
    (h1 : pg_n t = 1 → a + 1 = u ∧ Q 10 a ≤ a ∧ b = u ∧ c = u ∧ s = Q 10 a ∧ d = nd_m 0 (Q 11 a) + 1)
    (h2 : pg_n t = 2 → b + 1 = u ∧ a + 1 = Q 10 b ∧ Q 10 b ≤ b ∧ Q 10 a ≤ a ∧ c = u ∧ s = Q 10 a ∧ d = nd_m (nd_m 0 (Q 11 a)) (Q 11 b) + 1)
    (h3 : pg_n t = 3 → c + 1 = u ∧ b + 1 = Q 10 c ∧ Q 10 c ≤ c ∧ a + 1 = Q 10 b ∧ Q 10 b ≤ b ∧ Q 10 a ≤ a ∧ s = Q 10 a ∧ d = nd_m (nd_m (nd_m 0 (Q 11 a)) (Q 11 b)) (Q 11 c) + 1) :
    nd_ok tk tn (nd_U Q u (nd_w t (tn p) a b c l h p s d)) u := by
  have n3 : pg_n t ≤ 3 := by unfold pg_n; repeat' split
                             all_goals omega
  have la : 0 < pg_n t → a < u ∧ Q 10 a ≤ a := by
    intro n
    have : pg_n t = 1 ∨ pg_n t = 2 ∨ pg_n t = 3 := by omega
    rcases this with q | q | q
    · have := h1 q; omega
    · have := h2 q; omega
    · have := h3 q; omega
  have lb : 1 < pg_n t → b < u ∧ Q 10 b ≤ b := by
    intro n
    have : pg_n t = 2 ∨ pg_n t = 3 := by omega
    rcases this with q | q
    · have := h2 q; omega
    · have := h3 q; omega
  have lc : 2 < pg_n t → c < u ∧ Q 10 c ≤ c := by
    intro n
    have := h3 (by omega); omega
  have ea : 0 < pg_n t → ∀ k, nd_U Q u (nd_w t (tn p) a b c l h p s d) k a = Q k a := fun n k => nd_Un (by have := la n; omega)
  have eb : 1 < pg_n t → ∀ k, nd_U Q u (nd_w t (tn p) a b c l h p s d) k b = Q k b := fun n k => nd_Un (by have := lb n; omega)
  have ec : 2 < pg_n t → ∀ k, nd_U Q u (nd_w t (tn p) a b c l h p s d) k c = Q k c := fun n k => nd_Un (by have := lc n; omega)
  unfold nd_ok nd_t
  simp only [nd_Us]
  refine ⟨nd_kc ea eb ec hk, ⟨?_, ?_, ?_, ?_⟩, rfl, hs, fun n => ⟨(la n).1, by show nd_U Q u (nd_w t (tn p) a b c l h p s d) 10 a ≤ a; rw [ea n]; exact (la n).2⟩, fun n => ⟨(lb n).1, by show nd_U Q u (nd_w t (tn p) a b c l h p s d) 10 b ≤ b; rw [eb n]; exact (lb n).2⟩, fun n => ⟨(lc n).1, by show nd_U Q u (nd_w t (tn p) a b c l h p s d) 10 c ≤ c; rw [ec n]; exact (lc n).2⟩, ?_, ?_, ?_⟩
  · intro n; have := h0 n; exact ⟨this.2.2.2.1, this.2.2.2.2⟩
  · intro n
    have n' : pg_n t = 1 := n
    have := h1 n'
    refine ⟨this.1, ?_, ?_⟩
    · show s = nd_U Q u (nd_w t (tn p) a b c l h p s d) 10 a
      rw [ea (by omega)]; exact this.2.2.2.2.1
    · show d = nd_m 0 (nd_U Q u (nd_w t (tn p) a b c l h p s d) 11 a) + 1
      rw [ea (by omega)]; exact this.2.2.2.2.2
  · intro n
    have n' : pg_n t = 2 := n
    have := h2 n'
    refine ⟨this.1, ?_, ?_, ?_⟩
    · show a + 1 = nd_U Q u (nd_w t (tn p) a b c l h p s d) 10 b
      rw [eb (by omega)]; exact this.2.1
    · show s = nd_U Q u (nd_w t (tn p) a b c l h p s d) 10 a
      rw [ea (by omega)]; exact this.2.2.2.2.2.1
    · show d = nd_m (nd_m 0 (nd_U Q u (nd_w t (tn p) a b c l h p s d) 11 a)) (nd_U Q u (nd_w t (tn p) a b c l h p s d) 11 b) + 1
      rw [ea (by omega), eb (by omega)]; exact this.2.2.2.2.2.2
  · intro n
    have n' : pg_n t = 3 := n
    have := h3 n'
    refine ⟨this.1, ?_, ?_, ?_, ?_⟩
    · show b + 1 = nd_U Q u (nd_w t (tn p) a b c l h p s d) 10 c
      rw [ec (by omega)]; exact this.2.1
    · show a + 1 = nd_U Q u (nd_w t (tn p) a b c l h p s d) 10 b
      rw [eb (by omega)]; exact this.2.2.2.1
    · show s = nd_U Q u (nd_w t (tn p) a b c l h p s d) 10 a
      rw [ea (by omega)]; exact this.2.2.2.2.2.2.1
    · show d = nd_m (nd_m (nd_m 0 (nd_U Q u (nd_w t (tn p) a b c l h p s d) 11 a)) (nd_U Q u (nd_w t (tn p) a b c l h p s d) 11 b)) (nd_U Q u (nd_w t (tn p) a b c l h p s d) 11 c) + 1
      rw [ea (by omega), eb (by omega), ec (by omega)]; exact this.2.2.2.2.2.2.2
  · intro n
    have n' : pg_n t = 0 := by have : pg_n t ≤ 0 := n; omega
    exact (h0 n').1
  · intro n
    have n0 : pg_n t ≤ 1 := n
    have n' : pg_n t = 0 ∨ pg_n t = 1 := by omega
    rcases n' with q | q
    · exact (h0 q).2.1
    · exact (h1 q).2.2.1
  · intro n
    have n0 : pg_n t ≤ 2 := n
    have n' : pg_n t = 0 ∨ pg_n t = 1 ∨ pg_n t = 2 := by omega
    rcases n' with q | q | q
    · exact (h0 q).2.2.1
    · exact (h1 q).2.2.2.1
    · exact (h2 q).2.2.2.2.1
theorem nd_W0 {tk : Nat → Nat} {Q : Nat → Nat → Nat} {u t n a b c l h p s d : Nat} : nd_W tk (nd_U Q u (nd_w t n a b c l h p s d)) l h u := by
  refine ⟨0, ?_, ?_, fun i hi => absurd hi (Nat.not_lt_zero i)⟩
  · rw [nd_Us]; rfl
  · rw [nd_Us]; rfl
theorem nd_Ww {tk : Nat → Nat} {Q : Nat → Nat → Nat} {u l h : Nat} (g : nd_W tk Q (l + 1) h u) (ho : tk l = 26) (h27 : tk h = 27) (hc : rg_C tk l (h + 1) l 9) : nd_W tk Q l (h + 1) u := by
  obtain ⟨b, g1, g2, g3⟩ := g
  refine ⟨b + 1, by omega, by omega, fun i hi => ?_⟩
  by_cases e : i = 0
  · subst e
    refine ⟨ho, ?_, hc⟩
    rw [Nat.add_sub_cancel]; exact h27
  · have := g3 (i - 1) (by omega)
    have e1 : l + 1 + (i - 1) = l + i := by omega
    have e2 : h - (i - 1) = h + 1 - i := by omega
    have e3 : h - 1 - (i - 1) = h + 1 - 1 - i := by omega
    rw [e1, e2, e3] at this
    exact this
