-- FRAMES: (code, start, token, next); codes as tokens', and 30 body, 31 then-part, 32 else-part, 33 rescue-part, 28 negate
abbrev fr_F : Type := Nat × Nat × Nat × Nat
def fr_l (c : Nat) : Nat :=
  if c = 28 ∨ c = 23 then 7 else if 16 ≤ c ∧ c ≤ 18 then 6 else if c = 14 ∨ c = 15 then 5 else if c = 19 ∨ c = 20 then 4 else
  if c = 21 then 3 else if c = 22 then 2 else if c = 24 ∨ c = 32 ∨ c = 33 then 1 else 0
def fr_n (c : Nat) : Nat := if fr_l c = 7 then 7 else if 2 ≤ fr_l c then fr_l c + 1 else 1
def fr_g (c : Nat) : Nat := if c = 26 ∨ c = 7 ∨ c = 8 ∨ c = 9 ∨ c = 13 then 7 else if 2 ≤ fr_l c then fr_l c else 1
def fr_p (c : Nat) : Nat := if c = 32 then 3 else if c = 33 then 6 else c
def fr_o (tk : Nat → Nat) (Q : Nat → Nat → Nat) (l h u : Nat) : Prop := nd_W tk Q l h u ∧ rg_o tk l h
def fr_h (tk : Nat → Nat) (Q : Nat → Nat → Nat) (c st p nx : Nat) (held : List Nat) : Prop :=
  (c = 30 ∧ held = [] ∧ nx = p + 1) ∨
  ((c = 26 ∨ c = 3 ∨ c = 6) ∧ tk p = c ∧ held = [] ∧ st = p ∧ nx = p + 1) ∨
  (((c = 28 ∧ tk p = 15) ∨ (c = 23 ∧ tk p = 23)) ∧ held = [] ∧ st = p ∧ nx = p + 1) ∨
  ((c = 7 ∨ c = 8 ∨ c = 9 ∨ c = 13) ∧ tk p = c ∧ tk (p + 1) = 26 ∧ held = [] ∧ st = p ∧ nx = p + 2) ∨
  (c = 31 ∧ tk p = 3 ∧ st = p ∧ ∃ a p1, held = [a] ∧ fr_o tk Q (p + 1) p1 a ∧ tk p1 = 4 ∧ nx = p1 + 1) ∨
  (c = 32 ∧ tk p = 3 ∧ st = p ∧ ∃ a b p1 p2, held = [b, a] ∧ fr_o tk Q (p + 1) p1 a ∧ tk p1 = 4 ∧ fr_o tk Q (p1 + 1) p2 b ∧ tk p2 = 5 ∧ nx = p2 + 1) ∨
  (c = 33 ∧ tk p = 6 ∧ st = p ∧ ∃ a p2, held = [a] ∧ fr_o tk Q (p + 1) p2 a ∧ tk p2 = 5 ∧ nx = p2 + 1) ∨
  (c = 24 ∧ tk p = 24 ∧ ∃ a, held = [a] ∧ fr_o tk Q st p a ∧ rg_L tk 2 st p ∧ nx = p + 1) ∨
  ((14 ≤ c ∧ c ≤ 22) ∧ tk p = c ∧ rg_w (tk p) (tk (p - 1)) = fr_l c ∧ ∃ a, held = [a] ∧ fr_o tk Q st p a ∧ rg_L tk (fr_l c) st p ∧ nx = p + 1)
def fr_b (c : Nat) : List fr_F → Prop
  | [] => c = 30
  | g :: _ => fr_n g.1 ≤ fr_g c ∧ c ≠ 30
def fr_S (tk : Nat → Nat) (Q : Nat → Nat → Nat) : List fr_F → List Nat → Nat → Prop
  | [], ops, _ => ops = []
  | f :: fs, ops, at0 => at0 = f.2.2.2 ∧ fr_b f.1 fs ∧ ∃ held rest, ops = held ++ rest ∧ fr_h tk Q f.1 f.2.1 f.2.2.1 f.2.2.2 held ∧ fr_S tk Q fs rest f.2.1
def fr_t (Q : Nat → Nat → Nat) (F : Nat) : List Nat → Nat → Prop
  | [], e => e = F
  | u :: r, e => u + 1 = e ∧ Q 10 u ≤ u ∧ fr_t Q F r (Q 10 u)
theorem fr_t_lt {Q : Nat → Nat → Nat} {F : Nat} : ∀ (l : List Nat) (e : Nat), fr_t Q F l e → F ≤ e ∧ ∀ o, o ∈ l → o < e ∧ F ≤ o := by
  intro l
  induction l with
  | nil => intro e h; exact ⟨by have : e = F := h; omega, fun o ho => by simp at ho⟩
  | cons u r ih =>
    intro e h
    obtain ⟨h1, h2, h3⟩ := h
    obtain ⟨i1, i2⟩ := ih _ h3
    refine ⟨by omega, fun o ho => ?_⟩
    rcases List.mem_cons.mp ho with q | q
    · rw [q]; omega
    · have := i2 o q; omega
theorem fr_t_c {Q R : Nat → Nat → Nat} {F u : Nat} (e : ∀ k w, w < u → R k w = Q k w) : ∀ (l : List Nat) (n : Nat), n ≤ u → fr_t Q F l n → fr_t R F l n := by
  intro l
  induction l with
  | nil => intro n _ h; exact h
  | cons v r ih =>
    intro n hn h
    obtain ⟨h1, h2, h3⟩ := h
    unfold fr_t
    rw [e 10 v (by omega)]
    exact ⟨h1, h2, ih _ (by omega) h3⟩
theorem fr_oc {tk : Nat → Nat} {Q R : Nat → Nat → Nat} {l h v : Nat} (e : ∀ k, R k v = Q k v) (g : fr_o tk Q l h v) : fr_o tk R l h v := ⟨nd_Wc e g.1, g.2⟩
theorem fr_hc {tk : Nat → Nat} {Q R : Nat → Nat → Nat} {c st p nx : Nat} {held : List Nat} (e : ∀ o, o ∈ held → ∀ k, R k o = Q k o) (g : fr_h tk Q c st p nx held) : fr_h tk R c st p nx held := by
  rcases g with g | g | g | g | ⟨g1, g2, g3, a, p1, g4, g5, g6, g7⟩ | ⟨g1, g2, g3, a, b, p1, p2, g4, g5, g6, g7, g8, g9⟩ | ⟨g1, g2, g3, a, p2, g4, g5, g6, g7⟩ | ⟨g1, g2, a, g3, g4, g5, g6⟩ | ⟨g1, g2, g3, a, g4, g5, g6, g7⟩
  · exact Or.inl g
  · exact Or.inr (Or.inl g)
  · exact Or.inr (Or.inr (Or.inl g))
  · exact Or.inr (Or.inr (Or.inr (Or.inl g)))
  · exact Or.inr (Or.inr (Or.inr (Or.inr (Or.inl ⟨g1, g2, g3, a, p1, g4, fr_oc (e a (by rw [g4]; simp)) g5, g6, g7⟩))))
  · exact Or.inr (Or.inr (Or.inr (Or.inr (Or.inr (Or.inl ⟨g1, g2, g3, a, b, p1, p2, g4, fr_oc (e a (by rw [g4]; simp)) g5, g6, fr_oc (e b (by rw [g4]; simp)) g7, g8, g9⟩)))))
  · exact Or.inr (Or.inr (Or.inr (Or.inr (Or.inr (Or.inr (Or.inl ⟨g1, g2, g3, a, p2, g4, fr_oc (e a (by rw [g4]; simp)) g5, g6, g7⟩))))))
  · exact Or.inr (Or.inr (Or.inr (Or.inr (Or.inr (Or.inr (Or.inr (Or.inl ⟨g1, g2, a, g3, fr_oc (e a (by rw [g3]; simp)) g4, g5, g6⟩)))))))
  · exact Or.inr (Or.inr (Or.inr (Or.inr (Or.inr (Or.inr (Or.inr (Or.inr ⟨g1, g2, g3, a, g4, fr_oc (e a (by rw [g4]; simp)) g5, g6, g7⟩)))))))
theorem fr_Sc {tk : Nat → Nat} {Q R : Nat → Nat → Nat} : ∀ (fs : List fr_F) (ops : List Nat) (n : Nat), (∀ o, o ∈ ops → ∀ k, R k o = Q k o) → fr_S tk Q fs ops n → fr_S tk R fs ops n := by
  intro fs
  induction fs with
  | nil => intro ops n _ h; exact h
  | cons f fs ih =>
    intro ops n e h
    obtain ⟨h1, h2, held, rest, h3, h4, h5⟩ := h
    refine ⟨h1, h2, held, rest, h3, fr_hc (fun o ho => e o (by rw [h3]; exact List.mem_append.mpr (Or.inl ho))) h4, ih _ _ (fun o ho => e o (by rw [h3]; exact List.mem_append.mpr (Or.inr ho))) h5⟩
theorem fr_lb {c : Nat} (h : 14 ≤ c ∧ c ≤ 22) : 2 ≤ fr_l c ∧ fr_l c ≤ 6 := by
  unfold fr_l
  rw [if_neg (by omega)]
  repeat' split
  all_goals omega
-- what a reduced frame gives
def fr_G (tk tn : Nat → Nat) (R : Nat → Nat → Nat) (F c st t u : Nat) (fs : List fr_F) (rest : List Nat) : Prop :=
  nd_ok tk tn R u ∧ fr_o tk R st t u ∧ rg_L tk (fr_g c) st t ∧ fr_S tk R fs rest st ∧ fr_t R F (u :: rest) (u + 1) ∧ fr_b c fs
theorem fr_Gi {tk tn : Nat → Nat} {Q : Nat → Nat → Nat} {F c st t u op a b d p s dp : Nat} {fs : List fr_F} {rest : List Nat}
    (hn : nd_ok tk tn (nd_U Q u (nd_w op (tn p) a b d st t p s dp)) u) (ho : rg_o tk st t) (hL : rg_L tk (fr_g c) st t) (hS : fr_S tk Q fs rest st)
    (hs : s ≤ u) (hr : fr_t Q F rest s) (hb : fr_b c fs) : fr_G tk tn (nd_U Q u (nd_w op (tn p) a b d st t p s dp)) F c st t u fs rest := by
  have e : ∀ k w, w < u → nd_U Q u (nd_w op (tn p) a b d st t p s dp) k w = Q k w := fun k w hw => nd_Un (by omega)
  refine ⟨hn, ⟨nd_W0, ho⟩, hL, fr_Sc _ _ _ (fun o h k => e k o (by have := (fr_t_lt _ _ hr).2 o h; omega)) hS, ⟨rfl, ?_, ?_⟩, hb⟩
  · rw [nd_Us]; exact hs
  · rw [nd_Us]; exact fr_t_c e _ _ hs hr
theorem fr_red {tk tn : Nat → Nat} {Q : Nat → Nat → Nat} {F c st p nx u v t at0 : Nat} {fs : List fr_F} {ops : List Nat}
    (hS : fr_S tk Q ((c, st, p, nx) :: fs) ops at0) (hv : fr_o tk Q at0 t v) (hL : rg_L tk (fr_n c) at0 t) (hl : 1 ≤ fr_l c) (ht : fr_t Q F (v :: ops) u) :
    (fr_l c = 7 ∧ fr_G tk tn (nd_U Q u (nd_w c (tn p) v u u st t p (Q 10 v) (nd_m 0 (Q 11 v) + 1))) F c st t u fs ops) ∨
    (fr_l c ≠ 7 ∧ c ≠ 32 ∧ ∃ a rest, ops = a :: rest ∧ fr_G tk tn (nd_U Q u (nd_w (fr_p c) (tn p) a v u st t p (Q 10 a) (nd_m (nd_m 0 (Q 11 a)) (Q 11 v) + 1))) F c st t u fs rest) ∨
    (c = 32 ∧ ∃ a b rest, ops = b :: a :: rest ∧ fr_G tk tn (nd_U Q u (nd_w 3 (tn p) a b v st t p (Q 10 a) (nd_m (nd_m (nd_m 0 (Q 11 a)) (Q 11 b)) (Q 11 v) + 1))) F c st t u fs rest) := by
  obtain ⟨h1, h2, held, rest, h3, h4, h5⟩ := hS
  dsimp only at h1 h2 h4 h5
  obtain ⟨hvW, hvo⟩ := hv
  obtain ⟨t1, t2, t3⟩ := ht
  have z : ∀ x, c = x → fr_l x = 0 → False := by
    intro x e q; rw [e, q] at hl; omega
  rcases h4 with g | g | g | g | ⟨g1, g2, g3, a, p1, g4, g5, g6, g7⟩ | ⟨g1, g2, g3, a, b, p1, p2, g4, g5, g6, g7, g8, g9⟩ | ⟨g1, g2, g3, a, p2, g4, g5, g6, g7⟩ | ⟨g1, g2, a, g3, g4, g5, g6⟩ | ⟨g1, g2, g3, a, g4, g5, g6, g7⟩
  · exact (z 30 g.1 rfl).elim
  · rcases g.1 with q | q | q
    · exact (z _ q rfl).elim
    · exact (z _ q rfl).elim
    · exact (z _ q rfl).elim
  · -- unary
    obtain ⟨g1, g2, g3, g4⟩ := g
    have l7 : fr_l c = 7 := by unfold fr_l; rw [if_pos (by omega)]
    have n7 : fr_n c = 7 := by unfold fr_n; rw [if_pos l7]
    have k7 : fr_g c = 7 := by unfold fr_g; rw [if_neg (by omega), l7, if_pos (by omega)]
    subst h1
    rw [g4] at hvW hvo hL
    rw [n7] at hL
    obtain ⟨r1, r2, r3⟩ := rg_unary (by omega) hvo hL
    rw [g2] at h3
    rw [List.nil_append] at h3
    subst h3
    subst g3
    refine Or.inl ⟨l7, fr_Gi (nd_add (Or.inr (Or.inr (Or.inl ⟨g1, rfl, r1, hvW⟩))) (by omega) ?_ ?_ ?_ ?_) r2 (by rw [k7]; exact r3) h5 (by omega) t3 h2⟩
    · intro q; rw [nd_n1 (by omega)] at q; omega
    · intro _; exact ⟨t1, t2, rfl, rfl, rfl, rfl⟩
    · intro q; rw [nd_n1 (by omega)] at q; omega
    · intro q; rw [nd_n1 (by omega)] at q; omega
  · rcases g.1 with q | q | q | q
    · exact (z _ q rfl).elim
    · exact (z _ q rfl).elim
    · exact (z _ q rfl).elim
    · exact (z _ q rfl).elim
  · exact (z _ g1 rfl).elim
  · -- else-part
    subst h1
    rw [g9] at hvW hvo
    rw [g4] at h3
    subst g1
    subst g3
    have r := rg_if g2 g5.2 g6 g7.2 g8 hvo
    have e5 := g5.2.1
    have e7 := g7.2.1
    have ev := hvo.1
    rw [h3] at t3
    obtain ⟨b1, b2, a1, a2, a3⟩ := t3
    refine Or.inr (Or.inr ⟨rfl, a, b, rest, h3, fr_Gi (nd_add (Or.inr (Or.inr (Or.inr (Or.inr (Or.inl ⟨rfl, g2, rfl, p1, p2, by omega, by omega, by omega, g6, g5.2.2.2.1, g8, g7.2.2.2.2.1, g5.1, g7.1, hvW⟩))))) (by omega) ?_ ?_ ?_ ?_) r (fun q => absurd q (by decide)) h5 (by omega) a3 h2⟩)
    · intro q; exact absurd q (by decide)
    · intro q; exact absurd q (by decide)
    · intro q; exact absurd q (by decide)
    · intro _; exact ⟨t1, b1, t2, a1, b2, a2, rfl, rfl⟩
  · -- rescue-part
    subst h1
    rw [g7] at hvW hvo
    rw [g4] at h3
    subst g1
    subst g3
    have r := rg_try g2 g5.2 g6 hvo
    have e5 := g5.2.1
    have ev := hvo.1
    rw [h3] at t3
    obtain ⟨a1, a2, a3⟩ := t3
    refine Or.inr (Or.inl ⟨by decide, by decide, a, rest, h3, fr_Gi (nd_add (Or.inr (Or.inr (Or.inr (Or.inr (Or.inr ⟨rfl, g2, rfl, p2, by omega, by omega, g6, g5.2.2.2.2.1, g5.1, hvW⟩))))) (by omega) ?_ ?_ ?_ ?_) r (fun q => absurd q (by decide)) h5 (by omega) a3 h2⟩)
    · intro q; exact absurd q (by decide)
    · intro q; exact absurd q (by decide)
    · intro _; exact ⟨t1, a1, t2, a2, rfl, rfl, rfl⟩
    · intro q; exact absurd q (by decide)
  · -- a ':'
    subst h1
    rw [g6] at hvW hvo
    rw [g3] at h3
    subst g1
    obtain ⟨r1, r2⟩ := rg_cons g2 g4.2 g5 hvo
    have e5 := g4.2.1
    have ev := hvo.1
    obtain ⟨q1, q2, _⟩ := g5 (by omega)
    rw [h3] at t3
    obtain ⟨a1, a2, a3⟩ := t3
    refine Or.inr (Or.inl ⟨by decide, by decide, a, rest, h3, fr_Gi (nd_add (Or.inr (Or.inl ⟨Or.inr rfl, g2, by omega, by omega, q1, q2, ⟨1, r1⟩, g4.1, hvW⟩)) (by omega) ?_ ?_ ?_ ?_) r2 (fun q => absurd q (by decide)) h5 (by omega) a3 h2⟩)
    · intro q; exact absurd q (by decide)
    · intro q; exact absurd q (by decide)
    · intro _; exact ⟨t1, a1, t2, a2, rfl, rfl, rfl⟩
    · intro q; exact absurd q (by decide)
  · -- two sides
    subst h1
    rw [g7] at hvW hvo hL
    rw [g4] at h3
    have lb := fr_lb g1
    have fn : fr_n c = fr_l c + 1 := by unfold fr_n; rw [if_neg (by omega), if_pos (by omega)]
    have fg : fr_g c = fr_l c := by unfold fr_g; rw [if_neg (by omega), if_pos (by omega)]
    have fp : fr_p c = c := by unfold fr_p; rw [if_neg (by omega), if_neg (by omega)]
    rw [fn] at hL
    obtain ⟨r1, r2, r3⟩ := rg_bin (by omega) g3 lb.1 lb.2 g5.2 g6 hvo hL
    have e5 := g5.2.1
    have ev := hvo.1
    obtain ⟨q1, q2, _⟩ := g6 (by omega)
    rw [h3] at t3
    obtain ⟨a1, a2, a3⟩ := t3
    have n2 : pg_n c = 2 := nd_n2 (by omega)
    refine Or.inr (Or.inl ⟨by omega, by omega, a, rest, h3, ?_⟩)
    rw [fp]
    refine fr_Gi (nd_add (Or.inr (Or.inl ⟨Or.inl g1, g2, by omega, by omega, q1, q2, ⟨_, r1⟩, g5.1, hvW⟩)) (by omega) ?_ ?_ ?_ ?_) r2 (by rw [fg]; exact r3) h5 (by omega) a3 h2
    · intro q; omega
    · intro q; omega
    · intro _; exact ⟨t1, a1, t2, a2, rfl, rfl, rfl⟩
    · intro q; omega
