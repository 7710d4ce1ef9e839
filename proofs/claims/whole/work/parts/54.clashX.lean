-- where the nodes of a def stand
theorem bl_in {tk tn : Nat → Nat} {Q : Nat → Nat → Nat} : ∀ r l h, nd_W tk Q l h r → (∀ v, Q 10 r ≤ v → v ≤ r → nd_ok tk tn Q v) → ∀ u, Q 10 r ≤ u → u ≤ r → Q 10 r ≤ Q 10 u ∧ l ≤ Q 9 u ∧ Q 9 u < h := by
  intro r
  induction r using Nat.strongRecOn with
  | ind r ih =>
    intro l h hW hok u hu1 hu2
    obtain ⟨b, w1, w2, w3⟩ := hW
    have r0 : Q 10 r ≤ r := by omega
    obtain ⟨g1, ⟨t0, t1, t2, t3⟩, g3, g4, g5, g6, g7, g8, g9, g10⟩ := hok r r0 (Nat.le_refl _)
    have kid : ∀ v l2 h2, v < r → Q 10 v ≤ v → Q 10 r ≤ Q 10 v → nd_W tk Q l2 h2 v → Q 7 r ≤ l2 → h2 ≤ Q 8 r → Q 10 v ≤ u → u ≤ v → Q 10 r ≤ Q 10 u ∧ l ≤ Q 9 u ∧ Q 9 u < h := by
      intro v l2 h2 a1 a2 a3 a4 a5 a6 a7 a8
      obtain ⟨x1, x2, x3⟩ := ih v a1 l2 h2 a4 (fun y y1 y2 => hok y (by omega) (by omega)) u a7 a8
      exact ⟨by omega, by omega, by omega⟩
    by_cases e : u = r
    · subst e
      refine ⟨Nat.le_refl _, ?_⟩
      rcases g1 with g | ⟨q1, q2, q3, q4, _⟩ | ⟨q1, q2, q3, _⟩ | ⟨q1, q2, q3, q4, q5, _⟩ | ⟨q1, q2, q3, p1, p2, q4, q5, q6, _⟩ | ⟨q1, q2, q3, p2, q4, q5, _⟩
      · omega
      · omega
      · have := q3.2.1; omega
      · omega
      · omega
      · omega
    · rcases g1 with g | ⟨q1, q2, q3, q4, q5, q6, q7, q8, q9⟩ | ⟨q1, q2, q3, q4⟩ | ⟨q1, q2, q3, q4, q5, q5a, q5b, q6⟩ | ⟨q1, q2, q3, p1, p2, q4, q5, q6, q7, q8, q9, q10, q11, q12, q13⟩ | ⟨q1, q2, q3, p2, q4, q5, q6, q7, q8, q9⟩
      · have := t0 (nd_n0 g.1); omega
      · have n := nd_n2 (t := Q 0 r) (by omega)
        have x := t2 n
        have xa := g5 (by omega)
        have xb := g6 (by omega)
        by_cases c : u ≤ Q 2 r
        · exact kid _ _ _ xa.1 xa.2 (by omega) q8 (Nat.le_refl _) (by omega) (by omega) c
        · exact kid _ _ _ xb.1 xb.2 (by omega) q9 (by omega) (Nat.le_refl _) (by omega) (by omega)
      · have n := nd_n1 (t := Q 0 r) (by omega)
        have x := t1 n
        have xa := g5 (by omega)
        exact kid _ _ _ xa.1 xa.2 (by omega) q4 (by omega) (Nat.le_refl _) (by omega) (by omega)
      · have n := nd_n1 (t := Q 0 r) (by omega)
        have x := t1 n
        have xa := g5 (by omega)
        exact kid _ _ _ xa.1 xa.2 (by omega) q6 (by omega) (by omega) (by omega) (by omega)
      · have n : pg_n (Q 0 r) = 3 := by rw [q1]; rfl
        have x := t3 n
        have xa := g5 (by omega)
        have xb := g6 (by omega)
        have xc := g7 (by omega)
        by_cases c : u ≤ Q 2 r
        · exact kid _ _ _ xa.1 xa.2 (by omega) q11 (by omega) (by omega) (by omega) c
        · by_cases c2 : u ≤ Q 3 r
          · exact kid _ _ _ xb.1 xb.2 (by omega) q12 (by omega) (by omega) (by omega) c2
          · exact kid _ _ _ xc.1 xc.2 (by omega) q13 (by omega) (Nat.le_refl _) (by omega) (by omega)
      · have n := nd_n2 (t := Q 0 r) (by omega)
        have x := t2 n
        have xa := g5 (by omega)
        have xb := g6 (by omega)
        by_cases c : u ≤ Q 2 r
        · exact kid _ _ _ xa.1 xa.2 (by omega) q8 (by omega) (by omega) (by omega) c
        · exact kid _ _ _ xb.1 xb.2 (by omega) q9 (by omega) (Nat.le_refl _) (by omega) (by omega)
-- demands that are not met
def lc_m (R : Nat → Nat → Nat) (kc : Nat → Nat) (u : Nat) : Prop := ki_m (R 0 u) (ki_k R kc (R 2 u)) (ki_k R kc (R 3 u)) (ki_k R kc (R 4 u))
def lc_R (R : Nat → Nat → Nat) (kc pl : Nat → Nat) (a b m : Nat) : Prop :=
  m ≤ 201 ∧ (∀ u, a ≤ u → u < b → ¬ lc_m R kc u → m ≤ pl u) ∧ (m = 201 ∨ ∃ u, a ≤ u ∧ u < b ∧ ¬ lc_m R kc u ∧ pl u = m)
-- an interval of nodes that X shows
def lc_S (R : Nat → Nat → Nat) (pl : Nat → Nat) (a b : Nat) (no nn np pt : Nat → Int32) : Prop :=
  a < b ∧ b ≤ 320 ∧ ∀ u, a ≤ u → u < b → kx_n R no nn pt u ∧ kx_w R u ∧ np u = nI (pl u) ∧ pl u ≤ 200 ∧ a ≤ R 2 u ∧ a ≤ R 3 u ∧ a ≤ R 4 u ∧
    (∀ j, j < pg_n (R 0 u) → R (2 + j) u < u)
theorem lc_cl {R : Nat → Nat → Nat} {pl : Nat → Nat} {a b : Nat} {no nn np pt : Nat → Int32} (h : lc_S R pl a b no nn np pt) : ki_cl R (fun u => a ≤ u ∧ u < b) := by
  intro u hu j hj
  obtain ⟨_, _, _, _, p1, p2, p3, p4⟩ := h.2.2 u hu.1 hu.2
  have n3 : pg_n (R 0 u) ≤ 3 := by unfold pg_n; repeat' split
                                   all_goals omega
  have hl := p4 j hj
  refine ⟨hl, ?_, by omega⟩
  have : j = 0 ∨ j = 1 ∨ j = 2 := by omega
  rcases this with q | q | q <;> subst q
  · exact p1
  · exact p2
  · exact p3
theorem lc_k3 {R : Nat → Nat → Nat} {kc pl : Nat → Nat} {a b : Nat} {no nn np pt : Nat → Int32} (h : lc_S R pl a b no nn np pt) (hc : ∀ f, f < 5 → kc f ≤ 3) : ∀ u, a ≤ u → u < b → ki_k R kc u ≤ 3 := by
  intro u
  induction u using Nat.strongRecOn with
  | ind u ih =>
    intro h1 h2
    obtain ⟨_, w, _, _, p1, p2, p3, p4⟩ := h.2.2 u h1 h2
    have cl := lc_cl h
    rw [ki_e cl ⟨h1, h2⟩]
    by_cases t13 : R 0 u = 13
    · have := hc _ (w.2.1 t13)
      unfold ki_f; rw [if_pos t13]; exact this
    · by_cases t3 : R 0 u = 3
      · have hl : R 3 u < u := p4 1 (by rw [t3]; decide)
        unfold ki_f; rw [if_neg t13, if_pos t3]; exact ih _ hl p2 (by omega)
      · by_cases t6 : R 0 u = 6
        · have hl : R 2 u < u := p4 0 (by rw [t6]; decide)
          unfold ki_f; rw [if_neg t13, if_neg t3, if_pos t6]; exact ih _ hl p1 (by omega)
        · unfold ki_f
          rw [if_neg t13, if_neg t3, if_neg t6]
          repeat' split
          all_goals omega
section
variable {f_width f_textLength f_foundPlace f_tokenCount f_frameCount f_operandCount f_defCount f_nodeEnd : Int32} {a_text a_tokenCode a_tokenPlace a_frameCode a_framePlace a_operand a_defPlace a_defFirst a_defEnd a_nodeOp a_nodeNumber a_nodePlace a_nodeDepth a_nodeKind a_part a_size a_kindFound a_choice a_status : Nat → Int32} {a_result : Nat → Int64} {a_slotFunction a_slotArgument : Nat → Int32} {R : Nat → Nat → Nat} {kc pl : Nat → Nat} {a b : Nat}
theorem lc_X (hS : lc_S R pl a b a_nodeOp a_nodeNumber a_nodePlace a_part) (hc : kx_c kc a_choice) {f q : Nat} (hf : f < 5) {post : Int32 → SX → Prop}
    (h : ∀ nk m, lc_R R kc pl a b m → post (nI (if ki_k R kc (b - 1) = kc f then m else q)) (f_width, f_textLength, f_foundPlace, f_tokenCount, f_frameCount, f_operandCount, f_defCount, f_nodeEnd, a_text, a_tokenCode, a_tokenPlace, a_frameCode, a_framePlace, a_operand, a_defPlace, a_defFirst, a_defEnd, a_nodeOp, a_nodeNumber, a_nodePlace, a_nodeDepth, nk, a_part, a_size, a_kindFound, a_choice, a_status, a_result, a_slotFunction, a_slotArgument)) : wpX_leastClash post (f_width, f_textLength, f_foundPlace, f_tokenCount, f_frameCount, f_operandCount, f_defCount, f_nodeEnd, a_text, a_tokenCode, a_tokenPlace, a_frameCode, a_framePlace, a_operand, a_defPlace, a_defFirst, a_defEnd, a_nodeOp, a_nodeNumber, a_nodePlace, a_nodeDepth, a_nodeKind, a_part, a_size, a_kindFound, a_choice, a_status, a_result, a_slotFunction, a_slotArgument) (nI a) (nI b) (nI f) (nI q) := by
  have hc3 : ∀ f, f < 5 → kc f ≤ 3 := fun f hf => (hc f hf).2
  have k3 := lc_k3 hS hc3
  have cl := lc_cl hS
  obtain ⟨hab, hb, hS⟩ := hS
  have key : ∀ d k m nk, k + d = b → a ≤ k → (∀ v, a ≤ v → v < k → nk v = nI (ki_k R kc v)) → lc_R R kc pl a k m → ∀ n, d < n →
      wX_leastClash_8 post (nI b) (nI f) (nI q) f_width f_textLength f_foundPlace f_tokenCount f_frameCount f_operandCount f_defCount f_nodeEnd n (nI m) (nI k) a_text a_tokenCode a_tokenPlace a_frameCode a_framePlace a_operand a_defPlace a_defFirst a_defEnd a_nodeOp a_nodeNumber a_nodePlace a_nodeDepth nk a_part a_size a_kindFound a_choice a_status a_result a_slotFunction a_slotArgument := by
    intro d
    induction d with
    | zero =>
      intro k m nk hk hak hnk hm n hn
      obtain ⟨n, rfl⟩ : ∃ w, n = w + 1 := ⟨n - 1, by omega⟩
      have ek : k = b := by omega
      subst ek
      have e1 : nI k - 1 = nI (k - 1) := pk_sub (b := 1) (by omega)
      refine br_t (nI_le (Nat.le_refl _) (by omega)) ?_
      rw [e1]
      refine ⟨vp_in_nI (by omega) (by decide), vp_in_nI hf (by decide), ?_⟩
      rw [nI_clamp (by omega), nI_clamp (by omega), hnk (k - 1) (by omega) (by omega), (hc f hf).1]
      have := k3 (k - 1) (by omega) (by omega)
      have := hc3 f hf
      have hh := h nk m hm
      refine pk_eq (ki_k R kc (k - 1)) (kc f) (fun c => ?_) (fun c => ?_)
      · rw [if_pos c] at hh; exact hh
      · rw [if_neg c] at hh; exact hh
    | succ d ih =>
      intro k m nk hk hak hnk hm n hn
      obtain ⟨n, rfl⟩ : ∃ w, n = w + 1 := ⟨n - 1, by omega⟩
      obtain ⟨n1, w1, p0, pl2, p1, p2, p3, p4⟩ := hS k hak (by omega)
      have hin : vp_in (nI k) 320 := vp_in_nI (by omega) (by decide)
      refine br_f (nI_ge (by omega) (by omega)) ?_
      refine kx_k (R := R) (kc := kc) (ka := ki_k R kc (R 2 k)) (kb := ki_k R kc (R 3 k)) (by omega) n1 w1 hc (fun t => ?_) (fun t => ?_) ?_
      · exact hnk _ p1 (p4 0 (by rw [t]; decide))
      · exact hnk _ p2 (p4 1 (by rw [t]; decide))
      · refine ⟨hin, fun A eA => ?_⟩
        rw [nI_clamp (by omega), ← ki_e cl (u := k) ⟨hak, by omega⟩] at eA
        subst eA
        have nk2 : ∀ v, a ≤ v → v < k + 1 → upd nk k (nI (ki_k R kc k)) v = nI (ki_k R kc v) := by
          intro v h1 h2
          by_cases e : v = k
          · rw [e, pk_us]
          · rw [pk_un e]; exact hnk v h1 (by omega)
        have b2 := w1.2.2.1
        have b3 := w1.2.2.2.1
        have b4 := w1.2.2.2.2
        refine kx_m (R := R) (ka := ki_k R kc (R 2 k)) (kb := ki_k R kc (R 3 k)) (kd := ki_k R kc (R 4 k)) (by omega) n1 w1 (nk2 _ p1 (by omega)) (nk2 _ p2 (by omega)) (nk2 _ p3 (by omega)) (k3 _ p1 (by omega)) (k3 _ p2 (by omega)) (k3 _ p3 (by omega)) (fun met => bq_1 (fun y ey => ?_)) (fun nmet => br_t rfl ⟨hin, ?_⟩)
        · rw [ey, nI_1]
          refine ih (k + 1) m _ (by omega) (by omega) nk2 ⟨hm.1, fun u h1 h2 h3 => ?_, ?_⟩ n (by omega)
          · by_cases e : u = k
            · rw [e] at h3; exact absurd met h3
            · exact hm.2.1 u h1 (by omega) h3
          · rcases hm.2.2 with w | ⟨u, u1, u2, u3⟩
            · exact Or.inl w
            · exact Or.inr ⟨u, u1, by omega, u3⟩
        · rw [nI_clamp (by omega), p0]
          have m201 := hm.1
          refine pk_le m (pl k) (fun c => fun y ey => ?_) (fun c => ⟨hin, fun x ex y ey => ?_⟩)
          · rw [ey, nI_1]
            refine ih (k + 1) m _ (by omega) (by omega) nk2 ⟨hm.1, fun u h1 h2 h3 => ?_, ?_⟩ n (by omega)
            · by_cases e : u = k
              · rw [e]; exact c
              · exact hm.2.1 u h1 (by omega) h3
            · rcases hm.2.2 with w | ⟨u, u1, u2, u3⟩
              · exact Or.inl w
              · exact Or.inr ⟨u, u1, by omega, u3⟩
          · rw [nI_1] at ey
            subst ex ey
            refine ih (k + 1) (pl k) _ (by omega) (by omega) nk2 ⟨by omega, fun u h1 h2 h3 => ?_, Or.inr ⟨k, hak, by omega, nmet, rfl⟩⟩ n (by omega)
            by_cases e : u = k
            · rw [e]; exact Nat.le_refl _
            · have := hm.2.1 u h1 (by omega) h3; omega
  exact ⟨_, key (b - a) a 201 a_nodeKind (by omega) (Nat.le_refl _) (fun v h1 h2 => by omega) ⟨Nat.le_refl _, fun u h1 h2 => by omega, Or.inl rfl⟩ _ (Nat.lt_succ_self _)⟩
theorem ch_X {c : Nat} (hcc : c < 243) {post : SX → Prop} (h : ∀ ch, kx_c (ki_c c) ch → post (f_width, f_textLength, f_foundPlace, f_tokenCount, f_frameCount, f_operandCount, f_defCount, f_nodeEnd, a_text, a_tokenCode, a_tokenPlace, a_frameCode, a_framePlace, a_operand, a_defPlace, a_defFirst, a_defEnd, a_nodeOp, a_nodeNumber, a_nodePlace, a_nodeDepth, a_nodeKind, a_part, a_size, a_kindFound, ch, a_status, a_result, a_slotFunction, a_slotArgument)) : wpX_choose post (f_width, f_textLength, f_foundPlace, f_tokenCount, f_frameCount, f_operandCount, f_defCount, f_nodeEnd, a_text, a_tokenCode, a_tokenPlace, a_frameCode, a_framePlace, a_operand, a_defPlace, a_defFirst, a_defEnd, a_nodeOp, a_nodeNumber, a_nodePlace, a_nodeDepth, a_nodeKind, a_part, a_size, a_kindFound, a_choice, a_status, a_result, a_slotFunction, a_slotArgument) (nI c) := by
  have key : ∀ d f ch, f + d = 5 → (∀ g, g < f → ch g = nI (ki_c c g)) → ∀ n, d < n → wX_choose_4 post f_width f_textLength f_foundPlace f_tokenCount f_frameCount f_operandCount f_defCount f_nodeEnd n (nI (c / 3 ^ f)) (nI f) a_text a_tokenCode a_tokenPlace a_frameCode a_framePlace a_operand a_defPlace a_defFirst a_defEnd a_nodeOp a_nodeNumber a_nodePlace a_nodeDepth a_nodeKind a_part a_size a_kindFound ch a_status a_result a_slotFunction a_slotArgument := by
    intro d
    induction d with
    | zero =>
      intro f ch hf hg n hn
      obtain ⟨n, rfl⟩ : ∃ w, n = w + 1 := ⟨n - 1, by omega⟩
      have : f = 5 := by omega
      subst this
      exact br_t (nI_le (a := 5) (by decide) (by decide)) (h ch (fun g hg2 => ⟨hg g hg2, (ki_c_r c g).2⟩))
    | succ d ih =>
      intro f ch hf hg n hn
      obtain ⟨n, rfl⟩ : ∃ w, n = w + 1 := ⟨n - 1, by omega⟩
      have lt : c / 3 ^ f < 2 ^ 31 := Nat.lt_of_le_of_lt (Nat.div_le_self _ _) (by omega)
      have er : nI (c / 3 ^ f) - nI (c / 3 ^ f) / 3 * 3 = nI (c / 3 ^ f % 3) := pk_rem (d := 3) lt (by decide) (by decide)
      have ed : nI (c / 3 ^ f) / 3 = nI (c / 3 ^ f / 3) := pk_div (d := 3) lt (by decide) (by decide)
      refine br_f (nI_ge (b := 5) (by omega) (by decide)) ⟨by decide, vp_in_nI (by omega) (by decide), fun A eA => ⟨by decide, fun y ey z ez => ?_⟩⟩
      rw [er, nI_clamp (by omega)] at eA
      rw [ed, Nat.div_div_eq_div_mul, ← Nat.pow_succ] at ey
      rw [nI_1] at ez
      have e1 : (1 : Int32) + nI (c / 3 ^ f % 3) = nI (ki_c c f) := by
        have : (1 : Int32) + nI (c / 3 ^ f % 3) = nI (1 + c / 3 ^ f % 3) := nI_add 1 _
        rw [this, Nat.add_comm]; rfl
      rw [e1] at eA
      subst eA ey ez
      refine ih (f + 1) _ (by omega) (fun g hg2 => ?_) n (by omega)
      by_cases e : g = f
      · rw [e, pk_us]
      · rw [pk_un e]; exact hg g (by omega)
  have := key 5 0 a_choice rfl (fun g hg => by omega) 6 (by decide)
  rw [Nat.pow_zero, Nat.div_one] at this
  exact ⟨_, this⟩
end
