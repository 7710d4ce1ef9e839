-- Y and kinds
theorem ky_20 {t : Nat} (h : pg_op t) (h3 : t ≠ 3) (h6 : t ≠ 6) (h13 : t ≠ 13) : t = 1 ∨ t = 2 ∨ t = 7 ∨ t = 8 ∨ t = 9 ∨ t = 10 ∨ t = 11 ∨ t = 12 ∨ t = 14 ∨ t = 15 ∨ t = 16 ∨ t = 17 ∨ t = 18 ∨ t = 19 ∨ t = 20 ∨ t = 21 ∨ t = 22 ∨ t = 23 ∨ t = 24 ∨ t = 28 := by
  unfold pg_op at h; omega
theorem ky_23 {t : Nat} (h : pg_op t) : t = 1 ∨ t = 2 ∨ t = 10 ∨ t = 11 ∨ t = 12 ∨ t = 3 ∨ t = 6 ∨ t = 7 ∨ t = 8 ∨ t = 9 ∨ t = 13 ∨ t = 14 ∨ t = 15 ∨ t = 16 ∨ t = 17 ∨ t = 18 ∨ t = 19 ∨ t = 20 ∨ t = 21 ∨ t = 22 ∨ t = 23 ∨ t = 24 ∨ t = 28 := by
  unfold pg_op at h; omega
def ky_S (R : Nat → Nat → Nat) (g : Nat → Nat) (S : Nat → Prop) (nop nnm nA nB nC : Nat → Int32) : Prop :=
  ∀ r, S r → r < 320 ∧ nop r = nI (R 0 (g r)) ∧ nnm r = nI (R 1 (g r)) ∧ pg_op (R 0 (g r)) ∧ (R 0 (g r) = 13 → R 1 (g r) < 5) ∧
    (0 < pg_n (R 0 (g r)) → ∃ a, nA r = nI a ∧ S a ∧ g a = R 2 (g r) ∧ R 2 (g r) < g r) ∧
    (1 < pg_n (R 0 (g r)) → ∃ a, nB r = nI a ∧ S a ∧ g a = R 3 (g r) ∧ R 3 (g r) < g r) ∧
    (2 < pg_n (R 0 (g r)) → ∃ a, nC r = nI a ∧ S a ∧ g a = R 4 (g r) ∧ R 4 (g r) < g r)
theorem ky_cl {R : Nat → Nat → Nat} {g : Nat → Nat} {S : Nat → Prop} {nop nnm nA nB nC : Nat → Int32} (h : ky_S R g S nop nnm nA nB nC) : ki_cl R (fun u => ∃ r, S r ∧ g r = u) := by
  intro u ⟨r, hr, e⟩ j hj
  subst e
  obtain ⟨_, _, _, _, _, p1, p2, p3⟩ := h r hr
  have n3 : pg_n (R 0 (g r)) ≤ 3 := by unfold pg_n; repeat' split
                                       all_goals omega
  have : j = 0 ∨ j = 1 ∨ j = 2 := by omega
  rcases this with q | q | q <;> subst q
  · obtain ⟨a, a1, a2, a3, a4⟩ := p1 hj; exact ⟨a4, a, a2, a3⟩
  · obtain ⟨a, a1, a2, a3, a4⟩ := p2 hj; exact ⟨a4, a, a2, a3⟩
  · obtain ⟨a, a1, a2, a3, a4⟩ := p3 hj; exact ⟨a4, a, a2, a3⟩
theorem ky_3 {R : Nat → Nat → Nat} {g : Nat → Nat} {S : Nat → Prop} {kc : Nat → Nat} {nop nnm nA nB nC : Nat → Int32} (h : ky_S R g S nop nnm nA nB nC) (hc : ∀ f, f < 5 → kc f ≤ 3) : ∀ r, S r → ki_k R kc (g r) ≤ 3 := by
  have key : ∀ n r, g r ≤ n → S r → ki_k R kc (g r) ≤ 3 := by
    intro n
    induction n with
    | zero =>
      intro r hr hS
      obtain ⟨_, _, _, op, p0, p1, p2, p3⟩ := h r hS
      rw [ki_e (ky_cl h) ⟨r, hS, rfl⟩]
      unfold ki_f
      split
      · rename_i t; exact hc _ (p0 t)
      · split
        · rename_i t; obtain ⟨a, _, _, _, a4⟩ := p2 (by rw [t]; decide); omega
        · split
          · rename_i t; obtain ⟨a, _, _, _, a4⟩ := p1 (by rw [t]; decide); omega
          · repeat' split
            all_goals omega
    | succ n ih =>
      intro r hr hS
      obtain ⟨_, _, _, op, p0, p1, p2, p3⟩ := h r hS
      rw [ki_e (ky_cl h) ⟨r, hS, rfl⟩]
      unfold ki_f
      split
      · rename_i t; exact hc _ (p0 t)
      · split
        · rename_i t; obtain ⟨a, a1, a2, a3, a4⟩ := p2 (by rw [t]; decide); rw [← a3]; exact ih a (by omega) a2
        · split
          · rename_i t; obtain ⟨a, a1, a2, a3, a4⟩ := p1 (by rw [t]; decide); rw [← a3]; exact ih a (by omega) a2
          · repeat' split
            all_goals omega
  intro r hS
  exact key (g r) r (Nat.le_refl _) hS
section
variable {f_width f_length f_place f_toks f_nodes f_defs : Int32} {a_text a_tok a_tokNum a_tokPlace a_opened a_nOp a_nNum a_nPlace a_nA a_nB a_nC a_nLo a_nHi a_nLevel a_defName a_defPlace a_defRoot a_loaded a_count a_status : Nat → Int32} {a_number : Nat → Int64} {a_origin a_choice a_slotF a_slotX a_slotHeld : Nat → Int32} {R : Nat → Nat → Nat} {g : Nat → Nat} {S : Nat → Prop} {kc : Nat → Nat} {post : Int32 → Prop}
theorem ky_k (hS : ky_S R g S a_nOp a_nNum a_nA a_nB a_nC) (hc : kx_c kc a_choice) {r : Nat} (hr : S r) (h : post (nI (ki_k R kc (g r)))) : wpY_kindOf post (f_width, f_length, f_place, f_toks, f_nodes, f_defs, a_text, a_tok, a_tokNum, a_tokPlace, a_opened, a_nOp, a_nNum, a_nPlace, a_nA, a_nB, a_nC, a_nLo, a_nHi, a_nLevel, a_defName, a_defPlace, a_defRoot, a_loaded, a_count, a_status, a_number, a_origin, a_choice, a_slotF, a_slotX, a_slotHeld) (nI r) := by
  have cl := ky_cl hS
  have key : ∀ n r, g r < n → S r → post (nI (ki_k R kc (g r))) → wY_kindOf_2 post f_width f_length f_place f_toks f_nodes f_defs a_text a_tok a_tokNum a_tokPlace a_opened a_nOp a_nNum a_nPlace a_nA a_nB a_nC a_nLo a_nHi a_nLevel a_defName a_defPlace a_defRoot a_loaded a_count a_status a_number a_origin a_choice a_slotF a_slotX a_slotHeld n (nI r) := by
    intro n
    induction n with
    | zero => intro r hr; omega
    | succ n ih =>
      intro r hr hSr h
      obtain ⟨p1, p2, p3, p4, p5, p6, p7, p8⟩ := hS r hSr
      have hin : vp_in (nI r) 320 := vp_in_nI p1 (by decide)
      have cle : ∀ x, (nI r).toNatClampNeg = x → x = r := fun x q => by rw [nI_clamp (by omega)] at q; exact q.symm
      rw [ki_e cl ⟨r, hSr, rfl⟩] at h
      refine ⟨hin, ?_⟩
      rw [nI_clamp (by omega), p2]
      by_cases t3 : R 0 (g r) = 3
      · obtain ⟨a, a1, a2, a3, a4⟩ := p7 (by rw [t3]; decide)
        rw [t3] at h ⊢
        refine br_t rfl ⟨hin, ?_⟩
        rw [nI_clamp (by omega), p2, t3]
        refine br_t rfl ⟨hin, fun y ey => ?_⟩
        rw [a1] at ey
        subst ey
        exact ih a (by omega) a2 (by rw [a3]; exact h)
      · by_cases t6 : R 0 (g r) = 6
        · obtain ⟨a, a1, a2, a3, a4⟩ := p6 (by rw [t6]; decide)
          rw [t6] at h ⊢
          refine br_f (by decide) ⟨hin, br_t rfl ⟨hin, ?_⟩⟩
          rw [nI_clamp (by omega), p2, t6]
          refine br_f (by decide) ⟨hin, fun y ey => ?_⟩
          rw [a1] at ey
          subst ey
          exact ih a (by omega) a2 (by rw [a3]; exact h)
        · by_cases t13 : R 0 (g r) = 13
          · have f5 := p5 t13
            rw [t13] at h ⊢
            refine br_f (by decide) ⟨hin, br_f (by decide) ⟨hin, fun y ey => ?_⟩⟩
            subst ey
            refine br_t rfl ⟨hin, ?_⟩
            rw [p3]
            refine ⟨vp_in_nI f5 (by decide), ?_⟩
            rw [nI_clamp (by omega), (hc _ f5).1]
            exact h
          · have cs := ky_20 p4 t3 t6 t13
            clear t3 t6 t13 p4 p5 p6 p7 p8 p2
            rcases cs with c | c | c | c | c | c | c | c | c | c | c | c | c | c | c | c | c | c | c | c <;> rw [c] at h ⊢ <;> clear c
            all_goals refine br_f (by decide) ⟨hin, br_f (by decide) ⟨hin, fun y ey => ?_⟩⟩
            all_goals subst ey
            all_goals (repeat (first | refine br_t rfl ?_ | refine br_f (by decide) ?_ | refine br_t (by decide) ?_))
            all_goals exact h
  exact ⟨_, key (g r + 1) r (Nat.lt_succ_self _) hr h⟩
theorem ky_c (hS : ky_S R g S a_nOp a_nNum a_nA a_nB a_nC) (hc : kx_c kc a_choice) {r : Nat} (hr : S r) (h1 : lc_m R kc (g r) → post 1) (h0 : ¬ lc_m R kc (g r) → post 0) : wpY_content post (f_width, f_length, f_place, f_toks, f_nodes, f_defs, a_text, a_tok, a_tokNum, a_tokPlace, a_opened, a_nOp, a_nNum, a_nPlace, a_nA, a_nB, a_nC, a_nLo, a_nHi, a_nLevel, a_defName, a_defPlace, a_defRoot, a_loaded, a_count, a_status, a_number, a_origin, a_choice, a_slotF, a_slotX, a_slotHeld) (nI r) := by
  obtain ⟨p1, p2, p3, p4, p5, p6, p7, p8⟩ := hS r hr
  have hin : vp_in (nI r) 320 := vp_in_nI p1 (by decide)
  have k3 := ky_3 hS (fun f hf => (hc f hf).2)
  refine ⟨hin, fun y ey => ?_⟩
  rw [nI_clamp (by omega), p2] at ey
  subst ey
  unfold lc_m at h1 h0
  have one : 0 < pg_n (R 0 (g r)) → ∀ q : Int32 → Prop, q (nI (ki_k R kc (R 2 (g r)))) → wpY_kindOf q (f_width, f_length, f_place, f_toks, f_nodes, f_defs, a_text, a_tok, a_tokNum, a_tokPlace, a_opened, a_nOp, a_nNum, a_nPlace, a_nA, a_nB, a_nC, a_nLo, a_nHi, a_nLevel, a_defName, a_defPlace, a_defRoot, a_loaded, a_count, a_status, a_number, a_origin, a_choice, a_slotF, a_slotX, a_slotHeld) (a_nA (nI r).toNatClampNeg) ∧ ki_k R kc (R 2 (g r)) ≤ 3 := by
    intro n q hq
    obtain ⟨a, a1, a2, a3, a4⟩ := p6 n
    rw [nI_clamp (by omega), a1, ← a3]
    exact ⟨ky_k hS hc a2 (by rw [a3]; exact hq), k3 a a2⟩
  have two : 1 < pg_n (R 0 (g r)) → ∀ q : Int32 → Prop, q (nI (ki_k R kc (R 3 (g r)))) → wpY_kindOf q (f_width, f_length, f_place, f_toks, f_nodes, f_defs, a_text, a_tok, a_tokNum, a_tokPlace, a_opened, a_nOp, a_nNum, a_nPlace, a_nA, a_nB, a_nC, a_nLo, a_nHi, a_nLevel, a_defName, a_defPlace, a_defRoot, a_loaded, a_count, a_status, a_number, a_origin, a_choice, a_slotF, a_slotX, a_slotHeld) (a_nB (nI r).toNatClampNeg) ∧ ki_k R kc (R 3 (g r)) ≤ 3 := by
    intro n q hq
    obtain ⟨a, a1, a2, a3, a4⟩ := p7 n
    rw [nI_clamp (by omega), a1, ← a3]
    exact ⟨ky_k hS hc a2 (by rw [a3]; exact hq), k3 a a2⟩
  have thr : 2 < pg_n (R 0 (g r)) → ∀ q : Int32 → Prop, q (nI (ki_k R kc (R 4 (g r)))) → wpY_kindOf q (f_width, f_length, f_place, f_toks, f_nodes, f_defs, a_text, a_tok, a_tokNum, a_tokPlace, a_opened, a_nOp, a_nNum, a_nPlace, a_nA, a_nB, a_nC, a_nLo, a_nHi, a_nLevel, a_defName, a_defPlace, a_defRoot, a_loaded, a_count, a_status, a_number, a_origin, a_choice, a_slotF, a_slotX, a_slotHeld) (a_nC (nI r).toNatClampNeg) ∧ ki_k R kc (R 4 (g r)) ≤ 3 := by
    intro n q hq
    obtain ⟨a, a1, a2, a3, a4⟩ := p8 n
    rw [nI_clamp (by omega), a1, ← a3]
    exact ⟨ky_k hS hc a2 (by rw [a3]; exact hq), k3 a a2⟩
  generalize ki_k R kc (R 2 (g r)) = ka at *
  generalize ki_k R kc (R 3 (g r)) = kb at *
  generalize ki_k R kc (R 4 (g r)) = kd at *
  have cs := ky_23 p4
  have ka3 : 0 < pg_n (R 0 (g r)) → ka ≤ 3 := fun n => (one n (fun _ => True) trivial).2
  have kb3 : 1 < pg_n (R 0 (g r)) → kb ≤ 3 := fun n => (two n (fun _ => True) trivial).2
  have kd3 : 2 < pg_n (R 0 (g r)) → kd ≤ 3 := fun n => (thr n (fun _ => True) trivial).2
  clear p2 p3 p4 p5 p6 p7 p8 k3
  rcases cs with c | c | c | c | c | c | c | c | c | c | c | c | c | c | c | c | c | c | c | c | c | c | c <;> rw [c] at h0 h1 ka3 kb3 kd3 one two thr ⊢ <;> clear c
  all_goals (repeat (first | refine br_t (by decide : nI _ ≤ 2) ?_ | refine br_f (by decide : ¬ nI _ ≤ 2) ?_ | refine br_t (rfl : nI _ = _) ?_ | refine br_f (by decide : ¬ nI _ = _) ?_))
  all_goals first
    | exact h1 trivial
    | (refine ⟨hin, (one (by decide) _ ?_).1⟩
       have ka3 := ka3 (by decide)
       (repeat (first | refine br_t (rfl : nI _ = _) ?_ | refine br_f (by decide : ¬ nI _ = _) ?_))
       first
         | exact pk_eq ka 1 (fun a => h1 a) (fun a => h0 a)
         | exact pk_eq ka 2 (fun a => h1 a) (fun a => h0 a)
         | exact pk_eq ka 3 (fun a => h1 a) (fun a => h0 a)
         | (refine ⟨hin, (two (by decide) _ ?_).1⟩
            have kb3 := kb3 (by decide)
            (repeat (first | refine br_t (rfl : nI _ = _) ?_ | refine br_f (by decide : ¬ nI _ = _) ?_))
            first
              | exact pk_eq ka 2 (fun a => ⟨hin, (thr (by decide) _ (pk_eq kb kd (fun b => h1 ⟨a, b⟩) (fun b => h0 (fun q => b q.2)) rfl rfl (by omega) (by have := kd3 (by decide); omega))).1⟩) (fun a => h0 (fun q => a q.1))
              | exact pk_eq ka 1 (fun a => pk_eq kb 1 (fun b => h1 ⟨a, b⟩) (fun b => h0 (fun q => b q.2))) (fun a => h0 (fun q => a q.1))
              | exact pk_eq ka 2 (fun a => pk_eq kb 2 (fun b => h1 ⟨a, b⟩) (fun b => h0 (fun q => b q.2))) (fun a => h0 (fun q => a q.1))
              | exact pk_eq ka 1 (fun a => pk_eq kb 3 (fun b => h1 ⟨a, b⟩) (fun b => h0 (fun q => b q.2))) (fun a => h0 (fun q => a q.1))
              | exact pk_eq ka kb (fun a => pk_eq ka 3 (fun b => h0 (fun q => q.2 b)) (fun b => h1 ⟨a, b⟩)) (fun a => h0 (fun q => a q.1))
              | exact pk_eq ka kb (fun a => h1 a) (fun a => h0 a)))
end
