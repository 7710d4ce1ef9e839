-- X and kinds
def kx_n (R : Nat → Nat → Nat) (no nn pt : Nat → Int32) (u : Nat) : Prop :=
  no u = nI (xc_t (R 0 u)) ∧ nn u = nI (R 1 u) ∧ pt (u * 3) = nI (R 2 u) ∧ pt (u * 3 + 1) = nI (R 3 u) ∧ pt (u * 3 + 2) = nI (R 4 u)
def kx_w (R : Nat → Nat → Nat) (u : Nat) : Prop := pg_op (R 0 u) ∧ (R 0 u = 13 → R 1 u < 5) ∧ R 2 u ≤ u ∧ R 3 u ≤ u ∧ R 4 u ≤ u
def kx_c (kc : Nat → Nat) (ch : Nat → Int32) : Prop := ∀ f, f < 5 → ch f = nI (kc f) ∧ kc f ≤ 3
theorem kx_f3 {t x a b : Nat} (hx : x ≤ 3) (ha : a ≤ 3) (hb : b ≤ 3) : ki_f t x a b ≤ 3 := by
  unfold ki_f; repeat' split
  all_goals omega
section
variable {f_width f_textLength f_foundPlace f_tokenCount f_frameCount f_operandCount f_defCount f_nodeEnd : Int32} {a_text a_tokenCode a_tokenPlace a_frameCode a_framePlace a_operand a_defPlace a_defFirst a_defEnd a_nodeOp a_nodeNumber a_nodePlace a_nodeDepth a_nodeKind a_part a_size a_kindFound a_choice a_status : Nat → Int32} {a_result : Nat → Int64} {a_slotFunction a_slotArgument : Nat → Int32} {R : Nat → Nat → Nat} {kc : Nat → Nat} {u ka kb kd : Nat}
theorem kx_k (hu : u < 320) (hn : kx_n R a_nodeOp a_nodeNumber a_part u) (hw : kx_w R u) (hc : kx_c kc a_choice) (ha : R 0 u = 6 → a_nodeKind (R 2 u) = nI ka) (hb : R 0 u = 3 → a_nodeKind (R 3 u) = nI kb) {post : Int32 → Prop}
    (h : post (nI (ki_f (R 0 u) (kc (R 1 u)) ka kb))) : wpX_kindOfNode post (f_width, f_textLength, f_foundPlace, f_tokenCount, f_frameCount, f_operandCount, f_defCount, f_nodeEnd, a_text, a_tokenCode, a_tokenPlace, a_frameCode, a_framePlace, a_operand, a_defPlace, a_defFirst, a_defEnd, a_nodeOp, a_nodeNumber, a_nodePlace, a_nodeDepth, a_nodeKind, a_part, a_size, a_kindFound, a_choice, a_status, a_result, a_slotFunction, a_slotArgument) (nI u) := by
  obtain ⟨n1, n2, n3, n4, n5⟩ := hn
  obtain ⟨w1, w2, w3, w4, w5⟩ := hw
  have hin := vp_in_nI (n := u) (N := 320) hu (by decide)
  have e0 : nI u * 3 = nI (u * 3) := pk_mul u 3
  refine ⟨hin, fun k ek => ?_⟩
  rw [nI_clamp (by omega), n1] at ek
  subst ek
  by_cases t3 : R 0 u = 3
  · rw [t3] at h ⊢
    refine br_f (by decide) (br_f (by decide) (br_f (by decide) (br_f (by decide) (br_f (by decide) (br_f (by decide) (br_f (by decide) (br_f (by decide) (br_f (by decide) (br_f (by decide) (br_f (by decide) (br_t rfl ?_)))))))))))
    rw [e0]
    have e1 : nI (u * 3) + 1 = nI (u * 3 + 1) := nI_1 _
    rw [e1]
    refine ⟨vp_in_nI (by omega) (by decide), ?_⟩
    rw [nI_clamp (by omega), n4]
    refine ⟨vp_in_nI (by omega) (by decide), ?_⟩
    rw [nI_clamp (by omega), hb t3]
    exact h
  · by_cases t6 : R 0 u = 6
    · rw [t6] at h ⊢
      refine br_f (by decide) (br_f (by decide) (br_f (by decide) (br_f (by decide) (br_f (by decide) (br_f (by decide) (br_f (by decide) (br_f (by decide) (br_f (by decide) (br_f (by decide) (br_f (by decide) (br_f (by decide) (br_f (by decide) (br_f (by decide) (br_t rfl ?_))))))))))))))
      rw [e0]
      refine ⟨vp_in_nI (by omega) (by decide), ?_⟩
      rw [nI_clamp (by omega), n3]
      refine ⟨vp_in_nI (by omega) (by decide), ?_⟩
      rw [nI_clamp (by omega), ha t6]
      exact h
    · by_cases t13 : R 0 u = 13
      · rw [t13] at h ⊢
        have f5 := w2 t13
        refine br_f (by decide) (br_f (by decide) (br_t rfl ⟨hin, ?_⟩))
        rw [nI_clamp (by omega), n2]
        refine ⟨vp_in_nI f5 (by decide), ?_⟩
        rw [nI_clamp (by omega), (hc _ f5).1]
        exact h
      · have cs : R 0 u = 1 ∨ R 0 u = 2 ∨ R 0 u = 7 ∨ R 0 u = 8 ∨ R 0 u = 9 ∨ R 0 u = 10 ∨ R 0 u = 11 ∨ R 0 u = 12 ∨ R 0 u = 14 ∨ R 0 u = 15 ∨ R 0 u = 16 ∨ R 0 u = 17 ∨ R 0 u = 18 ∨ R 0 u = 19 ∨ R 0 u = 20 ∨ R 0 u = 21 ∨ R 0 u = 22 ∨ R 0 u = 23 ∨ R 0 u = 24 ∨ R 0 u = 28 := by
          unfold pg_op at w1; omega
        clear t3 t6 t13 w1 w2 ha hb n1
        rcases cs with c | c | c | c | c | c | c | c | c | c | c | c | c | c | c | c | c | c | c | c <;> rw [c] at h ⊢ <;> clear c
        all_goals (repeat (first | refine br_t rfl ?_ | refine br_f (by decide) ?_))
        all_goals exact h
theorem kx_m (hu : u < 320) (hn : kx_n R a_nodeOp a_nodeNumber a_part u) (hw : kx_w R u) (ha : a_nodeKind (R 2 u) = nI ka) (hb : a_nodeKind (R 3 u) = nI kb) (hd : a_nodeKind (R 4 u) = nI kd) (ka3 : ka ≤ 3) (kb3 : kb ≤ 3) (kd3 : kd ≤ 3) {post : Int32 → Prop}
    (h1 : ki_m (R 0 u) ka kb kd → post 1) (h0 : ¬ ki_m (R 0 u) ka kb kd → post 0) : wpX_isMet post (f_width, f_textLength, f_foundPlace, f_tokenCount, f_frameCount, f_operandCount, f_defCount, f_nodeEnd, a_text, a_tokenCode, a_tokenPlace, a_frameCode, a_framePlace, a_operand, a_defPlace, a_defFirst, a_defEnd, a_nodeOp, a_nodeNumber, a_nodePlace, a_nodeDepth, a_nodeKind, a_part, a_size, a_kindFound, a_choice, a_status, a_result, a_slotFunction, a_slotArgument) (nI u) := by
  obtain ⟨n1, n2, n3, n4, n5⟩ := hn
  obtain ⟨w1, w2, w3, w4, w5⟩ := hw
  have hin := vp_in_nI (n := u) (N := 320) hu (by decide)
  have e0 : nI u * 3 = nI (u * 3) := pk_mul u 3
  have e1 : nI (u * 3) + 1 = nI (u * 3 + 1) := nI_1 _
  have e2 : nI (u * 3) + 2 = nI (u * 3 + 2) := nI_add _ 2
  unfold wpX_isMet
  dsimp only
  rw [e0, e1, e2]
  refine ⟨vp_in_nI (by omega) (by decide), ?_⟩
  rw [nI_clamp (n := u * 3) (by omega), n3]
  refine ⟨vp_in_nI (by omega) (by decide), fun x ex => ⟨vp_in_nI (by omega) (by decide), ?_⟩⟩
  rw [nI_clamp (by omega), ha] at ex
  subst ex
  rw [nI_clamp (n := u * 3 + 1) (by omega), n4]
  refine ⟨vp_in_nI (by omega) (by decide), fun y ey => ⟨vp_in_nI (by omega) (by decide), ?_⟩⟩
  rw [nI_clamp (by omega), hb] at ey
  subst ey
  rw [nI_clamp (n := u * 3 + 2) (by omega), n5]
  refine ⟨vp_in_nI (by omega) (by decide), fun z ez => ⟨hin, fun k ek => ?_⟩⟩
  rw [nI_clamp (by omega), hd] at ez
  rw [nI_clamp (by omega), n1] at ek
  subst ez ek
  have cs : R 0 u = 1 ∨ R 0 u = 2 ∨ R 0 u = 10 ∨ R 0 u = 11 ∨ R 0 u = 12 ∨ R 0 u = 3 ∨ R 0 u = 6 ∨ R 0 u = 7 ∨ R 0 u = 8 ∨ R 0 u = 9 ∨ R 0 u = 13 ∨ R 0 u = 14 ∨ R 0 u = 15 ∨ R 0 u = 16 ∨ R 0 u = 17 ∨ R 0 u = 18 ∨ R 0 u = 19 ∨ R 0 u = 20 ∨ R 0 u = 21 ∨ R 0 u = 22 ∨ R 0 u = 23 ∨ R 0 u = 24 ∨ R 0 u = 28 := by
    unfold pg_op at w1; omega
  clear w1 w2 w3 w4 w5 ha hb hd n1 n2 n3 n4 n5 e0 e1 e2
  rcases cs with c | c | c | c | c | c | c | c | c | c | c | c | c | c | c | c | c | c | c | c | c | c | c <;> rw [c] at h0 h1 ⊢ <;> clear c
  all_goals (repeat (first | refine br_t (rfl : nI (xc_t _) = _) ?_ | refine br_f (by decide : ¬ nI (xc_t _) = _) ?_))
  all_goals first
    | exact h1 trivial
    | exact pk_eq ka 1 (fun a => h1 a) (fun a => h0 a)
    | exact pk_eq ka 2 (fun a => h1 a) (fun a => h0 a)
    | exact pk_eq ka 3 (fun a => h1 a) (fun a => h0 a)
    | exact pk_eq ka 1 (fun a => pk_eq kb 1 (fun b => h1 ⟨a, b⟩) (fun b => h0 (fun q => b q.2))) (fun a => h0 (fun q => a q.1))
    | exact pk_eq ka 2 (fun a => pk_eq kb 2 (fun b => h1 ⟨a, b⟩) (fun b => h0 (fun q => b q.2))) (fun a => h0 (fun q => a q.1))
    | exact pk_eq ka 1 (fun a => pk_eq kb 3 (fun b => h1 ⟨a, b⟩) (fun b => h0 (fun q => b q.2))) (fun a => h0 (fun q => a q.1))
    | exact pk_eq ka 2 (fun a => pk_eq kb kd (fun b => h1 ⟨a, b⟩) (fun b => h0 (fun q => b q.2))) (fun a => h0 (fun q => a q.1))
    | exact pk_eq ka kb (fun a => pk_eq ka 3 (fun b => h0 (fun q => q.2 b)) (fun b => h1 ⟨a, b⟩)) (fun a => h0 (fun q => a q.1))
    | exact pk_eq ka kb (fun a => h1 a) (fun a => h0 a)
end
