-- X finds the kinds
theorem fk_3 {V : Nat → Prop} {n f r : Nat} (h : ki_r V n f r) : r ≤ 3 := by
  rcases h with h | ⟨c, _, _, h, _⟩ | h
  · omega
  · have := ki_c_r c f; omega
  · omega
section
variable {f_width f_textLength f_foundPlace f_tokenCount f_frameCount f_operandCount f_defCount f_nodeEnd : Int32} {a_text a_tokenCode a_tokenPlace a_frameCode a_framePlace a_operand a_defPlace a_defFirst a_defEnd a_nodeOp a_nodeNumber a_nodePlace a_nodeDepth a_nodeKind a_part a_size a_kindFound a_choice a_status : Nat → Int32} {a_result : Nat → Int64} {a_slotFunction a_slotArgument : Nat → Int32} {P : Nat → Nat → Nat}
theorem fk_44 {c : Nat} {J : Int32 → Int32 → Int32 → Int32 → Int32 → Int32 → Int32 → Int32 → Int32 → (Nat → Int32) → (Nat → Int32) → (Nat → Int32) → (Nat → Int32) → (Nat → Int32) → (Nat → Int32) → (Nat → Int32) → (Nat → Int32) → (Nat → Int32) → (Nat → Int32) → (Nat → Int32) → (Nat → Int32) → (Nat → Int32) → (Nat → Int32) → (Nat → Int32) → (Nat → Int32) → (Nat → Int32) → (Nat → Int32) → (Nat → Int32) → (Nat → Int64) → (Nat → Int32) → (Nat → Int32) → Prop} {post : SX → Prop} (hch : kx_c (ki_c c) a_choice) (hv : rl_V P c)
    (h : ∀ kf, (∀ f, f < 5 → ∃ r, kf f = nI r ∧ ki_r (rl_V P) (c + 1) f r) → J (nI (c + 1)) f_width f_textLength f_foundPlace f_tokenCount f_frameCount f_operandCount f_defCount f_nodeEnd a_text a_tokenCode a_tokenPlace a_frameCode a_framePlace a_operand a_defPlace a_defFirst a_defEnd a_nodeOp a_nodeNumber a_nodePlace a_nodeDepth a_nodeKind a_part a_size kf a_choice a_status a_result a_slotFunction a_slotArgument) :
    ∀ d f kf, f + d = 5 → (∀ g, g < f → ∃ r, kf g = nI r ∧ ki_r (rl_V P) (c + 1) g r) → (∀ g, f ≤ g → g < 5 → ∃ r, kf g = nI r ∧ ki_r (rl_V P) c g r) → ∀ n, d < n →
      wX_findKinds_44 post J (nI c) f_width f_textLength f_foundPlace f_tokenCount f_frameCount f_operandCount f_defCount f_nodeEnd n (nI f) a_text a_tokenCode a_tokenPlace a_frameCode a_framePlace a_operand a_defPlace a_defFirst a_defEnd a_nodeOp a_nodeNumber a_nodePlace a_nodeDepth a_nodeKind a_part a_size kf a_choice a_status a_result a_slotFunction a_slotArgument := by
  intro d
  induction d with
  | zero =>
    intro f kf hf h1 h2 n hn
    obtain ⟨n, rfl⟩ : ∃ w, n = w + 1 := ⟨n - 1, by omega⟩
    have : f = 5 := by omega
    subst this
    refine br_t (nI_le (a := 5) (by decide) (by decide)) (fun y ey => ?_)
    rw [ey, nI_1]
    exact h kf h1
  | succ d ih =>
    intro f kf hf h1 h2 n hn
    obtain ⟨n, rfl⟩ : ∃ w, n = w + 1 := ⟨n - 1, by omega⟩
    have f5 : f < 5 := by omega
    have hin : vp_in (nI f) 5 := vp_in_nI f5 (by decide)
    obtain ⟨r, r1, r2⟩ := h2 f (Nat.le_refl _) f5
    have r3 := fk_3 r2
    have kr := ki_c_r c f
    have st := ki_r_y r2 hv
    have nxt : ∀ (x : Nat), x = (if r = 0 ∨ r = ki_c c f then ki_c c f else 1) → ∀ y, y = nI f + 1 → wX_findKinds_44 post J (nI c) f_width f_textLength f_foundPlace f_tokenCount f_frameCount f_operandCount f_defCount f_nodeEnd n y a_text a_tokenCode a_tokenPlace a_frameCode a_framePlace a_operand a_defPlace a_defFirst a_defEnd a_nodeOp a_nodeNumber a_nodePlace a_nodeDepth a_nodeKind a_part a_size (upd kf f (nI x)) a_choice a_status a_result a_slotFunction a_slotArgument := by
      intro x ex y ey
      rw [ey, nI_1]
      refine ih (f + 1) _ (by omega) (fun g hg => ?_) (fun g h3 h4 => ?_) n (by omega)
      · by_cases e : g = f
        · subst e; rw [pk_us, ex]; exact ⟨_, rfl, st⟩
        · rw [pk_un e]; exact h1 g (by omega)
      · rw [pk_un (by omega)]; exact h2 g (by omega) h4
    have same : r = 0 ∨ r = ki_c c f → wX_findKinds_78 post J (wX_findKinds_44 post J (nI c) f_width f_textLength f_foundPlace f_tokenCount f_frameCount f_operandCount f_defCount f_nodeEnd n) (nI c) (nI f) 1 f_width f_textLength f_foundPlace f_tokenCount f_frameCount f_operandCount f_defCount f_nodeEnd a_text a_tokenCode a_tokenPlace a_frameCode a_framePlace a_operand a_defPlace a_defFirst a_defEnd a_nodeOp a_nodeNumber a_nodePlace a_nodeDepth a_nodeKind a_part a_size kf a_choice a_status a_result a_slotFunction a_slotArgument := by
      intro q
      refine bq_1 ⟨hin, hin, fun A eA => ?_⟩
      rw [nI_clamp (by omega), (hch f f5).1] at eA
      subst eA
      exact nxt _ (by rw [if_pos q])
    refine br_f (nI_ge (b := 5) f5 (by decide)) ⟨hin, ?_⟩
    rw [nI_clamp (by omega), r1]
    refine pk_eq r 0 (fun c0 => same (Or.inl c0)) (fun c0 => ⟨hin, hin, ?_⟩)
    rw [(hch f f5).1]
    refine pk_eq r (ki_c c f) (fun c1 => same (Or.inr c1)) (fun c1 => br_t rfl ⟨hin, fun A eA => ?_⟩)
    rw [nI_clamp (by omega)] at eA
    subst eA
    exact nxt 1 (by rw [if_neg (by omega)])
theorem fk_X (hP : xl_P P a_size a_nodeOp a_nodeNumber a_nodePlace a_part) {post : SX → Prop}
    (h : ∀ kf nk ch, (∀ f, f < 5 → ∃ r, kf f = nI r ∧ ki_r (rl_V P) 243 f r) → post (f_width, f_textLength, f_foundPlace, f_tokenCount, f_frameCount, f_operandCount, f_defCount, f_nodeEnd, a_text, a_tokenCode, a_tokenPlace, a_frameCode, a_framePlace, a_operand, a_defPlace, a_defFirst, a_defEnd, a_nodeOp, a_nodeNumber, a_nodePlace, a_nodeDepth, nk, a_part, a_size, kf, ch, a_status, a_result, a_slotFunction, a_slotArgument)) : wpX_findKinds post (f_width, f_textLength, f_foundPlace, f_tokenCount, f_frameCount, f_operandCount, f_defCount, f_nodeEnd, a_text, a_tokenCode, a_tokenPlace, a_frameCode, a_framePlace, a_operand, a_defPlace, a_defFirst, a_defEnd, a_nodeOp, a_nodeNumber, a_nodePlace, a_nodeDepth, a_nodeKind, a_part, a_size, a_kindFound, a_choice, a_status, a_result, a_slotFunction, a_slotArgument) := by
  have h24 := hP.1.2.2.1
  have la : ∀ kc, la_ok P (fun f => (0 : Nat).testBit f = true) kc ↔ ki_ok P kc := by
    intro kc
    rw [← la_ki h24]
    constructor
    · intro q f a b c; exact q f a b (by simp)
    · intro q f a b c; exact q f a b (fun w => w)
  have k22 : ∀ d c kf nk ch, c + d = 243 → (∀ f, f < 5 → ∃ r, kf f = nI r ∧ ki_r (rl_V P) c f r) → ∀ n, d < n → wX_findKinds_22 post n (nI c) f_width f_textLength f_foundPlace f_tokenCount f_frameCount f_operandCount f_defCount f_nodeEnd a_text a_tokenCode a_tokenPlace a_frameCode a_framePlace a_operand a_defPlace a_defFirst a_defEnd a_nodeOp a_nodeNumber a_nodePlace a_nodeDepth nk a_part a_size kf ch a_status a_result a_slotFunction a_slotArgument := by
    intro d
    induction d with
    | zero =>
      intro c kf nk ch hc hk n hn
      obtain ⟨n, rfl⟩ : ∃ w, n = w + 1 := ⟨n - 1, by omega⟩
      have : c = 243 := by omega
      subst this
      exact br_t (nI_le (a := 243) (by decide) (by decide)) (h kf nk ch hk)
    | succ d ih =>
      intro c kf nk ch hc hk n hn
      obtain ⟨n, rfl⟩ : ∃ w, n = w + 1 := ⟨n - 1, by omega⟩
      refine br_f (nI_ge (b := 243) (by omega) (by decide)) (ch_X (by omega) (fun ch2 hch => ?_))
      refine la_X (m := 0) hP hch (by decide) (fun ok nk2 => bq_1 ?_) (fun nok nk2 => br_t rfl (fun y ey => ?_))
      · have := fk_44 (P := P) (post := post) (J := wX_findKinds_22 post n) hch ((la _).mp ok) (fun kf2 hk2 => ih (c + 1) kf2 nk2 ch2 (by omega) hk2 n (by omega)) 5 0 kf rfl (fun g hg => by omega) (fun g _ h2 => hk g h2) 6 (by decide)
        exact ⟨_, this⟩
      · rw [ey, nI_1]
        refine ih (c + 1) kf nk2 ch2 (by omega) (fun f hf => ?_) n (by omega)
        obtain ⟨r, r1, r2⟩ := hk f hf
        exact ⟨r, r1, ki_r_n r2 (fun q => nok ((la _).mpr q))⟩
  have k2 : ∀ d f kf, f + d = 5 → (∀ g, g < f → kf g = 0) → ∀ n, d < n → wX_findKinds_2 post f_width f_textLength f_foundPlace f_tokenCount f_frameCount f_operandCount f_defCount f_nodeEnd n (nI f) a_text a_tokenCode a_tokenPlace a_frameCode a_framePlace a_operand a_defPlace a_defFirst a_defEnd a_nodeOp a_nodeNumber a_nodePlace a_nodeDepth a_nodeKind a_part a_size kf a_choice a_status a_result a_slotFunction a_slotArgument := by
    intro d
    induction d with
    | zero =>
      intro f kf hf hg n hn
      obtain ⟨n, rfl⟩ : ∃ w, n = w + 1 := ⟨n - 1, by omega⟩
      have : f = 5 := by omega
      subst this
      exact br_t (nI_le (a := 5) (by decide) (by decide)) ⟨_, k22 243 0 kf a_nodeKind a_choice rfl (fun g hg2 => ⟨0, hg g hg2, ki_r_0 _ _⟩) 244 (by decide)⟩
    | succ d ih =>
      intro f kf hf hg n hn
      obtain ⟨n, rfl⟩ : ∃ w, n = w + 1 := ⟨n - 1, by omega⟩
      refine br_f (nI_ge (b := 5) (by omega) (by decide)) ⟨vp_in_nI (by omega) (by decide), fun A eA y ey => ?_⟩
      rw [nI_clamp (by omega)] at eA
      rw [nI_1] at ey
      subst eA ey
      refine ih (f + 1) _ (by omega) (fun g hg2 => ?_) n (by omega)
      by_cases e : g = f
      · rw [e, pk_us]
      · rw [pk_un e]; exact hg g (by omega)
  exact ⟨_, k2 5 0 a_kindFound rfl (fun g hg => by omega) 6 (by decide)⟩
end
