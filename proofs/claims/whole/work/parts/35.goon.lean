-- X goes on behind an operand
theorem ms_op {f : fr_F} {fs : List fr_F} (h : 1 ≤ fr_l f.1) : ms_o (f :: fs) = ms_o fs := by
  have z : ∀ x, f.1 = x → fr_l x = 0 → False := by intro x e q; rw [e, q] at h; omega
  show (if f.1 = 26 ∨ f.1 = 7 ∨ f.1 = 8 ∨ f.1 = 9 ∨ f.1 = 13 then _ else _) = _
  rw [if_neg, if_neg (fun q => z 3 q rfl), if_neg (fun q => z 31 q rfl), if_neg (fun q => z 6 q rfl)]
  rintro (q | q | q | q | q)
  · exact z _ q rfl
  · exact z _ q rfl
  · exact z _ q rfl
  · exact z _ q rfl
  · exact z _ q rfl
theorem go_w {k b : Nat} (h1 : 14 ≤ k) (h2 : k ≤ 22) (en : rg_en b) : rg_w k b = fr_l k := by
  unfold rg_w fr_l
  repeat' split
  all_goals first
    | rfl
    | omega
theorem go_l : ∀ k, k < 28 → (2 ≤ fr_l k ∧ fr_l k ≤ 6 ↔ 14 ≤ k ∧ k ≤ 22) := by decide
theorem go_k {k n : Nat} (hk : k ≤ 27) (hn : k = 13 → n < 5) : lv_f (xc_k k n) = fr_l k := by
  unfold xc_k
  by_cases e : k = 13
  · rw [if_pos e]
    have := hn e
    have h : n = 0 ∨ n = 1 ∨ n = 2 ∨ n = 3 ∨ n = 4 := by omega
    subst e
    rcases h with h | h | h | h | h <;> subst h <;> rfl
  · rw [if_neg e]; exact lv_x k (by omega)
section
variable {f_width f_textLength f_foundPlace f_tokenCount f_frameCount f_operandCount f_defCount f_nodeEnd : Int32} {a_text a_tokenCode a_tokenPlace a_frameCode a_framePlace a_operand a_defPlace a_defFirst a_defEnd a_nodeOp a_nodeNumber a_nodePlace a_nodeDepth a_nodeKind a_part a_size a_kindFound a_choice a_status : Nat → Int32} {a_result : Nat → Int64} {a_slotFunction a_slotArgument : Nat → Int32} {L : Nat} {tx : Nat → Nat} {Tk : List tz_T} {no0 nn0 np0 pt0 : Nat → Int32} {t : Nat} {fcn ocn dcn nen : Int32} {fc fp op dp df de no nn np nd pt : Nat → Int32} {Q Q0 : Nat → Nat → Nat} {e F fr at0 lev v : Nat} {f : fr_F} {fs fs0 : List fr_F} {ops : List Nat} {dl : List df_D} {post : Int32 → SX → Prop}
-- an operator is pushed
theorem go_p (htT : t < Tk.length) (k27 : tt_k Tk t ≤ 27)
    (I : cl_I Tk F t no0 nn0 np0 pt0 Q0 Q e at0 lev (f :: fs) ops v no nn np nd pt fc fp op) (hlev : fr_l (tt_k Tk t) ≤ lev) (hl2 : 2 ≤ lev) (hfl : (tt_k Tk t = 24 ∧ fr_l f.1 < 2) ∨ (14 ≤ tt_k Tk t ∧ tt_k Tk t ≤ 22 ∧ fr_l f.1 < fr_l (tt_k Tk t)))
    (hZ : ms_o (f :: fs) = ms_o fs0 ∧ fr_B fr (f :: fs)) (hD : pa_D Tk t Q0 F fr fs0 dl dp df) (hA : df_A Tk dp df de dl) (hm : ms_f (tt_k Tk) t = some (4, ms_o fs0)) {s : Nat} (hs : s = if tt_k Tk t = 24 then 3 else 4) :
    pa_I Tk no0 nn0 np0 pt0 s (t + 1) (nI (fs.length + 1 + 1)) (nI (ops.length + 1)) (nI dl.length) (nI e) (upd fc (fs.length + 1) (nI (xc_t (tt_k Tk t)))) (upd fp (fs.length + 1) (nI (tt_p Tk t))) op dp df de no nn np nd pt := by
  obtain ⟨i1, i2, i3, i4, i5, i6, i7, i8, i9, i10, i11, i12, i13, i14⟩ := I
  obtain ⟨d1, d2, d3, d4, d5, d6, d7, d8, d9, d10⟩ := hD
  have msE := pa_ms hm
  have lk : fr_l (tt_k Tk t) ≤ 7 ∧ fr_n f.1 ≤ fr_g (tt_k Tk t) ∧ 1 ≤ fr_l (tt_k Tk t) := by
    rcases hfl with ⟨q1, q2⟩ | ⟨q1, q2, q3⟩
    · rw [q1]
      refine ⟨by decide, ?_, by decide⟩
      have : fr_g 24 = 1 := rfl
      rw [this]
      unfold fr_n
      rw [if_neg (by omega), if_neg (by omega)]; exact Nat.le_refl _
    · have lb := fr_lb ⟨q1, q2⟩
      refine ⟨by omega, ?_, by omega⟩
      have : fr_g (tt_k Tk t) = fr_l (tt_k Tk t) := by unfold fr_g; rw [if_neg (by omega), if_pos (by omega)]
      rw [this]
      unfold fr_n
      rw [if_neg (by omega)]
      split <;> omega
  have e25 : tt_k Tk t ≠ 25 := by omega
  have x1 : xp_F Tk (t + 1) ((tt_k Tk t, at0, t, t + 1) :: f :: fs) (upd fc (fs.length + 1) (nI (xc_t (tt_k Tk t)))) (upd fp (fs.length + 1) (nI (tt_p Tk t))) := by
    have := xp_Fp (st := at0) (nx := t + 1) i9 (c := tt_k Tk t) (p := t) (by omega) (by omega) rfl rfl
    rw [List.length_cons] at this
    exact this
  have S1 : fr_S (tt_k Tk) Q ((tt_k Tk t, at0, t, t + 1) :: f :: fs) (v :: ops) (t + 1) := by
    refine ⟨rfl, ⟨lk.2.1, by show tt_k Tk t ≠ 30; omega⟩, [v], ops, rfl, ?_, i1⟩
    rcases hfl with ⟨q1, q2⟩ | ⟨q1, q2, q3⟩
    · exact Or.inr (Or.inr (Or.inr (Or.inr (Or.inr (Or.inr (Or.inr (Or.inl ⟨q1, q1, v, rfl, i2, rg_Lm i3 hl2, rfl⟩)))))))
    · refine Or.inr (Or.inr (Or.inr (Or.inr (Or.inr (Or.inr (Or.inr (Or.inr ⟨⟨q1, q2⟩, rfl, ?_, v, rfl, i2, rg_Lm i3 hlev, rfl⟩)))))))
      have en := i2.2.2.2.2.2.2
      exact go_w q1 q2 en
  have mo : ms_o ((tt_k Tk t, at0, t, t + 1) :: f :: fs) = ms_o fs0 := by rw [ms_op (by show 1 ≤ fr_l (tt_k Tk t); omega)]; exact hZ.1
  rw [List.length_cons] at i11
  have dd : pa_D Tk (t + 1) Q F fr ((tt_k Tk t, at0, t, t + 1) :: f :: fs) dl dp df := by
    refine ⟨df_Cc (u := F) i14 dl fr F (Nat.le_refl _) d1, d2, d3, d4, ⟨fun q => absurd q (by show tt_k Tk t ≠ 30; omega), hZ.2⟩, fun i h1 h2 => ?_, by omega, d8, d9, d10⟩
    by_cases q : i = t
    · rw [q]; exact e25
    · exact d6 i h1 (by omega)
  rcases hfl with ⟨q1, q2⟩ | ⟨q1, q2, q3⟩
  · rw [if_pos q1] at hs
    subst hs
    refine ⟨Q, e, F, fr, (tt_k Tk t, at0, t, t + 1) :: f :: fs, v :: ops, dl, ⟨rfl, rfl, rfl, rfl, i7, i8, hA, by omega, by rw [List.length_cons, List.length_cons]; omega, by omega, ?_⟩, Or.inr (Or.inr ⟨by decide, by decide, dd, x1, i10, i5, by rw [List.length_cons]; omega, Or.inl ⟨rfl, S1, _, _, rfl, by rw [q1]; rfl⟩⟩)⟩
    rw [msE]
    have : pa_o 3 ((tt_k Tk t, at0, t, t + 1) :: f :: fs) = ms_o fs0 := mo
    rw [this, q1]; rfl
  · rw [if_neg (by omega)] at hs
    subst hs
    refine ⟨Q, e, F, fr, (tt_k Tk t, at0, t, t + 1) :: f :: fs, v :: ops, dl, ⟨rfl, rfl, rfl, rfl, i7, i8, hA, by omega, by rw [List.length_cons, List.length_cons]; omega, by omega, ?_⟩, Or.inr (Or.inr ⟨by decide, by decide, dd, x1, i10, i5, by rw [List.length_cons]; omega, Or.inr (Or.inl ⟨rfl, S1, _, _, rfl⟩)⟩)⟩
    rw [msE]
    have : pa_o 4 ((tt_k Tk t, at0, t, t + 1) :: f :: fs) = ms_o fs0 := mo
    rw [this]
    unfold ms_s
    rw [if_neg (by decide), if_neg (by decide), if_neg (by decide), if_neg (by decide), if_pos ⟨q1, q2⟩]
    rfl
theorem go_4 : ∀ c, c < 34 → (xc_t c = 4 ↔ c = 30) := by decide
theorem go_5 : ∀ c, c < 34 → (xc_t c = 5 ↔ c = 31) := by decide
theorem go_i : ∀ c, c < 34 → (xc_t c = 26982 ↔ c = 3) := by decide
theorem go_t : ∀ c, c < 34 → (xc_t c = 7631481 ↔ c = 6) := by decide
theorem go_o : ∀ c, c < 34 → (xc_t c = 40 ↔ c = 26) := by decide
-- the frame on top changes its code
theorem go_u {Tk : List tz_T} {t c c2 st p nx nx2 : Nat} {fs : List fr_F} {fc fp : Nat → Int32} (h : xp_F Tk t ((c, st, p, nx) :: fs) fc fp) (hc : c2 < 34) : xp_F Tk (t + 1) ((c2, st, p, nx2) :: fs) (upd fc fs.length (nI (xc_t c2))) fp := by
  refine ⟨?_, h.2.1, fun f hf => ?_⟩
  · have := ar_p (c := xc_t c2) h.1.2
    rw [List.length_map] at this
    exact this
  · rcases List.mem_cons.mp hf with q | q
    · rw [q]
      have := (h.2.2 (c, st, p, nx) (by simp)).2
      exact ⟨hc, by show p < t + 1; dsimp only at this; omega⟩
    · have := h.2.2 f (List.mem_cons_of_mem _ q)
      exact ⟨this.1, by omega⟩
end
