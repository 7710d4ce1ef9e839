-- X adds a node
theorem ad_3 (e i : Nat) : nI e * 3 + nI i = nI (e * 3 + i) := by
  have a : nI e * 3 = nI (e * 3) := pk_mul e 3
  rw [a, nI_add]
theorem ad_t3 : ∀ t, t < 34 → (xc_t t = 3 ↔ t = 13) := by decide
theorem ad_tb : ∀ t, t < 34 → xc_t t < 2 ^ 31 := by decide
def ad_nn (L : Nat) (tx : Nat → Nat) (t p : Nat) : Nat := if t = 13 then tx p - 65 else if tz_dg (tx p) = true then tz_n tx p (tz_end tx L p - p) else 0
section
variable {f_width f_textLength f_foundPlace f_tokenCount f_frameCount f_operandCount f_defCount f_nodeEnd : Int32} {a_text a_tokenCode a_tokenPlace a_frameCode a_framePlace a_operand a_defPlace a_defFirst a_defEnd a_nodeOp a_nodeNumber a_nodePlace a_nodeDepth a_nodeKind a_part a_size a_kindFound a_choice a_status : Nat → Int32} {a_result : Nat → Int64} {a_slotFunction a_slotArgument : Nat → Int32} {L : Nat} {tx : Nat → Nat}
theorem ad_num (hT : tx_P L tx a_text) {p : Nat} (hp : p < L) {post : Int32 → Prop} (h : post (nI (if tz_dg (tx p) = true then tz_n tx p (tz_end tx L p - p) else 0))) : wpX_numberAt post (f_width, nI L, f_foundPlace, f_tokenCount, f_frameCount, f_operandCount, f_defCount, f_nodeEnd, a_text, a_tokenCode, a_tokenPlace, a_frameCode, a_framePlace, a_operand, a_defPlace, a_defFirst, a_defEnd, a_nodeOp, a_nodeNumber, a_nodePlace, a_nodeDepth, a_nodeKind, a_part, a_size, a_kindFound, a_choice, a_status, a_result, a_slotFunction, a_slotArgument) (nI p) := by
  obtain ⟨hL, hT⟩ := hT
  by_cases q : tz_dg (tx p) = true
  · rw [if_pos q] at h
    have he := tz_el (tx := tx) hp
    have ee : tz_end tx L p = tz_e tx L tz_dg (L + 1) (p + 1) := by unfold tz_end; rw [if_pos q]
    have hR := tz_eR tx L tz_dg (L + 1) (p + 1) (by omega)
    rw [← ee] at hR
    obtain ⟨r1, r2, r3⟩ := hR
    generalize tz_end tx L p = e at *
    have key : ∀ d m, m + d = e - p → ∀ n, d < n → wX_numberAt_4 post f_width (nI L) f_foundPlace f_tokenCount f_frameCount f_operandCount f_defCount f_nodeEnd a_text a_tokenCode a_tokenPlace a_frameCode a_framePlace a_operand a_defPlace a_defFirst a_defEnd a_nodeOp a_nodeNumber a_nodePlace a_nodeDepth a_nodeKind a_part a_size a_kindFound a_choice a_status a_result a_slotFunction a_slotArgument n (nI (tz_n tx p m)) (nI (p + m)) := by
      intro d
      induction d with
      | zero =>
        intro m hm n hn
        obtain ⟨n, rfl⟩ : ∃ k, n = k + 1 := ⟨n - 1, by omega⟩
        have em : m = e - p := by omega
        subst em
        have e2 : p + (e - p) = e := by omega
        rw [e2]
        by_cases hl : L ≤ e
        · exact br_t (nI_le hl (by omega)) h
        · have hl : e < L := by omega
          have hin := vp_in_nI (n := e) (N := 200) (by omega) (by decide)
          refine br_f (nI_ge hl (by omega)) ⟨hin, ?_⟩
          rw [nI_clamp (by omega), (hT e hl).1]
          have c126 := (hT e hl).2.2
          refine pk_lt (tx e) 48 (fun _ => h) (fun c => ⟨hin, pk_lt 57 (tx e) (fun _ => h) (fun c2 => absurd ⟨hl, tx_gt.mpr ⟨c, c2⟩⟩ r3)⟩)
      | succ d ih =>
        intro m hm n hn
        obtain ⟨n, rfl⟩ : ∃ k, n = k + 1 := ⟨n - 1, by omega⟩
        have hd : tz_dg (tx (p + m)) = true := by
          by_cases z : m = 0
          · subst z; exact q
          · exact (r2 (p + m) (by omega) (by omega)).2
        have hg := tx_gt.mp hd
        have hl : p + m < L := by omega
        have hin := vp_in_nI (n := p + m) (N := 200) (by omega) (by decide)
        refine br_f (nI_ge hl (by omega)) ⟨hin, ?_⟩
        rw [nI_clamp (by omega), (hT (p + m) hl).1]
        have c126 := (hT (p + m) hl).2.2
        refine br_f (nI_nlt (b := 48) (by omega) (by omega)) ⟨hin, br_f (nI_nlt (a := 57) (by omega) (by omega)) ⟨hin, fun y ey z ez => ?_⟩⟩
        have ea : nI (tz_n tx p m) * 10 + nI (tx (p + m)) - 48 = nI (tz_n tx p (m + 1)) := by
          have a : nI (tz_n tx p m) * 10 = nI (tz_n tx p m * 10) := pk_mul _ 10
          rw [a, nI_add]
          have b : nI (tz_n tx p m * 10 + tx (p + m)) - 48 = nI (tz_n tx p m * 10 + tx (p + m) - 48) := pk_sub (b := 48) (by omega)
          rw [b]
          have c : tz_n tx p m * 10 + tx (p + m) - 48 = tz_n tx p (m + 1) := by
            show _ = tz_n tx p m * 10 + (tx (p + m) - 48)
            omega
          rw [c]
        rw [ea] at ey
        rw [nI_1] at ez
        subst ey ez
        exact ih (m + 1) (by omega) n (by omega)
    exact ⟨_, key (e - p) 0 (by omega) _ (Nat.lt_succ_self _)⟩
  · rw [if_neg q] at h
    have hin := vp_in_nI (n := p) (N := 200) (by omega) (by decide)
    refine ⟨1, br_f (nI_ge hp (by omega)) ⟨hin, ?_⟩⟩
    rw [nI_clamp (by omega), (hT p hp).1]
    have c126 := (hT p hp).2.2
    exact pk_lt (tx p) 48 (fun _ => h) (fun c => ⟨hin, pk_lt 57 (tx p) (fun _ => h) (fun c2 => absurd (tx_gt.mpr ⟨c, c2⟩) q)⟩)
variable {post : SX → Prop} {J : Int32 → Int32 → (Nat → Int32) → (Nat → Int32) → (Nat → Int32) → (Nat → Int32) → (Nat → Int32) → (Nat → Int32) → (Nat → Int32) → (Nat → Int32) → (Nat → Int32) → (Nat → Int32) → (Nat → Int32) → (Nat → Int32) → (Nat → Int32) → (Nat → Int32) → (Nat → Int32) → (Nat → Int32) → (Nat → Int32) → (Nat → Int32) → (Nat → Int32) → (Nat → Int64) → (Nat → Int32) → (Nat → Int32) → Prop} {x1 x2 : Int32}
theorem ad_y {k e dp i v dv : Nat} (hi : i < 3) (hik : i < k) (hk : k ≤ 3) (he : e < 320) (hv : v < 320) (hd : a_nodeDepth v = nI dv) (hdv : dv < 1000) (hdp : dp < 1000)
    (h : J (nI (nd_m dp dv)) (nI (i + 1)) a_text a_tokenCode a_tokenPlace a_frameCode a_framePlace a_operand a_defPlace a_defFirst a_defEnd a_nodeOp a_nodeNumber a_nodePlace a_nodeDepth a_nodeKind (upd a_part (e * 3 + i) (nI v)) a_size a_kindFound a_choice a_status a_result a_slotFunction a_slotArgument) : wX_addNode_61 post J x1 x2 (nI k) (nI e) (nI dp) (nI i) (nI v) f_width f_textLength f_foundPlace f_tokenCount f_frameCount f_operandCount f_defCount f_nodeEnd a_text a_tokenCode a_tokenPlace a_frameCode a_framePlace a_operand a_defPlace a_defFirst a_defEnd a_nodeOp a_nodeNumber a_nodePlace a_nodeDepth a_nodeKind a_part a_size a_kindFound a_choice a_status a_result a_slotFunction a_slotArgument := by
  have hin := vp_in_nI (n := v) (N := 320) hv (by decide)
  refine ⟨by rw [ad_3]; exact vp_in_nI (by omega) (by decide), fun A eA => ?_⟩
  rw [ad_3, nI_clamp (by omega)] at eA
  subst eA
  refine br_f (nI_ge hik (by omega)) ⟨hin, ?_⟩
  rw [nI_clamp (by omega), hd]
  refine pk_le dv dp (fun c => fun y ey => ?_) (fun c => ⟨hin, fun z ez y ey => ?_⟩)
  · rw [ey, nI_1]
    have : nd_m dp dv = dp := if_neg (by omega)
    rw [this] at h; exact h
  · rw [ez, ey, nI_1]
    have : nd_m dp dv = dv := if_pos c
    rw [this] at h; exact h
theorem ad_n {k e dp i : Nat} (hi : i < 3) (hik : k ≤ i) (hk : k ≤ 3) (he : e < 320)
    (h : J (nI dp) (nI (i + 1)) a_text a_tokenCode a_tokenPlace a_frameCode a_framePlace a_operand a_defPlace a_defFirst a_defEnd a_nodeOp a_nodeNumber a_nodePlace a_nodeDepth a_nodeKind (upd a_part (e * 3 + i) (nI e)) a_size a_kindFound a_choice a_status a_result a_slotFunction a_slotArgument) : wX_addNode_61 post J x1 x2 (nI k) (nI e) (nI dp) (nI i) (nI e) f_width f_textLength f_foundPlace f_tokenCount f_frameCount f_operandCount f_defCount f_nodeEnd a_text a_tokenCode a_tokenPlace a_frameCode a_framePlace a_operand a_defPlace a_defFirst a_defEnd a_nodeOp a_nodeNumber a_nodePlace a_nodeDepth a_nodeKind a_part a_size a_kindFound a_choice a_status a_result a_slotFunction a_slotArgument := by
  refine ⟨by rw [ad_3]; exact vp_in_nI (by omega) (by decide), fun A eA => ?_⟩
  rw [ad_3, nI_clamp (by omega)] at eA
  subst eA
  refine br_t (nI_le hik (by omega)) (fun y ey => ?_)
  rw [ey, nI_1]; exact h
theorem ad_i {k e dp i r v dv n : Nat} (hi : i < 3) (hk : k ≤ 3) (he : e < 320) (hr : r + k ≤ 200) (hdp : dp < 1000)
    (c : (i < k → a_operand (r + i) = nI v ∧ v < 320 ∧ a_nodeDepth v = nI dv ∧ dv < 1000) ∧ (¬ i < k → v = e))
    (h : wX_addNode_32 post x1 x2 (nI k) (nI e) f_width f_textLength f_foundPlace f_tokenCount f_frameCount (nI r) f_defCount f_nodeEnd n (nI (if i < k then nd_m dp dv else dp)) (nI (i + 1)) a_text a_tokenCode a_tokenPlace a_frameCode a_framePlace a_operand a_defPlace a_defFirst a_defEnd a_nodeOp a_nodeNumber a_nodePlace a_nodeDepth a_nodeKind (upd a_part (e * 3 + i) (nI v)) a_size a_kindFound a_choice a_status a_result a_slotFunction a_slotArgument) :
    wX_addNode_32 post x1 x2 (nI k) (nI e) f_width f_textLength f_foundPlace f_tokenCount f_frameCount (nI r) f_defCount f_nodeEnd (n + 1) (nI dp) (nI i) a_text a_tokenCode a_tokenPlace a_frameCode a_framePlace a_operand a_defPlace a_defFirst a_defEnd a_nodeOp a_nodeNumber a_nodePlace a_nodeDepth a_nodeKind a_part a_size a_kindFound a_choice a_status a_result a_slotFunction a_slotArgument := by
  refine br_f (nI_ge (b := 3) hi (by decide)) ?_
  by_cases hik : i < k
  · obtain ⟨c1, c2, c3, c4⟩ := c.1 hik
    rw [if_pos hik] at h
    refine br_f (nI_ge hik (by omega)) ⟨by rw [nI_add]; exact vp_in_nI (by omega) (by decide), ?_⟩
    rw [nI_add, nI_clamp (by omega), c1]
    exact ad_y hi hik hk he c2 c3 c4 hdp h
  · rw [if_neg hik] at h
    have ev := c.2 hik
    subst ev
    exact br_t (nI_le (by omega) (by omega)) (ad_n hi (by omega) hk he h)
theorem ad_X (hT : tx_P L tx a_text) {k e r t p v0 v1 v2 d0 d1 d2 : Nat} (hk : k ≤ 3) (he : e < 320) (hr : r + k ≤ 200) (hr2 : r < 200) (ht : t < 34) (hp : p < L) (h65 : t = 13 → 65 ≤ tx p)
    (c0 : (0 < k → a_operand r = nI v0 ∧ v0 < 320 ∧ a_nodeDepth v0 = nI d0 ∧ d0 < 1000) ∧ (¬ 0 < k → v0 = e))
    (c1 : (1 < k → a_operand (r + 1) = nI v1 ∧ v1 < 320 ∧ a_nodeDepth v1 = nI d1 ∧ d1 < 1000) ∧ (¬ 1 < k → v1 = e))
    (c2 : (2 < k → a_operand (r + 2) = nI v2 ∧ v2 < 320 ∧ a_nodeDepth v2 = nI d2 ∧ d2 < 1000) ∧ (¬ 2 < k → v2 = e))
    {D0 D1 D2 : Nat} (e0 : D0 = if 0 < k then nd_m 0 d0 else 0) (e1 : D1 = if 1 < k then nd_m D0 d1 else D0) (e2 : D2 = if 2 < k then nd_m D1 d2 else D1)
    (h : post (f_width, nI L, f_foundPlace, f_tokenCount, f_frameCount, nI (r + 1), f_defCount, nI (e + 1), a_text, a_tokenCode, a_tokenPlace, a_frameCode, a_framePlace, upd a_operand r (nI e), a_defPlace, a_defFirst, a_defEnd, upd a_nodeOp e (nI (xc_t t)), upd a_nodeNumber e (nI (ad_nn L tx t p)), upd a_nodePlace e (nI p), upd a_nodeDepth e (nI (D2 + 1)), a_nodeKind, upd (upd (upd a_part (e * 3 + 0) (nI v0)) (e * 3 + 1) (nI v1)) (e * 3 + 2) (nI v2), a_size, a_kindFound, a_choice, a_status, a_result, a_slotFunction, a_slotArgument)) :
    wpX_addNode post (f_width, nI L, f_foundPlace, f_tokenCount, f_frameCount, nI (r + k), f_defCount, nI e, a_text, a_tokenCode, a_tokenPlace, a_frameCode, a_framePlace, a_operand, a_defPlace, a_defFirst, a_defEnd, a_nodeOp, a_nodeNumber, a_nodePlace, a_nodeDepth, a_nodeKind, a_part, a_size, a_kindFound, a_choice, a_status, a_result, a_slotFunction, a_slotArgument) (nI (xc_t t)) (nI p) (nI k) := by
  have hL := hT.1
  have m1000 : ∀ a b : Nat, a < 1000 → b < 1000 → nd_m a b < 1000 := by
    intro a b ha hb; unfold nd_m; split <;> omega
  have b0 : D0 < 1000 := by
    rw [e0]; split
    · rename_i q; exact m1000 _ _ (by omega) (c0.1 q).2.2.2
    · omega
  have b1 : D1 < 1000 := by
    rw [e1]; split
    · rename_i q; exact m1000 _ _ b0 (c1.1 q).2.2.2
    · exact b0
  have b2 : D2 < 1000 := by
    rw [e2]; split
    · rename_i q; exact m1000 _ _ b1 (c2.1 q).2.2.2
    · exact b1
  intro A eA B eB
  rw [nI_1] at eA
  rw [pk_sub (by omega : k ≤ r + k), Nat.add_sub_cancel] at eB
  subst eA eB
  refine ⟨4, ?_⟩
  refine ad_i (i := 0) (dp := 0) (by omega) hk he hr (by omega) c0 ?_
  rw [← e0]
  refine ad_i (i := 1) (by omega) hk he hr b0 c1 ?_
  rw [← e1]
  refine ad_i (i := 2) (by omega) hk he hr b1 c2 ?_
  rw [← e2]
  have hin := vp_in_nI (n := e) (N := 320) he (by decide)
  have tb := ad_tb t ht
  refine br_t (nI_le (a := 3) (by decide) (by decide)) ⟨hin, fun A eA => ⟨hin, fun B eB => ⟨hin, fun C eC => ?_⟩⟩⟩
  rw [nI_clamp (by omega)] at eA eB eC
  rw [nI_1] at eC
  subst eA eB eC
  have fin : ∀ N, N = ad_nn L tx t p → wX_addNode_165 post (nI e) (nI N) (nI e) f_width (nI L) f_foundPlace f_tokenCount f_frameCount (nI r) f_defCount (nI (e + 1)) a_text a_tokenCode a_tokenPlace a_frameCode a_framePlace a_operand a_defPlace a_defFirst a_defEnd (upd a_nodeOp e (nI (xc_t t))) a_nodeNumber (upd a_nodePlace e (nI p)) (upd a_nodeDepth e (nI (D2 + 1))) a_nodeKind (upd (upd (upd a_part (e * 3 + 0) (nI v0)) (e * 3 + 1) (nI v1)) (e * 3 + 2) (nI v2)) a_size a_kindFound a_choice a_status a_result a_slotFunction a_slotArgument := by
    intro N eN
    refine ⟨hin, fun A eA => ⟨vp_in_nI (by omega) (by decide), fun B eB C eC => ?_⟩⟩
    rw [nI_clamp (by omega)] at eA eB
    rw [nI_1] at eC
    rw [eN] at eA
    subst eA eB eC
    exact h
  refine pk_eq (xc_t t) 3 (fun c => ?_) (fun c => ?_)
  · have t13 := (ad_t3 t ht).mp c
    refine ⟨vp_in_nI (by omega) (by decide), ?_⟩
    rw [nI_clamp (by omega), (hT.2 p hp).1]
    have hs : nI (tx p) - 65 = nI (tx p - 65) := pk_sub (b := 65) (h65 t13)
    rw [hs]
    exact fin _ (by unfold ad_nn; rw [if_pos t13])
  · have t13 : ¬ t = 13 := fun q => c ((ad_t3 t ht).mpr q)
    exact ad_num hT hp (fin _ (by unfold ad_nn; rw [if_neg t13]))
end
