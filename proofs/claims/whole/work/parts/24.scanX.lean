-- X cuts tokens
def xc_k (k n : Nat) : Nat := if k = 13 then 65 + n else xc_t k
theorem tx_gt {c : Nat} : tz_dg c = true ↔ 48 ≤ c ∧ c ≤ 57 := by simp [tz_dg]
theorem tx_st {c : Nat} : tz_sm c = true ↔ 97 ≤ c ∧ c ≤ 122 := by simp [tz_sm]
theorem tx_Xd {c : Nat} (hc : c ≤ 126) {post : Int32 → Prop} (h1 : tz_dg c = true → post 1) (h0 : ¬ tz_dg c = true → post 0) : wpX_isDigit post (nI c) := by
  refine pk_lt c 48 (fun h => h0 (fun q => by rw [tx_gt] at q; omega)) (fun h => pk_lt 57 c (fun h2 => h0 (fun q => by rw [tx_gt] at q; omega)) (fun h2 => h1 (tx_gt.mpr ⟨h, h2⟩)))
theorem tx_Xs {c : Nat} (hc : c ≤ 126) {post : Int32 → Prop} (h1 : tz_sm c = true → post 1) (h0 : ¬ tz_sm c = true → post 0) : wpX_isSmall post (nI c) := by
  refine pk_lt c 97 (fun h => h0 (fun q => by rw [tx_st] at q; omega)) (fun h => pk_lt 122 c (fun h2 => h0 (fun q => by rw [tx_st] at q; omega)) (fun h2 => h1 (tx_st.mpr ⟨h, h2⟩)))
theorem tx_Yd {c : Nat} (hc : c ≤ 126) {post : Int32 → Prop} (h1 : tz_dg c = true → post 1) (h0 : ¬ tz_dg c = true → post 0) : wpY_digit post (nI c) := by
  refine pk_lt c 48 (fun h => h0 (fun q => by rw [tx_gt] at q; omega)) (fun h => pk_lt 57 c (fun h2 => h0 (fun q => by rw [tx_gt] at q; omega)) (fun h2 => h1 (tx_gt.mpr ⟨h, h2⟩)))
theorem tx_Ys {c : Nat} (hc : c ≤ 126) {post : Int32 → Prop} (h1 : tz_sm c = true → post 1) (h0 : ¬ tz_sm c = true → post 0) : wpY_small post (nI c) := by
  refine pk_lt c 97 (fun h => h0 (fun q => by rw [tx_st] at q; omega)) (fun h => pk_lt 122 c (fun h2 => h0 (fun q => by rw [tx_st] at q; omega)) (fun h2 => h1 (tx_st.mpr ⟨h, h2⟩)))
def tx_P (L : Nat) (tx : Nat → Nat) (a : Nat → Int32) : Prop := L ≤ 200 ∧ ∀ i, i < L → a i = nI (tx i) ∧ 32 ≤ tx i ∧ tx i ≤ 126
section
variable {f_width f_textLength f_foundPlace f_tokenCount f_frameCount f_operandCount f_defCount f_nodeEnd : Int32} {a_text a_tokenCode a_tokenPlace a_frameCode a_framePlace a_operand a_defPlace a_defFirst a_defEnd a_nodeOp a_nodeNumber a_nodePlace a_nodeDepth a_nodeKind a_part a_size a_kindFound a_choice a_status : Nat → Int32} {a_result : Nat → Int64} {a_slotFunction a_slotArgument : Nat → Int32} {L : Nat} {tx : Nat → Nat}
theorem tx_e16 (hT : tx_P L tx a_text) {e0 e : Nat} (hR : tz_R tx L tz_dg e0 e) (he : e ≤ L) (post : Int32 → Prop) (hp : post (nI e)) :
    ∀ d i, i + d = e → e0 ≤ i → ∀ n, d < n → wX_endOfRun_16 post f_width (nI L) f_foundPlace f_tokenCount f_frameCount f_operandCount f_defCount f_nodeEnd a_text a_tokenCode a_tokenPlace a_frameCode a_framePlace a_operand a_defPlace a_defFirst a_defEnd a_nodeOp a_nodeNumber a_nodePlace a_nodeDepth a_nodeKind a_part a_size a_kindFound a_choice a_status a_result a_slotFunction a_slotArgument n (nI i) := by
  obtain ⟨hL, hT⟩ := hT
  obtain ⟨r1, r2, r3⟩ := hR
  intro d
  induction d with
  | zero =>
    intro i hi h0 n hn
    obtain ⟨n, rfl⟩ : ∃ m, n = m + 1 := ⟨n - 1, by omega⟩
    have hie : i = e := by omega
    subst hie
    by_cases hl : L ≤ i
    · exact br_t (nI_le hl (by omega)) hp
    · have hl : i < L := by omega
      refine br_f (nI_ge hl (by omega)) ⟨vp_in_nI (by omega) (by decide), ?_⟩
      rw [nI_clamp (by omega), (hT i hl).1]
      exact tx_Xd (hT i hl).2.2 (fun q => absurd ⟨hl, q⟩ r3) (fun _ => br_t rfl hp)
  | succ d ih =>
    intro i hi h0 n hn
    obtain ⟨n, rfl⟩ : ∃ m, n = m + 1 := ⟨n - 1, by omega⟩
    obtain ⟨hl, hq⟩ := r2 i h0 (by omega)
    refine br_f (nI_ge hl (by omega)) ⟨vp_in_nI (by omega) (by decide), ?_⟩
    rw [nI_clamp (by omega), (hT i hl).1]
    refine tx_Xd (hT i hl).2.2 (fun _ => bq_1 (fun y ey => ?_)) (fun q => absurd hq q)
    rw [ey, nI_1]
    exact ih (i + 1) (by omega) (by omega) n (by omega)
theorem tx_e54 (hT : tx_P L tx a_text) {e0 e : Nat} (hR : tz_R tx L tz_sm e0 e) (he : e ≤ L) (post : Int32 → Prop) (hp : post (nI e)) :
    ∀ d i, i + d = e → e0 ≤ i → ∀ n, d < n → wX_endOfRun_54 post f_width (nI L) f_foundPlace f_tokenCount f_frameCount f_operandCount f_defCount f_nodeEnd a_text a_tokenCode a_tokenPlace a_frameCode a_framePlace a_operand a_defPlace a_defFirst a_defEnd a_nodeOp a_nodeNumber a_nodePlace a_nodeDepth a_nodeKind a_part a_size a_kindFound a_choice a_status a_result a_slotFunction a_slotArgument n (nI i) := by
  obtain ⟨hL, hT⟩ := hT
  obtain ⟨r1, r2, r3⟩ := hR
  intro d
  induction d with
  | zero =>
    intro i hi h0 n hn
    obtain ⟨n, rfl⟩ : ∃ m, n = m + 1 := ⟨n - 1, by omega⟩
    have hie : i = e := by omega
    subst hie
    by_cases hl : L ≤ i
    · exact br_t (nI_le hl (by omega)) hp
    · have hl : i < L := by omega
      refine br_f (nI_ge hl (by omega)) ⟨vp_in_nI (by omega) (by decide), ?_⟩
      rw [nI_clamp (by omega), (hT i hl).1]
      exact tx_Xs (hT i hl).2.2 (fun q => absurd ⟨hl, q⟩ r3) (fun _ => br_t rfl hp)
  | succ d ih =>
    intro i hi h0 n hn
    obtain ⟨n, rfl⟩ : ∃ m, n = m + 1 := ⟨n - 1, by omega⟩
    obtain ⟨hl, hq⟩ := r2 i h0 (by omega)
    refine br_f (nI_ge hl (by omega)) ⟨vp_in_nI (by omega) (by decide), ?_⟩
    rw [nI_clamp (by omega), (hT i hl).1]
    refine tx_Xs (hT i hl).2.2 (fun _ => bq_1 (fun y ey => ?_)) (fun q => absurd hq q)
    rw [ey, nI_1]
    exact ih (i + 1) (by omega) (by omega) n (by omega)
theorem tx_Xe (hT : tx_P L tx a_text) {p : Nat} (hp : p < L) {post : Int32 → Prop} (h : post (nI (tz_end tx L p))) : wpX_endOfRun post (f_width, nI L, f_foundPlace, f_tokenCount, f_frameCount, f_operandCount, f_defCount, f_nodeEnd, a_text, a_tokenCode, a_tokenPlace, a_frameCode, a_framePlace, a_operand, a_defPlace, a_defFirst, a_defEnd, a_nodeOp, a_nodeNumber, a_nodePlace, a_nodeDepth, a_nodeKind, a_part, a_size, a_kindFound, a_choice, a_status, a_result, a_slotFunction, a_slotArgument) (nI p) := by
  have hT0 := hT
  obtain ⟨hL, hT⟩ := hT
  have hin : vp_in (nI p) 200 := vp_in_nI (by omega) (by decide)
  intro y ey
  rw [nI_1] at ey
  subst ey
  refine ⟨hin, ?_⟩
  rw [nI_clamp (by omega), (hT p hp).1]
  refine tx_Xd (hT p hp).2.2 (fun q => bq_1 ?_) (fun q => br_t rfl ⟨hin, ?_⟩)
  · have e : tz_end tx L p = tz_e tx L tz_dg (L + 1) (p + 1) := by unfold tz_end; rw [if_pos q]
    rw [e] at h
    have hR := tz_eR tx L tz_dg (L + 1) (p + 1) (by omega)
    exact ⟨_, tx_e16 hT0 hR (e ▸ (tz_el (tx := tx) hp).2) post h (tz_e tx L tz_dg (L + 1) (p + 1) - (p + 1)) (p + 1) (by have := hR.1; omega) (Nat.le_refl _) _ (Nat.lt_succ_self _)⟩
  · refine tx_Xs (hT p hp).2.2 (fun q2 => bq_1 ?_) (fun q2 => br_t rfl ?_)
    · have e : tz_end tx L p = tz_e tx L tz_sm (L + 1) (p + 1) := by unfold tz_end; rw [if_neg q, if_pos q2]
      rw [e] at h
      have hR := tz_eR tx L tz_sm (L + 1) (p + 1) (by omega)
      exact ⟨_, tx_e54 hT0 hR (e ▸ (tz_el (tx := tx) hp).2) post h (tz_e tx L tz_sm (L + 1) (p + 1) - (p + 1)) (p + 1) (by have := hR.1; omega) (Nat.le_refl _) _ (Nat.lt_succ_self _)⟩
    · have e : tz_end tx L p = p + 1 := by unfold tz_end; rw [if_neg q, if_neg q2]
      rw [e] at h; exact h
theorem tx_Xw (hT : tx_P L tx a_text) {p e : Nat} (hpe : p ≤ e) (he : e ≤ L) (post : Int32 → Prop) (h1 : tz_k (tz_w tx p (e - p)) ≠ 0 → post (tz_w tx p (e - p))) (h0 : tz_k (tz_w tx p (e - p)) = 0 → post 0) :
    ∀ d m, m + d = e - p → ∀ n, d < n → wX_codeOfWord_14 post (nI e) f_width (nI L) f_foundPlace f_tokenCount f_frameCount f_operandCount f_defCount f_nodeEnd a_text a_tokenCode a_tokenPlace a_frameCode a_framePlace a_operand a_defPlace a_defFirst a_defEnd a_nodeOp a_nodeNumber a_nodePlace a_nodeDepth a_nodeKind a_part a_size a_kindFound a_choice a_status a_result a_slotFunction a_slotArgument n (tz_w tx p m) (nI (p + m)) := by
  obtain ⟨hL, hT⟩ := hT
  intro d
  induction d with
  | zero =>
    intro m hm n hn
    obtain ⟨n, rfl⟩ : ∃ k, n = k + 1 := ⟨n - 1, by omega⟩
    have em : m = e - p := by omega
    subst em
    refine br_t (nI_le (by omega) (by omega)) ?_
    generalize tz_w tx p (e - p) = w at *
    refine br_c (fun c1 => h1 (by rw [c1]; decide)) (fun c1 => br_c (fun c2 => h1 (by rw [c2]; decide)) (fun c2 => br_c (fun c3 => h1 (by rw [c3]; decide)) (fun c3 =>
      br_c (fun c4 => h1 (by rw [c4]; decide)) (fun c4 => br_c (fun c5 => h1 (by rw [c5]; decide)) (fun c5 => br_c (fun c6 => h1 (by rw [c6]; decide)) (fun c6 =>
      br_c (fun c7 => h1 (by rw [c7]; decide)) (fun c7 => br_c (fun c8 => h1 (by rw [c8]; decide)) (fun c8 => br_c (fun c9 => h1 (by rw [c9]; decide)) (fun c9 =>
      br_c (fun c10 => h1 (by rw [c10]; decide)) (fun c10 => br_c (fun c11 => h1 (by rw [c11]; decide)) (fun c11 => h0 ?_)))))))))))
    unfold tz_k
    rw [if_neg c1, if_neg c3, if_neg c11, if_neg c10, if_neg c8, if_neg c2, if_neg c5, if_neg c7, if_neg c6, if_neg c9, if_neg c4]
  | succ d ih =>
    intro m hm n hn
    obtain ⟨n, rfl⟩ : ∃ k, n = k + 1 := ⟨n - 1, by omega⟩
    refine br_f (nI_ge (by omega) (by omega)) ⟨vp_in_nI (by omega) (by decide), fun y ey z ez => ?_⟩
    rw [nI_clamp (by omega), (hT (p + m) (by omega)).1] at ey
    rw [nI_1] at ez
    subst ey ez
    exact ih (m + 1) (by omega) n (by omega)
theorem tx_kx {w : Int32} (h : tz_k w ≠ 0) : w = nI (xc_t (tz_k w)) ∧ tz_k w ≤ 12 ∧ 2 ≤ tz_k w := by
  by_cases c0 : w = 120
  · subst c0; decide
  by_cases c1 : w = 26982
  · subst c1; decide
  by_cases c2 : w = 1952998766
  · subst c2; decide
  by_cases c3 : w = 1701606245
  · subst c3; decide
  by_cases c4 : w = 7631481
  · subst c4; decide
  by_cases c5 : w = 26724
  · subst c5; decide
  by_cases c6 : w = 29804
  · subst c6; decide
  by_cases c7 : w = 7239020
  · subst c7; decide
  by_cases c8 : w = 7235948
  · subst c8; decide
  by_cases c9 : w = 7955827
  · subst c9; decide
  by_cases c10 : w = 28271
  · subst c10; decide
  exact absurd (by unfold tz_k; rw [if_neg c0, if_neg c1, if_neg c2, if_neg c3, if_neg c4, if_neg c5, if_neg c6, if_neg c7, if_neg c8, if_neg c9, if_neg c10]) h
theorem tx_gx0 : ∀ c, c < 127 → tz_g c ≠ 0 → c = xc_t (tz_g c) ∧ 14 ≤ tz_g c ∧ tz_g c ≤ 27 := by decide +kernel
theorem tx_gx {c : Nat} (hc : c ≤ 126) (h : tz_g c ≠ 0) : c = xc_t (tz_g c) ∧ 14 ≤ tz_g c ∧ tz_g c ≤ 27 := tx_gx0 c (by omega) h
theorem tx_g27 (c : Nat) : tz_g c ≤ 27 := by
  by_cases h : c ≤ 126
  · by_cases z : tz_g c = 0
    · omega
    · exact (tx_gx h z).2.2
  · have : tz_g c = 0 := by
      unfold tz_g
      rw [if_neg (by omega), if_neg (by omega), if_neg (by omega), if_neg (by omega), if_neg (by omega), if_neg (by omega), if_neg (by omega), if_neg (by omega), if_neg (by omega), if_neg (by omega), if_neg (by omega), if_neg (by omega), if_neg (by omega), if_neg (by omega)]
    omega
theorem tx_X56 {c : Nat} (hc : c ≤ 126) {post : Int32 → Prop} (h1 : tz_g c ≠ 0 → post (nI c)) (h0 : tz_g c = 0 → post 0) : wX_codeOfToken_56 post (nI c) f_width f_textLength f_foundPlace f_tokenCount f_frameCount f_operandCount f_defCount f_nodeEnd a_text a_tokenCode a_tokenPlace a_frameCode a_framePlace a_operand a_defPlace a_defFirst a_defEnd a_nodeOp a_nodeNumber a_nodePlace a_nodeDepth a_nodeKind a_part a_size a_kindFound a_choice a_status a_result a_slotFunction a_slotArgument := by
  refine pk_eq c 33 (fun c1 => h1 (by rw [c1]; decide)) (fun c1 => pk_eq c 37 (fun c2 => h1 (by rw [c2]; decide)) (fun c2 => pk_eq c 38 (fun c3 => h1 (by rw [c3]; decide)) (fun c3 =>
      pk_eq c 40 (fun c4 => h1 (by rw [c4]; decide)) (fun c4 => pk_eq c 41 (fun c5 => h1 (by rw [c5]; decide)) (fun c5 => pk_eq c 42 (fun c6 => h1 (by rw [c6]; decide)) (fun c6 =>
      pk_eq c 43 (fun c7 => h1 (by rw [c7]; decide)) (fun c7 => pk_eq c 45 (fun c8 => h1 (by rw [c8]; decide)) (fun c8 => pk_eq c 47 (fun c9 => h1 (by rw [c9]; decide)) (fun c9 =>
      pk_eq c 58 (fun c10 => h1 (by rw [c10]; decide)) (fun c10 => pk_eq c 59 (fun c11 => h1 (by rw [c11]; decide)) (fun c11 => pk_eq c 60 (fun c12 => h1 (by rw [c12]; decide)) (fun c12 =>
      pk_eq c 61 (fun c13 => h1 (by rw [c13]; decide)) (fun c13 => pk_eq c 124 (fun c14 => h1 (by rw [c14]; decide)) (fun c14 => h0 ?_))))))))))))))
  unfold tz_g
  rw [if_neg c7, if_neg c8, if_neg c6, if_neg c9, if_neg c2, if_neg c12, if_neg c13, if_neg c3, if_neg c14, if_neg c1, if_neg c10, if_neg c11, if_neg c4, if_neg c5]
theorem tx_Xk (hT : tx_P L tx a_text) {p : Nat} (hp : p < L) {post : Int32 → Prop} (h1 : tz_kd tx L p ≠ 0 → post (nI (xc_k (tz_kd tx L p) (tz_nm tx L p)))) (h0 : tz_kd tx L p = 0 → post 0) :
    wpX_codeOfToken post (f_width, nI L, f_foundPlace, f_tokenCount, f_frameCount, f_operandCount, f_defCount, f_nodeEnd, a_text, a_tokenCode, a_tokenPlace, a_frameCode, a_framePlace, a_operand, a_defPlace, a_defFirst, a_defEnd, a_nodeOp, a_nodeNumber, a_nodePlace, a_nodeDepth, a_nodeKind, a_part, a_size, a_kindFound, a_choice, a_status, a_result, a_slotFunction, a_slotArgument) (nI p) (nI (tz_end tx L p)) := by
  have hT0 := hT
  obtain ⟨hL, hT⟩ := hT
  have he := tz_el (tx := tx) hp
  refine ⟨vp_in_nI (by omega) (by decide), fun y ey => ?_⟩
  rw [nI_clamp (by omega), (hT p hp).1] at ey
  subst ey
  refine tx_Xd (hT p hp).2.2 (fun q => bq_1 ?_) (fun q => br_t rfl ?_)
  · have e : nI (tz_end tx L p) - nI p = nI (tz_end tx L p - p) := pk_sub (by omega)
    rw [e]
    refine pk_lt 9 (tz_end tx L p - p) (fun c => h0 ?_) (fun c => ?_)
    · unfold tz_kd; rw [if_pos q, if_neg (by omega)]
    · have k1 : tz_kd tx L p = 1 := by unfold tz_kd; rw [if_pos q, if_pos (by omega)]
      rw [k1] at h1
      exact h1 (by decide)
  · refine tx_Xs (hT p hp).2.2 (fun q2 => bq_1 ?_) (fun q2 => br_t rfl ?_)
    · have e : nI (tz_end tx L p) - nI p = nI (tz_end tx L p - p) := pk_sub (by omega)
      show ((nI (tz_end tx L p) - nI p) ≤ 4 → _) ∧ (¬ (nI (tz_end tx L p) - nI p) ≤ 4 → _)
      rw [e]
      refine pk_le (tz_end tx L p - p) 4 (fun c => ?_) (fun c => h0 ?_)
      · have kk : tz_kd tx L p = tz_k (tz_w tx p (tz_end tx L p - p)) := by unfold tz_kd; rw [if_neg q, if_pos q2, if_pos c]
        rw [kk] at h1 h0
        refine ⟨_, tx_Xw hT0 (by omega) he.2 _ (fun z => ?_) h0 (tz_end tx L p - p) 0 (by omega) _ (Nat.lt_succ_self _)⟩
        have := h1 z
        obtain ⟨w1, w2, w3⟩ := tx_kx z
        unfold xc_k at this
        rw [if_neg (by omega), ← w1] at this
        exact this
      · unfold tz_kd; rw [if_neg q, if_pos q2, if_neg (by omega)]
    · have sg : (¬ (65 ≤ tx p ∧ tx p ≤ 69)) → wX_codeOfToken_56 post (nI (tx p)) f_width (nI L) f_foundPlace f_tokenCount f_frameCount f_operandCount f_defCount f_nodeEnd a_text a_tokenCode a_tokenPlace a_frameCode a_framePlace a_operand a_defPlace a_defFirst a_defEnd a_nodeOp a_nodeNumber a_nodePlace a_nodeDepth a_nodeKind a_part a_size a_kindFound a_choice a_status a_result a_slotFunction a_slotArgument := by
        intro nr
        have kk : tz_kd tx L p = tz_g (tx p) := by unfold tz_kd; rw [if_neg q, if_neg q2, if_neg nr]
        rw [kk] at h1 h0
        refine tx_X56 (hT p hp).2.2 (fun z => ?_) h0
        have := h1 z
        obtain ⟨w1, w2, w3⟩ := tx_gx (hT p hp).2.2 z
        unfold xc_k at this
        rw [if_neg (by omega), ← w1] at this
        exact this
      have hc := (hT p hp).2.2
      refine pk_lt (tx p) 65 (fun c => sg (by omega)) (fun c => pk_le 70 (tx p) (fun c2 => sg (by omega)) (fun c2 => ?_))
      have kk : tz_kd tx L p = 13 := by unfold tz_kd; rw [if_neg q, if_neg q2, if_pos (by omega)]
      have nn : tz_nm tx L p = tx p - 65 := by unfold tz_nm; rw [if_neg q, if_pos (by omega)]
      have := h1 (by rw [kk]; decide)
      unfold xc_k at this
      rw [kk, nn, if_pos rfl, (by omega : 65 + (tx p - 65) = tx p)] at this
      exact this
end
theorem tx_kd27 (tx : Nat → Nat) (L p : Nat) : tz_kd tx L p ≤ 27 := by
  have a : ∀ w, tz_k w ≤ 12 := by intro w; unfold tz_k; repeat' split
                                  all_goals decide
  unfold tz_kd
  repeat' split
  all_goals first
    | decide
    | exact Nat.le_trans (a _) (by decide)
    | exact tx_g27 _
theorem xc_kb : ∀ k, k < 28 → k ≠ 0 → xc_t k ≠ 0 ∧ xc_t k < 2 ^ 31 := by decide
theorem xc_k0 {k n : Nat} (h : k ≠ 0) (hk : k ≤ 27) (hn : n ≤ 1000) : xc_k k n ≠ 0 ∧ xc_k k n < 2 ^ 31 := by
  unfold xc_k
  by_cases e : k = 13
  · rw [if_pos e]; omega
  · rw [if_neg e]; exact xc_kb k (by omega) h
