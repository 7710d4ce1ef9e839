-- chains of tokens, and X's loop over the text
section
variable {tx : Nat → Nat} {L : Nat}
theorem tz_Cs {p : Nat} : ∀ (l : List tz_T) (e : Option Nat), tz_C tx L p l e → p < L → tx p = 32 → tz_C tx L (p + 1) l e := by
  intro l e h hp hb
  have cut : ∀ q, tz_b tx p q → tz_b tx (p + 1) q := fun q h i h1 h2 => h i (by omega) h2
  cases l with
  | nil =>
    cases e with
    | none => exact cut _ h
    | some f =>
      obtain ⟨h1, h2, h3, h4, h5⟩ := h
      have : p ≠ f := fun q => by rw [q] at hb; exact h4 hb
      exact ⟨by omega, h2, cut _ h3, h4, h5⟩
  | cons t l =>
    obtain ⟨h1, h2, h3, h4, h5⟩ := h
    have : p ≠ t.2.2.1 := fun q => by rw [q] at hb; exact h4 hb
    exact ⟨by omega, h2, cut _ h3, h4, h5⟩
theorem tz_Ch {p : Nat} : ∀ (l : List tz_T) (e : Option Nat), tz_C tx L p l e → p < L → tx p ≠ 32 →
    (∃ r, l = tz_t tx L p :: r ∧ tz_kd tx L p ≠ 0 ∧ tz_C tx L (tz_end tx L p) r e) ∨ (l = [] ∧ e = some p ∧ tz_kd tx L p = 0) := by
  intro l e h hp hb
  cases l with
  | nil =>
    cases e with
    | none => exact absurd (h p (Nat.le_refl _) hp) hb
    | some f =>
      obtain ⟨h1, h2, h3, h4, h5⟩ := h
      have : p = f := by
        rcases Nat.lt_or_ge p f with q | q
        · exact absurd (h3 p (Nat.le_refl _) q) hb
        · omega
      subst this
      exact Or.inr ⟨rfl, rfl, h5⟩
  | cons t l =>
    obtain ⟨h1, h2, h3, h4, h5, h6, h7⟩ := h
    have e1 : p = t.2.2.1 := by
      rcases Nat.lt_or_ge p t.2.2.1 with q | q
      · exact absurd (h3 p (Nat.le_refl _) q) hb
      · omega
    rw [← e1] at h5
    subst h5
    exact Or.inl ⟨l, rfl, h6, h7⟩
theorem tz_Cz {p : Nat} : ∀ (l : List tz_T) (e : Option Nat), tz_C tx L p l e → L ≤ p → l = [] ∧ e = none := by
  intro l e h hp
  cases l with
  | nil =>
    cases e with
    | none => exact ⟨rfl, rfl⟩
    | some f => obtain ⟨h1, h2, _⟩ := h; omega
  | cons t l => obtain ⟨h1, h2, _⟩ := h; omega
theorem tz_Ci : ∀ (l : List tz_T) (p : Nat) (e : Option Nat), tz_C tx L p l e → ∀ (i : Nat) (t : tz_T), l[i]? = some t → p ≤ t.2.2.1 ∧ t.2.2.1 < L ∧ t = tz_t tx L t.2.2.1 ∧ t.1 ≠ 0 := by
  intro l
  induction l with
  | nil => intro p e _ i t h; simp at h
  | cons a l ih =>
    intro p e h i t hi
    obtain ⟨h1, h2, h3, h4, h5, h6, h7⟩ := h
    cases i with
    | zero =>
      simp at hi
      subst hi
      exact ⟨h1, h2, h5, h6⟩
    | succ i =>
      simp at hi
      obtain ⟨q1, q2⟩ := ih _ _ h7 i t hi
      have x := tz_el (tx := tx) h2
      have y : a.2.2.2 = tz_end tx L a.2.2.1 := by rw [h5]; rfl
      exact ⟨by omega, q2⟩
theorem tz_Cm : ∀ (l : List tz_T) (p : Nat) (e : Option Nat), tz_C tx L p l e → ∀ (i j : Nat) (t s : tz_T), i < j → l[i]? = some t → l[j]? = some s → t.2.2.1 < s.2.2.1 := by
  intro l
  induction l with
  | nil => intro p e _ i j t s _ h; simp at h
  | cons a l ih =>
    intro p e h i j t s hij hi hj
    obtain ⟨h1, h2, h3, h4, h5, h6, h7⟩ := h
    obtain ⟨j, rfl⟩ : ∃ k, j = k + 1 := ⟨j - 1, by omega⟩
    simp at hj
    cases i with
    | zero =>
      simp at hi
      subst hi
      have q := (tz_Ci l _ _ h7 j s hj).1
      have x := tz_el (tx := tx) h2
      have y : a.2.2.2 = tz_end tx L a.2.2.1 := by rw [h5]; rfl
      omega
    | succ i =>
      simp at hi
      exact ih _ _ h7 i j t s (by omega) hi hj
end
def tt_k (Tk : List tz_T) (i : Nat) : Nat := (Tk[i]?.getD (0, 0, 0, 0)).1
def tt_n (Tk : List tz_T) (i : Nat) : Nat := (Tk[i]?.getD (0, 0, 0, 0)).2.1
def tt_p (Tk : List tz_T) (i : Nat) : Nat := (Tk[i]?.getD (0, 0, 0, 0)).2.2.1
theorem tt_s {Tk : List tz_T} {i : Nat} {t : tz_T} (h : Tk[i]? = some t) : tt_k Tk i = t.1 ∧ tt_n Tk i = t.2.1 ∧ tt_p Tk i = t.2.2.1 := by
  unfold tt_k tt_n tt_p; rw [h]; exact ⟨rfl, rfl, rfl⟩
theorem tt_d {Tk : List tz_T} {m : Nat} {t : tz_T} {r : List tz_T} (h : Tk.drop m = t :: r) : Tk[m]? = some t ∧ Tk.drop (m + 1) = r ∧ m < Tk.length := by
  have a : (Tk.drop m)[0]? = some t := by rw [h]; rfl
  rw [List.getElem?_drop, Nat.add_zero] at a
  have b : m < Tk.length := by
    rcases Nat.lt_or_ge m Tk.length with q | q
    · exact q
    · rw [List.getElem?_eq_none q] at a; exact absurd a (by simp)
  refine ⟨a, ?_, b⟩
  have c : Tk.drop (m + 1) = (Tk.drop m).drop 1 := by rw [List.drop_drop]
  rw [c, h]; rfl
def tx_TX (Tk : List tz_T) (m : Nat) (tc tp : Nat → Int32) : Prop := ∀ i, i < m → tc i = nI (xc_k (tt_k Tk i) (tt_n Tk i)) ∧ tp i = nI (tt_p Tk i)
theorem tx_TXs {Tk : List tz_T} {m : Nat} {tc tp : Nat → Int32} {t : tz_T} (h : tx_TX Tk m tc tp) (ht : Tk[m]? = some t) : tx_TX Tk (m + 1) (upd tc m (nI (xc_k t.1 t.2.1))) (upd tp m (nI t.2.2.1)) := by
  obtain ⟨a, b, c⟩ := tt_s ht
  intro i hi
  by_cases e : i = m
  · subst e; rw [pk_us, pk_us, a, b, c]; exact ⟨rfl, rfl⟩
  · rw [pk_un e, pk_un e]; exact h i (by omega)
section
variable {f_width f_textLength f_foundPlace f_tokenCount f_frameCount f_operandCount f_defCount f_nodeEnd : Int32} {a_text a_tokenCode a_tokenPlace a_frameCode a_framePlace a_operand a_defPlace a_defFirst a_defEnd a_nodeOp a_nodeNumber a_nodePlace a_nodeDepth a_nodeKind a_part a_size a_kindFound a_choice a_status : Nat → Int32} {a_result : Nat → Int64} {a_slotFunction a_slotArgument : Nat → Int32} {L : Nat} {tx : Nat → Nat}
theorem tx_nm1 (hT : tx_P L tx a_text) {p : Nat} (hp : p < L) (hk : tz_kd tx L p = 13) : tz_nm tx L p < 5 := by
  have hc := (hT.2 p hp).2.2
  unfold tz_kd at hk
  unfold tz_nm
  by_cases q : tz_dg (tx p) = true
  · rw [if_pos q] at hk; split at hk <;> omega
  · rw [if_neg q] at hk ⊢
    by_cases q2 : tz_sm (tx p) = true
    · rw [if_pos q2] at hk
      split at hk
      · have a : ∀ w, tz_k w ≤ 12 := by intro w; unfold tz_k; repeat' split
                                        all_goals decide
        have := a (tz_w tx p (tz_end tx L p - p)); omega
      · omega
    · rw [if_neg q2] at hk
      by_cases q3 : 65 ≤ tx p ∧ tx p ≤ 69
      · rw [if_pos q3]; omega
      · rw [if_neg q3]; omega
theorem tx_X9 (hT : tx_P L tx a_text) {Tk : List tz_T} {e : Option Nat} (hTk : Tk.length ≤ L) (post : Int32 → SX → Prop)
    (h1 : e = none → ∀ tc tp, tx_TX Tk Tk.length tc tp → post 1 (f_width, nI L, f_foundPlace, nI Tk.length, f_frameCount, f_operandCount, f_defCount, f_nodeEnd, a_text, tc, tp, a_frameCode, a_framePlace, a_operand, a_defPlace, a_defFirst, a_defEnd, a_nodeOp, a_nodeNumber, a_nodePlace, a_nodeDepth, a_nodeKind, a_part, a_size, a_kindFound, a_choice, a_status, a_result, a_slotFunction, a_slotArgument))
    (h2 : ∀ f, e = some f → f < L → ∀ m tc tp, post 2 (f_width, nI L, nI f, m, f_frameCount, f_operandCount, f_defCount, f_nodeEnd, a_text, tc, tp, a_frameCode, a_framePlace, a_operand, a_defPlace, a_defFirst, a_defEnd, a_nodeOp, a_nodeNumber, a_nodePlace, a_nodeDepth, a_nodeKind, a_part, a_size, a_kindFound, a_choice, a_status, a_result, a_slotFunction, a_slotArgument)) :
    ∀ d i nx m tc tp, i + d = L → nx ≤ L → tz_C tx L (if i < nx then nx else i) (Tk.drop m) e → m ≤ Tk.length → tx_TX Tk m tc tp → ∀ n, d < n →
      wX_cutTokens_9 post f_width (nI L) f_foundPlace f_frameCount f_operandCount f_defCount f_nodeEnd n (nI nx) (nI i) (nI m) a_text tc tp a_frameCode a_framePlace a_operand a_defPlace a_defFirst a_defEnd a_nodeOp a_nodeNumber a_nodePlace a_nodeDepth a_nodeKind a_part a_size a_kindFound a_choice a_status a_result a_slotFunction a_slotArgument := by
  have hL := hT.1
  intro d
  induction d with
  | zero =>
    intro i nx m tc tp hi hnx hC hm hTX n hn
    obtain ⟨n, rfl⟩ : ∃ k, n = k + 1 := ⟨n - 1, by omega⟩
    have ei : i = L := by omega
    subst ei
    rw [if_neg (by omega)] at hC
    obtain ⟨z1, z2⟩ := tz_Cz _ _ hC (Nat.le_refl _)
    have z3 : m = Tk.length := by
      have := List.drop_eq_nil_iff.mp z1; omega
    subst z3
    exact br_t (nI_le (Nat.le_refl _) (by omega)) (h1 z2 tc tp hTX)
  | succ d ih =>
    intro i nx m tc tp hi hnx hC hm hTX n hn
    obtain ⟨n, rfl⟩ : ∃ k, n = k + 1 := ⟨n - 1, by omega⟩
    have il : i < L := by omega
    refine br_f (nI_ge il (by omega)) ?_
    by_cases c : i < nx
    · rw [if_pos c] at hC
      refine br_t (nI_lt c (by omega)) (fun y ey => ?_)
      rw [ey, nI_1]
      refine ih (i + 1) nx m tc tp (by omega) hnx ?_ hm hTX n (by omega)
      by_cases c2 : i + 1 < nx
      · rw [if_pos c2]; exact hC
      · rw [if_neg c2, (by omega : i + 1 = nx)]; exact hC
    · rw [if_neg c] at hC
      refine br_f (nI_nlt (by omega) (by omega)) ⟨vp_in_nI (by omega) (by decide), ?_⟩
      rw [nI_clamp (by omega), (hT.2 i il).1]
      have c126 := (hT.2 i il).2.2
      refine pk_eq (tx i) 32 (fun b => fun y ey => ?_) (fun b => ?_)
      · rw [ey, nI_1]
        refine ih (i + 1) nx m tc tp (by omega) hnx ?_ hm hTX n (by omega)
        rw [if_neg (by omega)]
        exact tz_Cs _ _ hC il b
      · refine tx_Xe hT il ?_
        have he := tz_el (tx := tx) il
        rcases tz_Ch _ _ hC il b with ⟨r, z1, z2, z3⟩ | ⟨z1, z2, z3⟩
        · obtain ⟨a1, a2, a3⟩ := tt_d z1
          have k27 := tx_kd27 tx L i
          have xk : xc_k (tz_kd tx L i) (tz_nm tx L i) ≠ 0 ∧ xc_k (tz_kd tx L i) (tz_nm tx L i) < 2 ^ 31 := by
            unfold xc_k
            by_cases e13 : tz_kd tx L i = 13
            · rw [if_pos e13]; have := tx_nm1 hT il e13; omega
            · rw [if_neg e13]; exact xc_kb _ (by omega) z2
          refine tx_Xk hT il (fun _ => br_f (nI_ne0 (by omega) xk.2) ⟨vp_in_nI (by omega) (by decide), fun A eA => ⟨vp_in_nI (by omega) (by decide), fun B eB C eC D eD => ?_⟩⟩) (fun q => absurd q z2)
          rw [nI_clamp (by omega)] at eA eB
          rw [nI_1] at eC eD
          subst eA eB eC eD
          refine ih (i + 1) _ (m + 1) _ _ (by omega) he.2 ?_ (by omega) (tx_TXs hTX a1) n (by omega)
          rw [a2]
          by_cases c3 : i + 1 < tz_end tx L i
          · rw [if_pos c3]; exact z3
          · rw [if_neg c3, (by omega : i + 1 = tz_end tx L i)]; exact z3
        · exact tx_Xk hT il (fun q => absurd z3 q) (fun _ => br_t rfl (h2 i z2 il _ _ _))
theorem tx_Xc (hT : tx_P L tx a_text) {Tk : List tz_T} {e : Option Nat} (hC : tz_C tx L 0 Tk e) (post : Int32 → SX → Prop)
    (h1 : e = none → ∀ tc tp, tx_TX Tk Tk.length tc tp → post 1 (f_width, nI L, f_foundPlace, nI Tk.length, f_frameCount, f_operandCount, f_defCount, f_nodeEnd, a_text, tc, tp, a_frameCode, a_framePlace, a_operand, a_defPlace, a_defFirst, a_defEnd, a_nodeOp, a_nodeNumber, a_nodePlace, a_nodeDepth, a_nodeKind, a_part, a_size, a_kindFound, a_choice, a_status, a_result, a_slotFunction, a_slotArgument))
    (h2 : ∀ f, e = some f → f < L → ∀ m tc tp, post 2 (f_width, nI L, nI f, m, f_frameCount, f_operandCount, f_defCount, f_nodeEnd, a_text, tc, tp, a_frameCode, a_framePlace, a_operand, a_defPlace, a_defFirst, a_defEnd, a_nodeOp, a_nodeNumber, a_nodePlace, a_nodeDepth, a_nodeKind, a_part, a_size, a_kindFound, a_choice, a_status, a_result, a_slotFunction, a_slotArgument)) :
    wpX_cutTokens post (f_width, nI L, f_foundPlace, f_tokenCount, f_frameCount, f_operandCount, f_defCount, f_nodeEnd, a_text, a_tokenCode, a_tokenPlace, a_frameCode, a_framePlace, a_operand, a_defPlace, a_defFirst, a_defEnd, a_nodeOp, a_nodeNumber, a_nodePlace, a_nodeDepth, a_nodeKind, a_part, a_size, a_kindFound, a_choice, a_status, a_result, a_slotFunction, a_slotArgument) := by
  have hl := tz_len Tk 0 e hC (Nat.zero_le _)
  exact ⟨L + 1, tx_X9 hT (by omega) post h1 h2 L 0 0 0 a_tokenCode a_tokenPlace (by omega) (by omega) (by rw [if_neg (by omega)]; exact hC) (Nat.zero_le _) (fun i hi => absurd hi (Nat.not_lt_zero i)) _ (Nat.lt_succ_self _)⟩
end
