-- Y scans
theorem sy_e {post : Int32 → Prop} {k : Nat} (j : Nat) (h : post (nI k)) (e : k = j) : post (nI j) := e ▸ h
theorem sy_sign {c : Nat} (hc : c ≤ 126) {post : Int32 → Prop} (h : post (nI (tz_g c))) : wpY_sign post (nI c) := by
  refine pk_eq c 33 (fun c1 => sy_e 23 h (by rw [c1]; rfl)) (fun c1 => pk_eq c 37 (fun c2 => sy_e 18 h (by rw [c2]; rfl)) (fun c2 => pk_eq c 38 (fun c3 => sy_e 21 h (by rw [c3]; rfl)) (fun c3 =>
      pk_eq c 40 (fun c4 => sy_e 26 h (by rw [c4]; rfl)) (fun c4 => pk_eq c 41 (fun c5 => sy_e 27 h (by rw [c5]; rfl)) (fun c5 => pk_eq c 42 (fun c6 => sy_e 16 h (by rw [c6]; rfl)) (fun c6 =>
      pk_eq c 43 (fun c7 => sy_e 14 h (by rw [c7]; rfl)) (fun c7 => pk_eq c 45 (fun c8 => sy_e 15 h (by rw [c8]; rfl)) (fun c8 => pk_eq c 47 (fun c9 => sy_e 17 h (by rw [c9]; rfl)) (fun c9 =>
      pk_eq c 58 (fun c10 => sy_e 24 h (by rw [c10]; rfl)) (fun c10 => pk_eq c 59 (fun c11 => sy_e 25 h (by rw [c11]; rfl)) (fun c11 => pk_eq c 60 (fun c12 => sy_e 19 h (by rw [c12]; rfl)) (fun c12 =>
      pk_eq c 61 (fun c13 => sy_e 20 h (by rw [c13]; rfl)) (fun c13 => pk_eq c 124 (fun c14 => sy_e 22 h (by rw [c14]; rfl)) (fun c14 => sy_e 0 h ?_))))))))))))))
  unfold tz_g
  rw [if_neg c7, if_neg c8, if_neg c6, if_neg c9, if_neg c2, if_neg c12, if_neg c13, if_neg c3, if_neg c14, if_neg c1, if_neg c10, if_neg c11, if_neg c4, if_neg c5]
theorem sy_word {w : Int32} {post : Int32 → Prop} (h : post (nI (tz_k w))) : wpY_word post w := by
  refine br_c (fun c1 => sy_e 2 h (by rw [c1]; rfl)) (fun c1 => br_c (fun c2 => sy_e 3 h (by rw [c2]; rfl)) (fun c2 => br_c (fun c3 => sy_e 4 h (by rw [c3]; rfl)) (fun c3 =>
      br_c (fun c4 => sy_e 5 h (by rw [c4]; rfl)) (fun c4 => br_c (fun c5 => sy_e 6 h (by rw [c5]; rfl)) (fun c5 => br_c (fun c6 => sy_e 7 h (by rw [c6]; rfl)) (fun c6 =>
      br_c (fun c7 => sy_e 8 h (by rw [c7]; rfl)) (fun c7 => br_c (fun c8 => sy_e 9 h (by rw [c8]; rfl)) (fun c8 => br_c (fun c9 => sy_e 10 h (by rw [c9]; rfl)) (fun c9 =>
      br_c (fun c10 => sy_e 11 h (by rw [c10]; rfl)) (fun c10 => br_c (fun c11 => sy_e 12 h (by rw [c11]; rfl)) (fun c11 => sy_e 0 h ?_)))))))))))
  unfold tz_k
  rw [if_neg c1, if_neg c2, if_neg c3, if_neg c4, if_neg c5, if_neg c6, if_neg c7, if_neg c8, if_neg c9, if_neg c10, if_neg c11]
def tx_TY (Tk : List tz_T) (m : Nat) (tc tn tp : Nat → Int32) : Prop := ∀ i, i < m → tc i = nI (tt_k Tk i) ∧ tn i = nI (tt_n Tk i) ∧ tp i = nI (tt_p Tk i)
theorem tx_TYs {Tk : List tz_T} {m : Nat} {tc tn tp : Nat → Int32} {t : tz_T} (h : tx_TY Tk m tc tn tp) (ht : Tk[m]? = some t) : tx_TY Tk (m + 1) (upd tc m (nI t.1)) (upd tn m (nI t.2.1)) (upd tp m (nI t.2.2.1)) := by
  obtain ⟨a, b, c⟩ := tt_s ht
  intro i hi
  by_cases e : i = m
  · subst e; rw [pk_us, pk_us, pk_us, a, b, c]; exact ⟨rfl, rfl, rfl⟩
  · rw [pk_un e, pk_un e, pk_un e]; exact h i (by omega)
section
variable {f_width f_length f_place f_toks f_nodes f_defs : Int32} {a_text a_tok a_tokNum a_tokPlace a_opened a_nOp a_nNum a_nPlace a_nA a_nB a_nC a_nLo a_nHi a_nLevel a_defName a_defPlace a_defRoot a_loaded a_count a_status : Nat → Int32} {a_number : Nat → Int64} {a_origin a_choice a_slotF a_slotX a_slotHeld : Nat → Int32} {L : Nat} {tx : Nat → Nat} {post : Int32 → SY → Prop} {J : Int32 → Int32 → (Nat → Int32) → (Nat → Int32) → (Nat → Int32) → (Nat → Int32) → (Nat → Int32) → (Nat → Int32) → (Nat → Int32) → (Nat → Int32) → (Nat → Int32) → (Nat → Int32) → (Nat → Int32) → (Nat → Int32) → (Nat → Int32) → (Nat → Int32) → (Nat → Int32) → (Nat → Int32) → (Nat → Int32) → (Nat → Int32) → (Nat → Int32) → (Nat → Int32) → (Nat → Int64) → (Nat → Int32) → (Nat → Int32) → (Nat → Int32) → (Nat → Int32) → (Nat → Int32) → Prop}
theorem sy_170 (hT : tx_P L tx a_text) {p e : Nat} (hp : p < e) (he : e ≤ L) (x5 : Int32) (R : wY_scan_245 post J (nI p) (nI e) (nI (if e - p ≤ 4 then tz_k (tz_w tx p (e - p)) else 0)) x5 f_width (nI L) f_place f_toks f_nodes f_defs a_text a_tok a_tokNum a_tokPlace a_opened a_nOp a_nNum a_nPlace a_nA a_nB a_nC a_nLo a_nHi a_nLevel a_defName a_defPlace a_defRoot a_loaded a_count a_status a_number a_origin a_choice a_slotF a_slotX a_slotHeld) :
    ∃ n, wY_scan_170 post J (nI p) (nI e) x5 f_width (nI L) f_place f_toks f_nodes f_defs a_text a_tok a_tokNum a_tokPlace a_opened a_nOp a_nNum a_nPlace a_nA a_nB a_nC a_nLo a_nHi a_nLevel a_defName a_defPlace a_defRoot a_loaded a_count a_status a_number a_origin a_choice a_slotF a_slotX a_slotHeld n 0 (nI p) := by
  obtain ⟨hL, hT⟩ := hT
  have es : nI e - nI p = nI (e - p) := pk_sub (by omega)
  by_cases c : e - p ≤ 4
  · rw [if_pos c] at R
    have key : ∀ d m, m + d = e - p → ∀ n, d < n → wY_scan_170 post J (nI p) (nI e) x5 f_width (nI L) f_place f_toks f_nodes f_defs a_text a_tok a_tokNum a_tokPlace a_opened a_nOp a_nNum a_nPlace a_nA a_nB a_nC a_nLo a_nHi a_nLevel a_defName a_defPlace a_defRoot a_loaded a_count a_status a_number a_origin a_choice a_slotF a_slotX a_slotHeld n (tz_w tx p m) (nI (p + m)) := by
      intro d
      induction d with
      | zero =>
        intro m hm n hn
        obtain ⟨n, rfl⟩ : ∃ k, n = k + 1 := ⟨n - 1, by omega⟩
        have em : m = e - p := by omega
        subst em
        exact br_t (nI_le (by omega) (by omega)) (sy_word R)
      | succ d ih =>
        intro m hm n hn
        obtain ⟨n, rfl⟩ : ∃ k, n = k + 1 := ⟨n - 1, by omega⟩
        refine br_f (nI_ge (by omega) (by omega)) ?_
        rw [es]
        refine br_f (nI_nlt (a := 4) c (by omega)) ⟨vp_in_nI (by omega) (by decide), fun y ey z ez => ?_⟩
        rw [nI_clamp (by omega), (hT (p + m) (by omega)).1] at ey
        rw [nI_1] at ez
        subst ey ez
        exact ih (m + 1) (by omega) n (by omega)
    exact ⟨_, key (e - p) 0 (by omega) _ (Nat.lt_succ_self _)⟩
  · rw [if_neg c] at R
    refine ⟨1, br_f (nI_ge hp (by omega)) ?_⟩
    rw [es]
    exact br_t (nI_lt (a := 4) (by omega) (by omega)) (sy_word R)
theorem sy_138 (hT : tx_P L tx a_text) {p e : Nat} (hp : p < e) (he : e ≤ L) (hR : tz_R tx L tz_sm (p + 1) e) (x5 : Int32) (R : wY_scan_245 post J (nI p) (nI e) (nI (if e - p ≤ 4 then tz_k (tz_w tx p (e - p)) else 0)) x5 f_width (nI L) f_place f_toks f_nodes f_defs a_text a_tok a_tokNum a_tokPlace a_opened a_nOp a_nNum a_nPlace a_nA a_nB a_nC a_nLo a_nHi a_nLevel a_defName a_defPlace a_defRoot a_loaded a_count a_status a_number a_origin a_choice a_slotF a_slotX a_slotHeld) :
    ∃ n, wY_scan_138 post J (nI p) x5 f_width (nI L) f_place f_toks f_nodes f_defs a_text a_tok a_tokNum a_tokPlace a_opened a_nOp a_nNum a_nPlace a_nA a_nB a_nC a_nLo a_nHi a_nLevel a_defName a_defPlace a_defRoot a_loaded a_count a_status a_number a_origin a_choice a_slotF a_slotX a_slotHeld n (nI (p + 1)) := by
  have hT0 := hT
  obtain ⟨hL, hT⟩ := hT
  obtain ⟨r1, r2, r3⟩ := hR
  have key : ∀ d i, i + d = e → p + 1 ≤ i → ∀ n, d < n → wY_scan_138 post J (nI p) x5 f_width (nI L) f_place f_toks f_nodes f_defs a_text a_tok a_tokNum a_tokPlace a_opened a_nOp a_nNum a_nPlace a_nA a_nB a_nC a_nLo a_nHi a_nLevel a_defName a_defPlace a_defRoot a_loaded a_count a_status a_number a_origin a_choice a_slotF a_slotX a_slotHeld n (nI i) := by
    intro d
    induction d with
    | zero =>
      intro i hi h0 n hn
      obtain ⟨n, rfl⟩ : ∃ m, n = m + 1 := ⟨n - 1, by omega⟩
      have hie : i = e := by omega
      subst hie
      by_cases hl : L ≤ i
      · exact br_t (nI_le hl (by omega)) (sy_170 hT0 hp he x5 R)
      · have hl : i < L := by omega
        refine br_f (nI_ge hl (by omega)) ⟨vp_in_nI (by omega) (by decide), ?_⟩
        rw [nI_clamp (by omega), (hT i hl).1]
        exact tx_Ys (hT i hl).2.2 (fun q => absurd ⟨hl, q⟩ r3) (fun _ => br_t rfl (sy_170 hT0 hp he x5 R))
    | succ d ih =>
      intro i hi h0 n hn
      obtain ⟨n, rfl⟩ : ∃ m, n = m + 1 := ⟨n - 1, by omega⟩
      obtain ⟨hl, hq⟩ := r2 i h0 (by omega)
      refine br_f (nI_ge hl (by omega)) ⟨vp_in_nI (by omega) (by decide), ?_⟩
      rw [nI_clamp (by omega), (hT i hl).1]
      refine tx_Ys (hT i hl).2.2 (fun _ => bq_1 (fun y ey => ?_)) (fun q => absurd hq q)
      rw [ey, nI_1]
      exact ih (i + 1) (by omega) (by omega) n (by omega)
  exact ⟨_, key (e - (p + 1)) (p + 1) (by omega) (Nat.le_refl _) _ (Nat.lt_succ_self _)⟩
theorem sy_74 (hT : tx_P L tx a_text) {p e : Nat} (hp : p < e) (he : e ≤ L) (hd : ∀ i, p ≤ i → i < e → tz_dg (tx i) = true)
    (R1 : e - p ≤ 9 → wY_scan_245 post J (nI p) (nI e) 1 (nI (tz_n tx p (e - p))) f_width (nI L) f_place f_toks f_nodes f_defs a_text a_tok a_tokNum a_tokPlace a_opened a_nOp a_nNum a_nPlace a_nA a_nB a_nC a_nLo a_nHi a_nLevel a_defName a_defPlace a_defRoot a_loaded a_count a_status a_number a_origin a_choice a_slotF a_slotX a_slotHeld) (R0 : ¬ e - p ≤ 9 → ∀ x5, wY_scan_245 post J (nI p) (nI e) 0 x5 f_width (nI L) f_place f_toks f_nodes f_defs a_text a_tok a_tokNum a_tokPlace a_opened a_nOp a_nNum a_nPlace a_nA a_nB a_nC a_nLo a_nHi a_nLevel a_defName a_defPlace a_defRoot a_loaded a_count a_status a_number a_origin a_choice a_slotF a_slotX a_slotHeld) :
    wY_scan_74 post J (nI p) (nI e) 0 f_width (nI L) f_place f_toks f_nodes f_defs a_text a_tok a_tokNum a_tokPlace a_opened a_nOp a_nNum a_nPlace a_nA a_nB a_nC a_nLo a_nHi a_nLevel a_defName a_defPlace a_defRoot a_loaded a_count a_status a_number a_origin a_choice a_slotF a_slotX a_slotHeld := by
  obtain ⟨hL, hT⟩ := hT
  have es : nI e - nI p = nI (e - p) := pk_sub (by omega)
  show ((nI e - nI p) ≤ 9 → _) ∧ (¬ (nI e - nI p) ≤ 9 → _)
  rw [es]
  refine pk_le (e - p) 9 (fun c => ?_) (fun c => ?_)
  · have key : ∀ d m, m + d = e - p → ∀ n, d < n → wY_scan_92 post J (nI p) (nI e) 1 f_width (nI L) f_place f_toks f_nodes f_defs a_text a_tok a_tokNum a_tokPlace a_opened a_nOp a_nNum a_nPlace a_nA a_nB a_nC a_nLo a_nHi a_nLevel a_defName a_defPlace a_defRoot a_loaded a_count a_status a_number a_origin a_choice a_slotF a_slotX a_slotHeld n (nI (tz_n tx p m)) (nI (p + m)) := by
      intro d
      induction d with
      | zero =>
        intro m hm n hn
        obtain ⟨n, rfl⟩ : ∃ k, n = k + 1 := ⟨n - 1, by omega⟩
        have em : m = e - p := by omega
        subst em
        exact br_t (nI_le (by omega) (by omega)) (R1 c)
      | succ d ih =>
        intro m hm n hn
        obtain ⟨n, rfl⟩ : ∃ k, n = k + 1 := ⟨n - 1, by omega⟩
        refine br_f (nI_ge (by omega) (by omega)) (br_t rfl ⟨vp_in_nI (by omega) (by decide), fun y ey z ez => ?_⟩)
        rw [nI_clamp (by omega), (hT (p + m) (by omega)).1] at ey
        rw [nI_1] at ez
        have hg := tx_gt.mp (hd (p + m) (by omega) (by omega))
        have ea : nI (tz_n tx p m) * 10 + nI (tx (p + m)) - 48 = nI (tz_n tx p (m + 1)) := by
          have a : nI (tz_n tx p m) * 10 = nI (tz_n tx p m * 10) := pk_mul _ 10
          rw [a, nI_add]
          have b : nI (tz_n tx p m * 10 + tx (p + m)) - 48 = nI (tz_n tx p m * 10 + tx (p + m) - 48) := pk_sub (b := 48) (by omega)
          rw [b]
          have c : tz_n tx p m * 10 + tx (p + m) - 48 = tz_n tx p (m + 1) := by
            show _ = tz_n tx p m * 10 + (tx (p + m) - 48)
            omega
          rw [c]
        rw [ea] at ey
        subst ey ez
        exact ih (m + 1) (by omega) n (by omega)
    exact ⟨_, key (e - p) 0 (by omega) _ (Nat.lt_succ_self _)⟩
  · exact ⟨1, br_f (nI_ge hp (by omega)) (br_f (by decide) (R0 (by omega) _))⟩
theorem sy_48 (hT : tx_P L tx a_text) {p e : Nat} (hp : p < e) (he : e ≤ L) (hR : tz_R tx L tz_dg (p + 1) e) (h0 : tz_dg (tx p) = true)
    (R1 : e - p ≤ 9 → wY_scan_245 post J (nI p) (nI e) 1 (nI (tz_n tx p (e - p))) f_width (nI L) f_place f_toks f_nodes f_defs a_text a_tok a_tokNum a_tokPlace a_opened a_nOp a_nNum a_nPlace a_nA a_nB a_nC a_nLo a_nHi a_nLevel a_defName a_defPlace a_defRoot a_loaded a_count a_status a_number a_origin a_choice a_slotF a_slotX a_slotHeld) (R0 : ¬ e - p ≤ 9 → ∀ x5, wY_scan_245 post J (nI p) (nI e) 0 x5 f_width (nI L) f_place f_toks f_nodes f_defs a_text a_tok a_tokNum a_tokPlace a_opened a_nOp a_nNum a_nPlace a_nA a_nB a_nC a_nLo a_nHi a_nLevel a_defName a_defPlace a_defRoot a_loaded a_count a_status a_number a_origin a_choice a_slotF a_slotX a_slotHeld) :
    ∃ n, wY_scan_48 post J (nI p) 0 f_width (nI L) f_place f_toks f_nodes f_defs a_text a_tok a_tokNum a_tokPlace a_opened a_nOp a_nNum a_nPlace a_nA a_nB a_nC a_nLo a_nHi a_nLevel a_defName a_defPlace a_defRoot a_loaded a_count a_status a_number a_origin a_choice a_slotF a_slotX a_slotHeld n (nI (p + 1)) := by
  have hT0 := hT
  obtain ⟨hL, hT⟩ := hT
  obtain ⟨r1, r2, r3⟩ := hR
  have fin : wY_scan_74 post J (nI p) (nI e) 0 f_width (nI L) f_place f_toks f_nodes f_defs a_text a_tok a_tokNum a_tokPlace a_opened a_nOp a_nNum a_nPlace a_nA a_nB a_nC a_nLo a_nHi a_nLevel a_defName a_defPlace a_defRoot a_loaded a_count a_status a_number a_origin a_choice a_slotF a_slotX a_slotHeld := by
    refine sy_74 hT0 hp he (fun i h1 h2 => ?_) R1 R0
    by_cases q : i = p
    · rw [q]; exact h0
    · exact (r2 i (by omega) h2).2
  have key : ∀ d i, i + d = e → p + 1 ≤ i → ∀ n, d < n → wY_scan_48 post J (nI p) 0 f_width (nI L) f_place f_toks f_nodes f_defs a_text a_tok a_tokNum a_tokPlace a_opened a_nOp a_nNum a_nPlace a_nA a_nB a_nC a_nLo a_nHi a_nLevel a_defName a_defPlace a_defRoot a_loaded a_count a_status a_number a_origin a_choice a_slotF a_slotX a_slotHeld n (nI i) := by
    intro d
    induction d with
    | zero =>
      intro i hi h0 n hn
      obtain ⟨n, rfl⟩ : ∃ m, n = m + 1 := ⟨n - 1, by omega⟩
      have hie : i = e := by omega
      subst hie
      by_cases hl : L ≤ i
      · exact br_t (nI_le hl (by omega)) fin
      · have hl : i < L := by omega
        refine br_f (nI_ge hl (by omega)) ⟨vp_in_nI (by omega) (by decide), ?_⟩
        rw [nI_clamp (by omega), (hT i hl).1]
        exact tx_Yd (hT i hl).2.2 (fun q => absurd ⟨hl, q⟩ r3) (fun _ => br_t rfl fin)
    | succ d ih =>
      intro i hi h0 n hn
      obtain ⟨n, rfl⟩ : ∃ m, n = m + 1 := ⟨n - 1, by omega⟩
      obtain ⟨hl, hq⟩ := r2 i h0 (by omega)
      refine br_f (nI_ge hl (by omega)) ⟨vp_in_nI (by omega) (by decide), ?_⟩
      rw [nI_clamp (by omega), (hT i hl).1]
      refine tx_Yd (hT i hl).2.2 (fun _ => bq_1 (fun y ey => ?_)) (fun q => absurd hq q)
      rw [ey, nI_1]
      exact ih (i + 1) (by omega) (by omega) n (by omega)
  exact ⟨_, key (e - (p + 1)) (p + 1) (by omega) (Nat.le_refl _) _ (Nat.lt_succ_self _)⟩
end
section
variable {f_width f_length f_place f_toks f_nodes f_defs : Int32} {a_text a_tok a_tokNum a_tokPlace a_opened a_nOp a_nNum a_nPlace a_nA a_nB a_nC a_nLo a_nHi a_nLevel a_defName a_defPlace a_defRoot a_loaded a_count a_status : Nat → Int32} {a_number : Nat → Int64} {a_origin a_choice a_slotF a_slotX a_slotHeld : Nat → Int32} {L : Nat} {tx : Nat → Nat} {post : Int32 → SY → Prop}
theorem sy_7 (hT : tx_P L tx a_text) {Tk : List tz_T} {e : Option Nat} (hTk : Tk.length ≤ L)
    (h1 : e = none → ∀ tc tn tp, tx_TY Tk Tk.length tc tn tp → post (-1) (f_width, nI L, f_place, nI Tk.length, f_nodes, f_defs, a_text, tc, tn, tp, a_opened, a_nOp, a_nNum, a_nPlace, a_nA, a_nB, a_nC, a_nLo, a_nHi, a_nLevel, a_defName, a_defPlace, a_defRoot, a_loaded, a_count, a_status, a_number, a_origin, a_choice, a_slotF, a_slotX, a_slotHeld))
    (h2 : ∀ f, e = some f → f < L → ∀ m tc tn tp, post (nI f) (f_width, nI L, f_place, m, f_nodes, f_defs, a_text, tc, tn, tp, a_opened, a_nOp, a_nNum, a_nPlace, a_nA, a_nB, a_nC, a_nLo, a_nHi, a_nLevel, a_defName, a_defPlace, a_defRoot, a_loaded, a_count, a_status, a_number, a_origin, a_choice, a_slotF, a_slotX, a_slotHeld)) :
    ∀ n p m tc tn tp, p ≤ L → L - p < n → tz_C tx L p (Tk.drop m) e → m ≤ Tk.length → tx_TY Tk m tc tn tp →
      wY_scan_7 post f_width (nI L) f_place f_nodes f_defs n (nI p) (nI m) a_text tc tn tp a_opened a_nOp a_nNum a_nPlace a_nA a_nB a_nC a_nLo a_nHi a_nLevel a_defName a_defPlace a_defRoot a_loaded a_count a_status a_number a_origin a_choice a_slotF a_slotX a_slotHeld := by
  have hL := hT.1
  intro n
  induction n with
  | zero => intro p m tc tn tp _ h; omega
  | succ n ih =>
    intro p m tc tn tp hp hn hC hm hTY
    by_cases pl : L ≤ p
    · obtain ⟨z1, z2⟩ := tz_Cz _ _ hC pl
      have z3 : m = Tk.length := by
        have := List.drop_eq_nil_iff.mp z1; omega
      subst z3
      exact br_t (nI_le pl (by omega)) (h1 z2 tc tn tp hTY)
    · have pl : p < L := by omega
      refine br_f (nI_ge pl (by omega)) ⟨vp_in_nI (by omega) (by decide), fun c ec x3 ex3 => ?_⟩
      rw [nI_clamp (by omega), (hT.2 p pl).1] at ec
      rw [nI_1] at ex3
      subst ec ex3
      have c126 := (hT.2 p pl).2.2
      refine pk_eq (tx p) 32 (fun b => fun y ey => ?_) (fun b => ?_)
      · rw [ey, nI_1]
        exact ih (p + 1) m tc tn tp (by omega) (by omega) (tz_Cs _ _ hC pl b) hm hTY
      · have he := tz_el (tx := tx) pl
        have R : ∀ kd nm : Int32, (tz_kd tx L p = 0 → kd = 0) → (tz_kd tx L p ≠ 0 → kd = nI (tz_kd tx L p) ∧ nm = nI (tz_nm tx L p)) →
            wY_scan_245 post (wY_scan_7 post f_width (nI L) f_place f_nodes f_defs n) (nI p) (nI (tz_end tx L p)) kd nm f_width (nI L) f_place (nI m) f_nodes f_defs a_text tc tn tp a_opened a_nOp a_nNum a_nPlace a_nA a_nB a_nC a_nLo a_nHi a_nLevel a_defName a_defPlace a_defRoot a_loaded a_count a_status a_number a_origin a_choice a_slotF a_slotX a_slotHeld := by
          intro kd nm k0 k1
          rcases tz_Ch _ _ hC pl b with ⟨r, z1, z2, z3⟩ | ⟨z1, z2, z3⟩
          · obtain ⟨a1, a2, a3⟩ := tt_d z1
            have k27 := tx_kd27 tx L p
            obtain ⟨rfl, rfl⟩ := k1 z2
            refine br_f (nI_ne0 (by omega) (by omega)) ⟨vp_in_nI (by omega) (by decide), fun A eA => ⟨vp_in_nI (by omega) (by decide), fun B eB => ⟨vp_in_nI (by omega) (by decide), fun C eC D eD => ?_⟩⟩⟩
            rw [nI_clamp (by omega)] at eA eB eC
            rw [nI_1] at eD
            subst eA eB eC eD
            exact ih _ (m + 1) _ _ _ he.2 (by omega) (by rw [a2]; exact z3) (by omega) (tx_TYs hTY a1)
          · rw [k0 z3]
            exact br_t rfl (h2 p z2 pl _ _ _ _)
        refine tx_Yd c126 (fun q => bq_1 ?_) (fun q => br_t rfl (tx_Ys c126 (fun q2 => bq_1 ?_) (fun q2 => br_t rfl ?_)))
        · have ee : tz_end tx L p = tz_e tx L tz_dg (L + 1) (p + 1) := by unfold tz_end; rw [if_pos q]
          have hR := tz_eR tx L tz_dg (L + 1) (p + 1) (by omega)
          rw [← ee] at hR
          have nn : tz_nm tx L p = tz_n tx p (tz_end tx L p - p) := by unfold tz_nm; rw [if_pos q]
          refine sy_48 hT he.1 he.2 hR q (fun c => R _ _ (fun k => ?_) (fun _ => ⟨?_, ?_⟩)) (fun c x5 => R _ _ (fun _ => rfl) (fun k => ?_))
          · unfold tz_kd at k; rw [if_pos q, if_pos c] at k; omega
          · unfold tz_kd; rw [if_pos q, if_pos c]; rfl
          · rw [nn]
          · unfold tz_kd at k; rw [if_pos q, if_neg c] at k; exact absurd rfl k
        · have ee : tz_end tx L p = tz_e tx L tz_sm (L + 1) (p + 1) := by unfold tz_end; rw [if_neg q, if_pos q2]
          have hR := tz_eR tx L tz_sm (L + 1) (p + 1) (by omega)
          rw [← ee] at hR
          have kk : tz_kd tx L p = if tz_end tx L p - p ≤ 4 then tz_k (tz_w tx p (tz_end tx L p - p)) else 0 := by unfold tz_kd; rw [if_neg q, if_pos q2]
          have nn : tz_nm tx L p = 0 := by
            unfold tz_nm; rw [if_neg q, if_neg (by have := tx_st.mp q2; omega)]
          refine sy_138 hT he.1 he.2 hR 0 ?_
          rw [← kk]
          refine R _ _ (fun k => by rw [k]; rfl) (fun _ => ⟨rfl, by rw [nn]; rfl⟩)
        · have ee : tz_end tx L p = p + 1 := by unfold tz_end; rw [if_neg q, if_neg q2]
          rw [ee] at R
          have sg : ¬ (65 ≤ tx p ∧ tx p ≤ 69) → wY_scan_239 post (wY_scan_7 post f_width (nI L) f_place f_nodes f_defs n) (nI p) (nI (tx p)) (nI (p + 1)) 0 f_width (nI L) f_place (nI m) f_nodes f_defs a_text tc tn tp a_opened a_nOp a_nNum a_nPlace a_nA a_nB a_nC a_nLo a_nHi a_nLevel a_defName a_defPlace a_defRoot a_loaded a_count a_status a_number a_origin a_choice a_slotF a_slotX a_slotHeld := by
            intro nr
            have kk : tz_kd tx L p = tz_g (tx p) := by unfold tz_kd; rw [if_neg q, if_neg q2, if_neg nr]
            have nn : tz_nm tx L p = 0 := by unfold tz_nm; rw [if_neg q, if_neg nr]
            refine sy_sign c126 ?_
            rw [← kk]
            exact R _ _ (fun k => by rw [k]; rfl) (fun _ => ⟨rfl, by rw [nn]; rfl⟩)
          refine pk_lt (tx p) 65 (fun c => sg (by omega)) (fun c => pk_lt 69 (tx p) (fun c2 => sg (by omega)) (fun c2 => fun y ey => ?_))
          have e1 : nI (tx p) - 65 = nI (tx p - 65) := pk_sub (b := 65) (by omega)
          rw [ey, e1]
          have kk : tz_kd tx L p = 13 := by unfold tz_kd; rw [if_neg q, if_neg q2, if_pos (by omega)]
          have nn : tz_nm tx L p = tx p - 65 := by unfold tz_nm; rw [if_neg q, if_pos (by omega)]
          exact R 13 _ (fun k => by rw [kk] at k; omega) (fun _ => ⟨by rw [kk]; rfl, by rw [nn]⟩)
theorem sy_scan (hT : tx_P L tx a_text) {Tk : List tz_T} {e : Option Nat} (hC : tz_C tx L 0 Tk e)
    (h1 : e = none → ∀ tc tn tp, tx_TY Tk Tk.length tc tn tp → post (-1) (f_width, nI L, f_place, nI Tk.length, f_nodes, f_defs, a_text, tc, tn, tp, a_opened, a_nOp, a_nNum, a_nPlace, a_nA, a_nB, a_nC, a_nLo, a_nHi, a_nLevel, a_defName, a_defPlace, a_defRoot, a_loaded, a_count, a_status, a_number, a_origin, a_choice, a_slotF, a_slotX, a_slotHeld))
    (h2 : ∀ f, e = some f → f < L → ∀ m tc tn tp, post (nI f) (f_width, nI L, f_place, m, f_nodes, f_defs, a_text, tc, tn, tp, a_opened, a_nOp, a_nNum, a_nPlace, a_nA, a_nB, a_nC, a_nLo, a_nHi, a_nLevel, a_defName, a_defPlace, a_defRoot, a_loaded, a_count, a_status, a_number, a_origin, a_choice, a_slotF, a_slotX, a_slotHeld)) :
    wpY_scan post (f_width, nI L, f_place, f_toks, f_nodes, f_defs, a_text, a_tok, a_tokNum, a_tokPlace, a_opened, a_nOp, a_nNum, a_nPlace, a_nA, a_nB, a_nC, a_nLo, a_nHi, a_nLevel, a_defName, a_defPlace, a_defRoot, a_loaded, a_count, a_status, a_number, a_origin, a_choice, a_slotF, a_slotX, a_slotHeld) := by
  have hl := tz_len Tk 0 e hC (Nat.zero_le _)
  exact ⟨L + 1, sy_7 hT (by omega) h1 h2 (L + 1) 0 0 a_tok a_tokNum a_tokPlace (Nat.zero_le _) (by omega) hC (Nat.zero_le _) (fun i hi => absurd hi (Nat.not_lt_zero i))⟩
end
