-- LOAD on Y
section
variable {f_width f_length f_place f_toks f_nodes f_defs : Int32} {a_text a_tok a_tokNum a_tokPlace a_opened a_nOp a_nNum a_nPlace a_nA a_nB a_nC a_nLo a_nHi a_nLevel a_defName a_defPlace a_defRoot a_loaded a_count a_status : Nat → Int32} {a_number : Nat → Int64} {a_origin a_choice a_slotF a_slotX a_slotHeld : Nat → Int32} {L : Nat} {tx : Nat → Nat} {Tk : List tz_T} {Q : Nat → Nat → Nat} {ds : List df_D} {e : Nat} {P : Nat → Nat → Nat} {g : Nat → Nat} {post : Int32 → SY → Prop}
theorem ld_Y2 (hT : tx_P L tx a_text) {f : Nat} (hC : tz_C tx L 0 Tk (some f)) (h : ∀ m tc tn tp, post 2 (f_width, nI L, nI f, m, f_nodes, f_defs, a_text, tc, tn, tp, a_opened, a_nOp, a_nNum, a_nPlace, a_nA, a_nB, a_nC, a_nLo, a_nHi, a_nLevel, a_defName, a_defPlace, a_defRoot, a_loaded, a_count, a_status, a_number, a_origin, a_choice, a_slotF, a_slotX, a_slotHeld)) : wpY_load post (f_width, nI L, f_place, f_toks, f_nodes, f_defs, a_text, a_tok, a_tokNum, a_tokPlace, a_opened, a_nOp, a_nNum, a_nPlace, a_nA, a_nB, a_nC, a_nLo, a_nHi, a_nLevel, a_defName, a_defPlace, a_defRoot, a_loaded, a_count, a_status, a_number, a_origin, a_choice, a_slotF, a_slotX, a_slotHeld) := by
  refine sy_scan (f_toks := f_toks) hT hC (fun q => absurd q (by simp)) (fun f2 q fL m tc tn tp => ?_)
  have := Option.some.inj q
  subst this
  have L2 := hT.1
  exact br_f (nI_nlt (b := 0) (by omega) (by omega)) (h m tc tn tp)
theorem ld_Y3 (hT : tx_P L tx a_text) (hC : tz_C tx L 0 Tk none) (hK : xp_T L tx Tk) {i : Nat} (hR : ms_R (tt_k Tk) Tk.length (some i))
    (h : ∀ tc tn tp opd, post 3 (f_width, nI L, nI (if i < Tk.length then tt_p Tk i else L), nI Tk.length, f_nodes, f_defs, a_text, tc, tn, tp, opd, a_nOp, a_nNum, a_nPlace, a_nA, a_nB, a_nC, a_nLo, a_nHi, a_nLevel, a_defName, a_defPlace, a_defRoot, a_loaded, a_count, a_status, a_number, a_origin, a_choice, a_slotF, a_slotX, a_slotHeld)) : wpY_load post (f_width, nI L, f_place, f_toks, f_nodes, f_defs, a_text, a_tok, a_tokNum, a_tokPlace, a_opened, a_nOp, a_nNum, a_nPlace, a_nA, a_nB, a_nC, a_nLo, a_nHi, a_nLevel, a_defName, a_defPlace, a_defRoot, a_loaded, a_count, a_status, a_number, a_origin, a_choice, a_slotF, a_slotX, a_slotHeld) := by
  refine sy_scan (f_toks := f_toks) hT hC (fun _ tc tn tp hTY => ?_) (fun f2 q => absurd q (by simp))
  refine br_t (by decide) (mf_Y hK hTY hR (fun q => absurd q (by simp)) (fun i2 q le opd => ?_))
  have := Option.some.inj q
  subst this
  have L2 := hT.1
  have TL := hK.1
  refine br_f (nI_nlt (b := 0) (by omega) (by omega)) (pk_le Tk.length i (fun c => ?_) (fun c => ⟨vp_in_nI (by omega) (by decide), ?_⟩))
  · have hh := h tc tn tp opd
    rw [if_neg (by omega)] at hh
    exact hh
  · rw [nI_clamp (by omega), (hTY i c).2.2]
    have hh := h tc tn tp opd
    rw [if_pos c] at hh
    exact hh
theorem ld_Y58 (hT : tx_P L tx a_text) (hC : tz_C tx L 0 Tk none) (hK : xp_T L tx Tk) (hR : ms_R (tt_k Tk) Tk.length none) (hM : md_F (tt_k Tk) Q ds 0 120 Tk.length e) (hE : e ≤ 320)
    (hok : ∀ u, 120 ≤ u → u < e → nd_ok (tt_k Tk) (tt_n Tk) Q u ∧ Q 11 u < 2 ^ 30 ∧ Q 9 u < Tk.length)
    (h : ∀ g tc tn tp opd dn dpl drt nop nnm npl nA nB nC nLo nHi nLv, ym_I Tk Q ds e g tc tn tp dn dpl drt nop nnm npl nA nB nC nLo nHi nLv → rd_L 120 a_nOp a_nNum a_nPlace a_nA a_nB a_nC a_nLo a_nHi a_nLevel nop nnm npl nA nB nC nLo nHi nLv →
      ∃ n, wY_load_58 post f_width (nI L) f_place (nI Tk.length) (nI e) (nI ds.length) a_text tc tn tp opd nop nnm npl nA nB nC nLo nHi nLv dn dpl drt a_loaded a_count a_status a_number a_origin a_choice a_slotF a_slotX a_slotHeld n 0) : wpY_load post (f_width, nI L, f_place, f_toks, f_nodes, f_defs, a_text, a_tok, a_tokNum, a_tokPlace, a_opened, a_nOp, a_nNum, a_nPlace, a_nA, a_nB, a_nC, a_nLo, a_nHi, a_nLevel, a_defName, a_defPlace, a_defRoot, a_loaded, a_count, a_status, a_number, a_origin, a_choice, a_slotF, a_slotX, a_slotHeld) := by
  have L2 := hT.1
  have TL := hK.1
  refine sy_scan (f_toks := f_toks) hT hC (fun _ tc tn tp hTY => ?_) (fun f2 q => absurd q (by simp))
  refine br_t (by decide) (mf_Y hK hTY hR (fun _ opd => ?_) (fun i2 q => absurd q (by simp)))
  refine br_t (by decide) (rd_Y (by omega) hTY (fun i hi => (hK.2.2 i hi).2.2.2.2) hE hM (fun u h1 h2 => ⟨(hok u h1 h2).1, (hok u h1 h2).2.1⟩) (fun g dn dpl drt nop nnm npl nA nB nC nLo nHi nLv h1 h2 h3 h4 => ?_))
  exact h g tc tn tp opd dn dpl drt nop nnm npl nA nB nC nLo nHi nLv ⟨by omega, fun i hi => ⟨(hK.2.2 i hi).2.2.2.2, by have := (hK.2.2 i hi).1; omega, xp_n5 hT hK hi⟩, hTY, hM, hE, hok, h1, h2, h3⟩ h4
theorem ld_58f (I : ym_I Tk Q ds e g a_tok a_tokNum a_tokPlace a_defName a_defPlace a_defRoot a_nOp a_nNum a_nPlace a_nA a_nB a_nC a_nLo a_nHi a_nLevel) {i r : Nat} (hR : ck_R Q (mn_f Tk ds) ds (some (i, r))) {d : df_D} (hs : ds[i]? = some d) (h : post (nI r) (f_width, f_length, nI (tt_p Tk d.1), f_toks, f_nodes, nI ds.length, a_text, a_tok, a_tokNum, a_tokPlace, a_opened, a_nOp, a_nNum, a_nPlace, a_nA, a_nB, a_nC, a_nLo, a_nHi, a_nLevel, a_defName, a_defPlace, a_defRoot, a_loaded, a_count, a_status, a_number, a_origin, a_choice, a_slotF, a_slotX, a_slotHeld)) :
    ∃ n, wY_load_58 post f_width f_length f_place f_toks f_nodes (nI ds.length) a_text a_tok a_tokNum a_tokPlace a_opened a_nOp a_nNum a_nPlace a_nA a_nB a_nC a_nLo a_nHi a_nLevel a_defName a_defPlace a_defRoot a_loaded a_count a_status a_number a_origin a_choice a_slotF a_slotX a_slotHeld n 0 := by
  have b50 := xm_50 I.2.2.2.1 I.1
  have rr := ld_c hR
  have n1 : nI r ≠ 1 := fun q => by have := (nI_eq (a := r) (b := 1) (by omega) (by decide)).mp q; omega
  rcases hR with ⟨q, _⟩ | ⟨i2, r2, q, il, _, hc, hj⟩
  · exact absurd q (by simp)
  · obtain ⟨rfl, rfl⟩ := Prod.mk.inj (Option.some.inj q)
    have key : ∀ k j, j + k = i → ∀ n, k < n → wY_load_58 post f_width f_length f_place f_toks f_nodes (nI ds.length) a_text a_tok a_tokNum a_tokPlace a_opened a_nOp a_nNum a_nPlace a_nA a_nB a_nC a_nLo a_nHi a_nLevel a_defName a_defPlace a_defRoot a_loaded a_count a_status a_number a_origin a_choice a_slotF a_slotX a_slotHeld n (nI j) := by
      intro k
      induction k with
      | zero =>
        intro j hk n hn
        obtain ⟨n, rfl⟩ : ∃ m, n = m + 1 := ⟨n - 1, by omega⟩
        have ej : j = i := by omega
        subst ej
        refine br_f (nI_ge il (by omega)) (ym_sz I il hc (br_f n1 ⟨vp_in_nI (by omega) (by decide), ?_⟩))
        obtain ⟨d2, hs2, hD, dT, sT, d120, de, fe, dN, dP, _⟩ := ym_d I il
        rw [hs] at hs2
        have := Option.some.inj hs2
        subst this
        rw [nI_clamp (by omega), dP]
        exact h
      | succ k ih =>
        intro j hk n hn
        obtain ⟨n, rfl⟩ : ∃ m, n = m + 1 := ⟨n - 1, by omega⟩
        have jl : j < ds.length := by omega
        refine br_f (nI_ge jl (by omega)) (ym_sz I jl (hj j (by omega)) (br_t rfl (fun y ey => ?_)))
        rw [ey, nI_1]
        exact ih (j + 1) (by omega) n (by omega)
    exact ⟨_, key i 0 (by omega) _ (Nat.lt_succ_self _)⟩
theorem ld_58 (I : ym_I Tk Q ds e g a_tok a_tokNum a_tokPlace a_defName a_defPlace a_defRoot a_nOp a_nNum a_nPlace a_nA a_nB a_nC a_nLo a_nHi a_nLevel) (hR : ck_R Q (mn_f Tk ds) ds none) (h : ∃ n, wY_load_97 post f_width f_length f_place f_toks f_nodes (nI ds.length) a_text a_tok a_tokNum a_tokPlace a_opened a_nOp a_nNum a_nPlace a_nA a_nB a_nC a_nLo a_nHi a_nLevel a_defName a_defPlace a_defRoot a_loaded a_count a_status a_number a_origin a_choice a_slotF a_slotX a_slotHeld n 0) :
    ∃ n, wY_load_58 post f_width f_length f_place f_toks f_nodes (nI ds.length) a_text a_tok a_tokNum a_tokPlace a_opened a_nOp a_nNum a_nPlace a_nA a_nB a_nC a_nLo a_nHi a_nLevel a_defName a_defPlace a_defRoot a_loaded a_count a_status a_number a_origin a_choice a_slotF a_slotX a_slotHeld n 0 := by
  have b50 := xm_50 I.2.2.2.1 I.1
  rcases hR with ⟨_, hj⟩ | ⟨i2, r2, q, _⟩
  · have key : ∀ k j, j + k = ds.length → ∀ n, k < n → wY_load_58 post f_width f_length f_place f_toks f_nodes (nI ds.length) a_text a_tok a_tokNum a_tokPlace a_opened a_nOp a_nNum a_nPlace a_nA a_nB a_nC a_nLo a_nHi a_nLevel a_defName a_defPlace a_defRoot a_loaded a_count a_status a_number a_origin a_choice a_slotF a_slotX a_slotHeld n (nI j) := by
      intro k
      induction k with
      | zero =>
        intro j hk n hn
        obtain ⟨n, rfl⟩ : ∃ m, n = m + 1 := ⟨n - 1, by omega⟩
        have ej : j = ds.length := by omega
        subst ej
        exact br_t (nI_le (Nat.le_refl _) (by omega)) h
      | succ k ih =>
        intro j hk n hn
        obtain ⟨n, rfl⟩ : ∃ m, n = m + 1 := ⟨n - 1, by omega⟩
        have jl : j < ds.length := by omega
        refine br_f (nI_ge jl (by omega)) (ym_sz I jl (hj j jl) (br_t rfl (fun y ey => ?_)))
        rw [ey, nI_1]
        exact ih (j + 1) (by omega) n (by omega)
    exact ⟨_, key ds.length 0 (by omega) _ (Nat.lt_succ_self _)⟩
  · exact absurd q (by simp)
-- one name
theorem ld_nm (I : ym_I Tk Q ds e g a_tok a_tokNum a_tokPlace a_defName a_defPlace a_defRoot a_nOp a_nNum a_nPlace a_nA a_nB a_nC a_nLo a_nHi a_nLevel) (hld : ∀ f, f < 5 → a_loaded f = if 0 < P 5 f then 1 else 0) {j n : Nat} (jl : j < Tk.length) 
    (h0 : ¬ uk_t Tk P (mn_f Tk ds) ds.length j → wY_load_97 post f_width f_length f_place (nI Tk.length) f_nodes (nI ds.length) a_text a_tok a_tokNum a_tokPlace a_opened a_nOp a_nNum a_nPlace a_nA a_nB a_nC a_nLo a_nHi a_nLevel a_defName a_defPlace a_defRoot a_loaded a_count a_status a_number a_origin a_choice a_slotF a_slotX a_slotHeld n (nI (j + 1)))
    (h1 : uk_t Tk P (mn_f Tk ds) ds.length j → post 7 (f_width, f_length, nI (tt_p Tk j), nI Tk.length, f_nodes, nI ds.length, a_text, a_tok, a_tokNum, a_tokPlace, a_opened, a_nOp, a_nNum, a_nPlace, a_nA, a_nB, a_nC, a_nLo, a_nHi, a_nLevel, a_defName, a_defPlace, a_defRoot, a_loaded, a_count, a_status, a_number, a_origin, a_choice, a_slotF, a_slotX, a_slotHeld)) :
    wY_load_97 post f_width f_length f_place (nI Tk.length) f_nodes (nI ds.length) a_text a_tok a_tokNum a_tokPlace a_opened a_nOp a_nNum a_nPlace a_nA a_nB a_nC a_nLo a_nHi a_nLevel a_defName a_defPlace a_defRoot a_loaded a_count a_status a_number a_origin a_choice a_slotF a_slotX a_slotHeld (n + 1) (nI j) := by
  have I0 := I
  obtain ⟨i1, i2, i3, _⟩ := I0
  obtain ⟨t1, t2, t3⟩ := i3 j jl
  obtain ⟨k27, p200, n5⟩ := i2 j jl
  have b50 := xm_50 I.2.2.2.1 I.1
  have hin : vp_in (nI j) 200 := vp_in_nI (by omega) (by decide)
  refine br_f (nI_ge jl (by omega)) ⟨hin, ?_⟩
  rw [nI_clamp (by omega), t1]
  refine pk_eq (tt_k Tk j) 13 (fun c => ⟨hin, ?_⟩) (fun c => fun y ey => by rw [ey, nI_1]; exact h0 (fun q => c q.1))
  have n5 := n5 c
  rw [t2]
  refine ⟨vp_in_nI n5 (by decide), ?_⟩
  rw [nI_clamp (by omega), hld _ n5]
  by_cases w : 0 < P 5 (tt_n Tk j)
  · rw [if_pos w]
    exact bq_1 (fun y ey => by rw [ey, nI_1]; exact h0 (fun q => by have := q.2.2; omega))
  · rw [if_neg w]
    refine br_t rfl ⟨hin, ym_of I n5 (fun i il fi => ?_) (fun no => ?_)⟩
    · exact br_t (nI_le (Nat.zero_le _) (by omega)) (fun y ey => by rw [ey, nI_1]; exact h0 (fun q => q.2.1 ⟨i, il, fi⟩))
    · refine br_f (by decide) ⟨hin, ?_⟩
      rw [t3]
      exact h1 ⟨c, no, by omega⟩
theorem ld_97f (I : ym_I Tk Q ds e g a_tok a_tokNum a_tokPlace a_defName a_defPlace a_defRoot a_nOp a_nNum a_nPlace a_nA a_nB a_nC a_nLo a_nHi a_nLevel) (hld : ∀ f, f < 5 → a_loaded f = if 0 < P 5 f then 1 else 0) {i : Nat} (hR : uk_R Tk P (mn_f Tk ds) ds.length (some i))
    (h : post 7 (f_width, f_length, nI (tt_p Tk i), nI Tk.length, f_nodes, nI ds.length, a_text, a_tok, a_tokNum, a_tokPlace, a_opened, a_nOp, a_nNum, a_nPlace, a_nA, a_nB, a_nC, a_nLo, a_nHi, a_nLevel, a_defName, a_defPlace, a_defRoot, a_loaded, a_count, a_status, a_number, a_origin, a_choice, a_slotF, a_slotX, a_slotHeld)) : ∃ n, wY_load_97 post f_width f_length f_place (nI Tk.length) f_nodes (nI ds.length) a_text a_tok a_tokNum a_tokPlace a_opened a_nOp a_nNum a_nPlace a_nA a_nB a_nC a_nLo a_nHi a_nLevel a_defName a_defPlace a_defRoot a_loaded a_count a_status a_number a_origin a_choice a_slotF a_slotX a_slotHeld n 0 := by
  rcases hR with ⟨q, _⟩ | ⟨i2, q, il, hu, hj⟩
  · exact absurd q (by simp)
  · have := Option.some.inj q
    subst this
    have key : ∀ k j, j + k = i → ∀ n, k < n → wY_load_97 post f_width f_length f_place (nI Tk.length) f_nodes (nI ds.length) a_text a_tok a_tokNum a_tokPlace a_opened a_nOp a_nNum a_nPlace a_nA a_nB a_nC a_nLo a_nHi a_nLevel a_defName a_defPlace a_defRoot a_loaded a_count a_status a_number a_origin a_choice a_slotF a_slotX a_slotHeld n (nI j) := by
      intro k
      induction k with
      | zero =>
        intro j hk n hn
        obtain ⟨n, rfl⟩ : ∃ m, n = m + 1 := ⟨n - 1, by omega⟩
        have ej : j = i := by omega
        subst ej
        exact ld_nm I hld il (fun q => absurd hu q) (fun _ => h)
      | succ k ih =>
        intro j hk n hn
        obtain ⟨n, rfl⟩ : ∃ m, n = m + 1 := ⟨n - 1, by omega⟩
        exact ld_nm I hld (by omega) (fun _ => ih (j + 1) (by omega) n (by omega)) (fun q => absurd q (hj j (by omega)))
    exact ⟨_, key i 0 (by omega) _ (Nat.lt_succ_self _)⟩
theorem ld_97 (I : ym_I Tk Q ds e g a_tok a_tokNum a_tokPlace a_defName a_defPlace a_defRoot a_nOp a_nNum a_nPlace a_nA a_nB a_nC a_nLo a_nHi a_nLevel) {gl : Nat → Nat} (hP : yl_P P gl a_loaded a_count a_nOp a_nNum a_nA a_nB a_nC) (h200 : ∀ kc p, tb_b Tk Q ds e kc p → p ≤ 200) (hR : uk_R Tk P (mn_f Tk ds) ds.length none) {o3 : Option Nat}
    (hc : cl_R (fun c => la_ok P (fun f => ∃ i, i < ds.length ∧ mn_f Tk ds i = f) (ki_c c)) (fun c => tb_R Tk Q ds e (ki_c c)) o3)
    (h8 : ∀ m, o3 = some m → ∀ ch, post 8 (f_width, f_length, nI m, nI Tk.length, nI e, nI ds.length, a_text, a_tok, a_tokNum, a_tokPlace, a_opened, a_nOp, a_nNum, a_nPlace, a_nA, a_nB, a_nC, a_nLo, a_nHi, a_nLevel, a_defName, a_defPlace, a_defRoot, a_loaded, a_count, a_status, a_number, a_origin, ch, a_slotF, a_slotX, a_slotHeld))
    (h1 : o3 = none → ∀ ch, ∃ n, wY_load_181 post n 0 f_width f_length f_place (nI Tk.length) (nI e) (nI ds.length) a_text a_tok a_tokNum a_tokPlace a_opened a_nOp a_nNum a_nPlace a_nA a_nB a_nC a_nLo a_nHi a_nLevel a_defName a_defPlace a_defRoot a_loaded a_count a_status a_number a_origin ch a_slotF a_slotX a_slotHeld) : ∃ n, wY_load_97 post f_width f_length f_place (nI Tk.length) (nI e) (nI ds.length) a_text a_tok a_tokNum a_tokPlace a_opened a_nOp a_nNum a_nPlace a_nA a_nB a_nC a_nLo a_nHi a_nLevel a_defName a_defPlace a_defRoot a_loaded a_count a_status a_number a_origin a_choice a_slotF a_slotX a_slotHeld n 0 := by
  have T2 := I.1
  rcases hR with ⟨_, hj⟩ | ⟨i2, q, _⟩
  · have key : ∀ k j, j + k = Tk.length → ∀ n, k < n → wY_load_97 post f_width f_length f_place (nI Tk.length) (nI e) (nI ds.length) a_text a_tok a_tokNum a_tokPlace a_opened a_nOp a_nNum a_nPlace a_nA a_nB a_nC a_nLo a_nHi a_nLevel a_defName a_defPlace a_defRoot a_loaded a_count a_status a_number a_origin a_choice a_slotF a_slotX a_slotHeld n (nI j) := by
      intro k
      induction k with
      | zero =>
        intro j hk n hn
        obtain ⟨n, rfl⟩ : ∃ m, n = m + 1 := ⟨n - 1, by omega⟩
        have ej : j = Tk.length := by omega
        subst ej
        refine br_t (nI_le (Nat.le_refl _) (by omega)) (cl_Y I hP h200 hc (fun q ch => ?_) (fun m q m2 ch => ?_))
        · exact br_t (by decide) (h1 q ch)
        · exact br_f (nI_nlt (b := 0) (by omega) (by omega)) (h8 m q ch)
      | succ k ih =>
        intro j hk n hn
        obtain ⟨n, rfl⟩ : ∃ m, n = m + 1 := ⟨n - 1, by omega⟩
        exact ld_nm I hP.2.2.1 (by omega) (fun _ => ih (j + 1) (by omega) n (by omega)) (fun q => absurd q (hj j (by omega)))
    exact ⟨_, key Tk.length 0 (by omega) _ (Nat.lt_succ_self _)⟩
  · exact absurd q (by simp)
end
