-- Y cuts a range, finds partners, makes parts
section
variable {f_width f_length f_place f_toks f_nodes f_defs : Int32} {a_text a_tok a_tokNum a_tokPlace a_opened a_nOp a_nNum a_nPlace a_nA a_nB a_nC a_nLo a_nHi a_nLevel a_defName a_defPlace a_defRoot a_loaded a_count a_status : Nat → Int32} {a_number : Nat → Int64} {a_origin a_choice a_slotF a_slotX a_slotHeld : Nat → Int32} {tk : Nat → Nat} {T : Nat} {post : Int32 → Prop}
theorem cu_134 {J : Int32 → Int32 → Int32 → Int32 → Prop} {x1 x2 x3 x4 x5 x6 : Int32} {k z : Nat} {b : Nat} (hk : k ≤ 27) (n24 : k ≠ 24) (hz : (z = 1 ∧ rg_en b) ∨ (z = 0 ∧ ¬ rg_en b))
    (h : wY_cut_219 post J x1 x2 x3 x4 x5 x6 (nI (if rg_w k b = 9 then 9 else rg_w k b - 1)) f_width f_length f_place f_toks f_nodes f_defs a_text a_tok a_tokNum a_tokPlace a_opened a_nOp a_nNum a_nPlace a_nA a_nB a_nC a_nLo a_nHi a_nLevel a_defName a_defPlace a_defRoot a_loaded a_count a_status a_number a_origin a_choice a_slotF a_slotX a_slotHeld) : wY_cut_134 post J x1 x2 x3 x4 x5 x6 (nI k) (nI z) f_width f_length f_place f_toks f_nodes f_defs a_text a_tok a_tokNum a_tokPlace a_opened a_nOp a_nNum a_nPlace a_nA a_nB a_nC a_nLo a_nHi a_nLevel a_defName a_defPlace a_defRoot a_loaded a_count a_status a_number a_origin a_choice a_slotF a_slotX a_slotHeld := by
  have lit : ∀ n, (if rg_w k b = 9 then 9 else rg_w k b - 1) = n → wY_cut_219 post J x1 x2 x3 x4 x5 x6 (nI n) f_width f_length f_place f_toks f_nodes f_defs a_text a_tok a_tokNum a_tokPlace a_opened a_nOp a_nNum a_nPlace a_nA a_nB a_nC a_nLo a_nHi a_nLevel a_defName a_defPlace a_defRoot a_loaded a_count a_status a_number a_origin a_choice a_slotF a_slotX a_slotHeld := fun n e => e ▸ h
  have w199 : ¬ (k = 22 ∨ k = 21 ∨ k = 19 ∨ k = 20 ∨ k = 14 ∨ (k = 15 ∧ rg_en b)) → wY_cut_199 post J x1 x2 x3 x4 x5 x6 (nI k) f_width f_length f_place f_toks f_nodes f_defs a_text a_tok a_tokNum a_tokPlace a_opened a_nOp a_nNum a_nPlace a_nA a_nB a_nC a_nLo a_nHi a_nLevel a_defName a_defPlace a_defRoot a_loaded a_count a_status a_number a_origin a_choice a_slotF a_slotX a_slotHeld := by
    intro n
    have w9 : ¬ (16 ≤ k ∧ k ≤ 18) → wY_cut_217 post J x1 x2 x3 x4 x5 x6 f_width f_length f_place f_toks f_nodes f_defs a_text a_tok a_tokNum a_tokPlace a_opened a_nOp a_nNum a_nPlace a_nA a_nB a_nC a_nLo a_nHi a_nLevel a_defName a_defPlace a_defRoot a_loaded a_count a_status a_number a_origin a_choice a_slotF a_slotX a_slotHeld := fun n2 => lit 9 (by
      have : rg_w k b = 9 := by
        unfold rg_w
        rw [if_neg (by omega), if_neg (by omega), if_neg (by omega), if_neg (by omega), if_neg (by omega), if_neg n2]
      rw [if_pos this])
    refine pk_lt k 16 (fun c => w9 (by omega)) (fun c => pk_lt 18 k (fun d => w9 (by omega)) (fun d => lit 5 ?_))
    have : rg_w k b = 6 := by
      unfold rg_w
      rw [if_neg (by omega), if_neg (by omega), if_neg (by omega), if_neg (by omega), if_neg (by omega), if_pos (by omega)]
    rw [this]; rfl
  refine pk_eq k 22 (fun c => lit 1 (by rw [c]; rfl)) (fun c1 => pk_eq k 21 (fun c => lit 2 (by rw [c]; rfl)) (fun c2 => pk_eq k 19 (fun c => lit 3 (by rw [c]; rfl)) (fun c3 => pk_eq k 20 (fun c => lit 3 (by rw [c]; rfl)) (fun c4 => pk_eq k 14 (fun c => lit 4 (by rw [c]; rfl)) (fun c5 => pk_eq k 15 (fun c => pk_eq z 0 (fun d => w199 (by omega)) (fun d => lit 4 ?_)) (fun c => w199 (by omega)))))))
  have : rg_w k b = 5 := by
    unfold rg_w
    rw [if_neg (by omega), if_neg (by omega), if_neg (by omega), if_neg (by omega), if_pos (by omega)]
  rw [this]; rfl
theorem cu_Y (hT : T ≤ 200) (ht : ∀ i, i < T → a_tok i = nI (tk i)) (hk : ∀ i, i < T → tk i ≤ 27) {lo hi p W : Nat} (hC : rg_C tk lo hi p W) (hhi : hi ≤ T) (h : post (nI p)) : wpY_cut post (f_width, f_length, f_place, f_toks, f_nodes, f_defs, a_text, a_tok, a_tokNum, a_tokPlace, a_opened, a_nOp, a_nNum, a_nPlace, a_nA, a_nB, a_nC, a_nLo, a_nHi, a_nLevel, a_defName, a_defPlace, a_defRoot, a_loaded, a_count, a_status, a_number, a_origin, a_choice, a_slotF, a_slotX, a_slotHeld) (nI lo) (nI hi) := by
  obtain ⟨c1, c2, c3, c4, c5, c6, c7⟩ := hC
  have W9 : W ≤ 9 ∧ 1 ≤ W := by
    by_cases q : p = lo
    · have := c4 q; omega
    · have := c5 q; omega
  have key : ∀ d i x3 x4 dp, i + d = hi → lo ≤ i → ((dp : Nat) : Int) = rg_D tk i - rg_D tk lo → dp ≤ i →
      (p < i → W ≠ 1 ∧ x3 = nI p ∧ x4 = nI (if p = lo then 9 else W - 1)) → (i ≤ p → (p = lo → x3 = nI lo) ∧ ∃ wk, x4 = nI wk ∧ (wk = 9 ∨ (wk ≤ 5 ∧ W ≤ wk + 1))) →
      ∀ n, d < n → wY_cut_12 post (nI lo) (nI hi) f_width f_length f_place f_toks f_nodes f_defs a_text a_tok a_tokNum a_tokPlace a_opened a_nOp a_nNum a_nPlace a_nA a_nB a_nC a_nLo a_nHi a_nLevel a_defName a_defPlace a_defRoot a_loaded a_count a_status a_number a_origin a_choice a_slotF a_slotX a_slotHeld n x3 x4 (nI dp) (nI i) := by
    intro d
    induction d with
    | zero =>
      intro i x3 x4 dp hi2 hl hdp hdi hA hB n hn
      obtain ⟨n, rfl⟩ : ∃ m, n = m + 1 := ⟨n - 1, by omega⟩
      obtain ⟨_, e3, _⟩ := hA (by omega)
      refine br_t (nI_le (by omega) (by omega)) ?_
      rw [e3]; exact h
    | succ d ih =>
      intro i x3 x4 dp hi2 hl hdp hdi hA hB n hn
      obtain ⟨n, rfl⟩ : ∃ m, n = m + 1 := ⟨n - 1, by omega⟩
      have iT : i < T := by omega
      have k27 := hk i iT
      have pos := c3 (i + 1) (by omega) (by omega)
      refine br_f (nI_ge (by omega) (by omega)) ⟨vp_in_nI (by omega) (by decide), fun y ey => ?_⟩
      rw [nI_clamp (by omega), ht i iT] at ey
      subst ey
      -- going on with the same best
      have keep : ∀ dq : Nat, ((dq : Nat) : Int) = rg_D tk (i + 1) - rg_D tk lo → dq ≤ i + 1 → (rg_z tk lo i → lo < i → p < i ∨ (i < p) ) →
          ∀ y, y = nI i + 1 → wY_cut_12 post (nI lo) (nI hi) f_width f_length f_place f_toks f_nodes f_defs a_text a_tok a_tokNum a_tokPlace a_opened a_nOp a_nNum a_nPlace a_nA a_nB a_nC a_nLo a_nHi a_nLevel a_defName a_defPlace a_defRoot a_loaded a_count a_status a_number a_origin a_choice a_slotF a_slotX a_slotHeld n x3 x4 (nI dq) y := by
        intro dq hdq hdl hz y ey
        rw [ey, nI_1]
        refine ih (i + 1) x3 x4 dq (by omega) (by omega) hdq hdl (fun q => ?_) (fun q => hB (by omega)) n (by omega)
        by_cases e : i = p
        · by_cases e2 : p = lo
          · obtain ⟨a, wk, b, c⟩ := hB (by omega)
            have := c4 e2
            refine ⟨by omega, (a e2).trans (by rw [e2]), ?_⟩
            rw [if_pos e2, b]
            rcases c with c | c
            · rw [c]
            · omega
          · exfalso
            obtain ⟨z1, _⟩ := c5 e2
            have := hz (e ▸ z1) (by omega)
            omega
        · exact hA (by omega)
      have m47 : ∀ dq : Nat, ((dq : Nat) : Int) = rg_D tk (i + 1) - rg_D tk lo → dq ≤ i + 1 → wY_cut_47 post (wY_cut_12 post (nI lo) (nI hi) f_width f_length f_place f_toks f_nodes f_defs a_text a_tok a_tokNum a_tokPlace a_opened a_nOp a_nNum a_nPlace a_nA a_nB a_nC a_nLo a_nHi a_nLevel a_defName a_defPlace a_defRoot a_loaded a_count a_status a_number a_origin a_choice a_slotF a_slotX a_slotHeld n) (nI lo) (nI hi) x3 x4 (nI dq) (nI i) (nI (tk i)) f_width f_length f_place f_toks f_nodes f_defs a_text a_tok a_tokNum a_tokPlace a_opened a_nOp a_nNum a_nPlace a_nA a_nB a_nC a_nLo a_nHi a_nLevel a_defName a_defPlace a_defRoot a_loaded a_count a_status a_number a_origin a_choice a_slotF a_slotX a_slotHeld := by
        intro dq hdq hdl
        refine pk_lt 0 dq (fun c => keep dq hdq hdl (fun z => ?_)) (fun c => pk_eq (tk i) 27 (fun c => keep dq hdq hdl (fun z => absurd c z.2)) (fun n27 => pk_eq i lo (fun c => keep dq hdq hdl (fun _ q => by omega)) (fun nlo => ?_)))
        · have := z.1; omega
        · have z : rg_z tk lo i := ⟨by omega, n27⟩
          have ilo : lo < i := by omega
          refine pk_eq (tk i) 24 (fun c => ?_) (fun n24 => ?_)
          · have w1 : rg_w (tk i) (tk (i - 1)) = 1 := by rw [c]; rfl
            have ip : i = p := by
              rcases Nat.lt_trichotomy i p with q | q | q
              · exact absurd w1 (c6 i ilo q z).2
              · exact q
              · exact absurd w1 (c7 i q (by omega) z (hA q).1).2
            rw [ip]; exact h
          · have e1 : nI i - 1 = nI (i - 1) := pk_sub (b := 1) (by omega)
            rw [e1]
            refine ⟨vp_in_nI (by omega) (by decide), fun b eb => ?_⟩
            rw [nI_clamp (by omega), ht (i - 1) (by omega)] at eb
            subst eb
            have b27 := hk (i - 1) (by omega)
            have go : wY_cut_219 post (wY_cut_12 post (nI lo) (nI hi) f_width f_length f_place f_toks f_nodes f_defs a_text a_tok a_tokNum a_tokPlace a_opened a_nOp a_nNum a_nPlace a_nA a_nB a_nC a_nLo a_nHi a_nLevel a_defName a_defPlace a_defRoot a_loaded a_count a_status a_number a_origin a_choice a_slotF a_slotX a_slotHeld n) (nI lo) (nI hi) x3 x4 (nI dq) (nI i) (nI (if rg_w (tk i) (tk (i - 1)) = 9 then 9 else rg_w (tk i) (tk (i - 1)) - 1)) f_width f_length f_place f_toks f_nodes f_defs a_text a_tok a_tokNum a_tokPlace a_opened a_nOp a_nNum a_nPlace a_nA a_nB a_nC a_nLo a_nHi a_nLevel a_defName a_defPlace a_defRoot a_loaded a_count a_status a_number a_origin a_choice a_slotF a_slotX a_slotHeld := by
              have wr : rg_w (tk i) (tk (i - 1)) = 9 ∨ (2 ≤ rg_w (tk i) (tk (i - 1)) ∧ rg_w (tk i) (tk (i - 1)) ≤ 6) := by
                unfold rg_w
                rw [if_neg n24]
                repeat' split
                all_goals omega
              rcases wr with w9 | wr
              · rw [if_pos w9]
                refine br_t (by decide) (keep dq hdq hdl (fun _ _ => ?_))
                have : i ≠ p := fun q => by
                  have := c5 (by omega)
                  rw [← q] at this
                  omega
                omega
              · rw [if_neg (by omega)]
                refine br_f (nI_ge (b := 9) (by omega) (by omega)) ?_
                rcases Nat.lt_trichotomy i p with q | q | q
                · obtain ⟨a, wk, b, c⟩ := hB (by omega)
                  have v := c6 i ilo q z
                  rw [b]
                  refine pk_lt wk (rg_w (tk i) (tk (i - 1)) - 1) (fun _ => b ▸ keep dq hdq hdl (fun _ _ => Or.inr q)) (fun _ y ey => ?_)
                  rw [ey, nI_1]
                  exact ih (i + 1) _ _ dq (by omega) (by omega) hdq hdl (fun q2 => by omega) (fun _ => ⟨fun q2 => by omega, _, rfl, Or.inr ⟨by omega, by omega⟩⟩) n (by omega)
                · obtain ⟨a, wk, b, c⟩ := hB (by omega)
                  have v := c5 (by omega)
                  rw [← q] at v
                  rw [b]
                  refine pk_lt wk (rg_w (tk i) (tk (i - 1)) - 1) (fun c2 => ?_) (fun _ y ey => ?_)
                  · omega
                  · rw [ey, nI_1]
                    exact ih (i + 1) _ _ dq (by omega) (by omega) hdq hdl (fun q2 => ⟨by omega, by rw [q], by rw [if_neg (by omega), v.2.1]⟩) (fun q2 => by omega) n (by omega)
                · obtain ⟨a1, a2, a3⟩ := hA q
                  have v := c7 i q (by omega) z a1
                  have np : p ≠ lo := fun q2 => by have := c4 q2; omega
                  rw [if_neg np] at a3
                  rw [a3]
                  refine pk_lt (W - 1) (rg_w (tk i) (tk (i - 1)) - 1) (fun _ => a3 ▸ keep dq hdq hdl (fun _ _ => Or.inl q)) (fun c2 => ?_)
                  omega
            have e129 : rg_en (tk (i - 1)) → wY_cut_129 post (wY_cut_12 post (nI lo) (nI hi) f_width f_length f_place f_toks f_nodes f_defs a_text a_tok a_tokNum a_tokPlace a_opened a_nOp a_nNum a_nPlace a_nA a_nB a_nC a_nLo a_nHi a_nLevel a_defName a_defPlace a_defRoot a_loaded a_count a_status a_number a_origin a_choice a_slotF a_slotX a_slotHeld n) (nI lo) (nI hi) x3 x4 (nI dq) (nI i) (nI (tk i)) f_width f_length f_place f_toks f_nodes f_defs a_text a_tok a_tokNum a_tokPlace a_opened a_nOp a_nNum a_nPlace a_nA a_nB a_nC a_nLo a_nHi a_nLevel a_defName a_defPlace a_defRoot a_loaded a_count a_status a_number a_origin a_choice a_slotF a_slotX a_slotHeld := fun en => cu_134 (z := 1) k27 n24 (Or.inl ⟨rfl, en⟩) go
            refine pk_eq (tk (i - 1)) 27 (fun c => e129 (by omega)) (fun c1 => pk_eq (tk (i - 1)) 1 (fun c => e129 (by omega)) (fun c2 => pk_eq (tk (i - 1)) 2 (fun c => e129 (by omega)) (fun c3 => pk_eq (tk (i - 1)) 10 (fun c => e129 (by omega)) (fun c4 => pk_eq (tk (i - 1)) 11 (fun c => e129 (by omega)) (fun c5 => pk_eq (tk (i - 1)) 12 (fun c => e129 (by omega)) (fun c6 => ?_))))))
            exact cu_134 (z := 0) k27 n24 (Or.inr ⟨rfl, by omega⟩) go
      refine pk_eq (tk i) 26 (fun c => fun y ey => ?_) (fun n26 => ?_)
      · have hd := rg_D_o c
        rw [nI_1] at ey
        subst ey
        exact br_f (fun q => by have := (nI_eq (b := 27) (by omega) (by decide)).mp q; omega) (m47 (dp + 1) (by omega) (by omega))
      · refine pk_eq (tk i) 27 (fun c => fun y ey => ?_) (fun n27 => ?_)
        · have hd := rg_D_c c
          obtain ⟨dq, rfl⟩ : ∃ dq, dp = dq + 1 := ⟨dp - 1, by omega⟩
          rw [pk_m1] at ey
          subst ey
          exact m47 dq (by omega) (by omega)
        · have hd := rg_D_n n26 n27
          exact m47 dp (by omega) (by omega)
  exact ⟨_, key (hi - lo) lo (nI lo) 9 0 (by omega) (Nat.le_refl _) (by omega) (by omega) (fun q => by omega) (fun _ => ⟨fun _ => rfl, 9, rfl, Or.inl rfl⟩) _ (Nat.lt_succ_self _)⟩
theorem pt_Y {T : Nat} (hT : T ≤ 200) (ht : ∀ i, i < T → a_tok i = nI (tk i)) (hk : ∀ i, i < T → tk i ≤ 27) {what i q : Nat} (hw : what = 4 ∨ what = 5) {C : Nat → Int}
    (hs : ∀ k, C (k + 1) = C k + (if tk k = what then -1 else if tk k = 3 ∨ (tk k = 6 ∧ what = 5) then 1 else 0)) (hN : rg_N C (i + 1) q) (hq : tk q = what) (hiq : i < q) (hqT : q < T) (h : post (nI q)) :
    wpY_partner post (f_width, f_length, f_place, nI T, f_nodes, f_defs, a_text, a_tok, a_tokNum, a_tokPlace, a_opened, a_nOp, a_nNum, a_nPlace, a_nA, a_nB, a_nC, a_nLo, a_nHi, a_nLevel, a_defName, a_defPlace, a_defRoot, a_loaded, a_count, a_status, a_number, a_origin, a_choice, a_slotF, a_slotX, a_slotHeld) (nI i) (nI what) := by
  have key : ∀ d k op, k + d = q → i + 1 ≤ k → ((op : Nat) : Int) = C k - C (i + 1) → op ≤ k → ∀ n, d < n → wY_partner_7 post (nI what) f_width f_length f_place (nI T) f_nodes f_defs a_text a_tok a_tokNum a_tokPlace a_opened a_nOp a_nNum a_nPlace a_nA a_nB a_nC a_nLo a_nHi a_nLevel a_defName a_defPlace a_defRoot a_loaded a_count a_status a_number a_origin a_choice a_slotF a_slotX a_slotHeld n (nI op) (nI k) := by
    intro d
    induction d with
    | zero =>
      intro k op hkq hik hop hopk n hn
      obtain ⟨n, rfl⟩ : ∃ m, n = m + 1 := ⟨n - 1, by omega⟩
      have ek : k = q := by omega
      subst ek
      refine br_f (nI_ge hqT (by omega)) ⟨vp_in_nI (by omega) (by decide), fun y ey => ?_⟩
      rw [nI_clamp (by omega), ht k hqT, hq] at ey
      have o0 : op = 0 := by have := hN.1; omega
      subst ey o0
      exact br_t rfl (br_t rfl h)
    | succ d ih =>
      intro k op hkq hik hop hopk n hn
      obtain ⟨n, rfl⟩ : ∃ m, n = m + 1 := ⟨n - 1, by omega⟩
      have kT : k < T := by omega
      have k27 := hk k kT
      have st := hs k
      have ge := hN.2 (k + 1) (by omega) (by omega)
      refine br_f (nI_ge kT (by omega)) ⟨vp_in_nI (by omega) (by decide), fun y ey => ?_⟩
      rw [nI_clamp (by omega), ht k kT] at ey
      subst ey
      have nxt : ∀ o2 : Nat, ((o2 : Nat) : Int) = C (k + 1) - C (i + 1) → o2 ≤ k + 1 → ∀ y, y = nI k + 1 → wY_partner_7 post (nI what) f_width f_length f_place (nI T) f_nodes f_defs a_text a_tok a_tokNum a_tokPlace a_opened a_nOp a_nNum a_nPlace a_nA a_nB a_nC a_nLo a_nHi a_nLevel a_defName a_defPlace a_defRoot a_loaded a_count a_status a_number a_origin a_choice a_slotF a_slotX a_slotHeld n (nI o2) y := by
        intro o2 h1 h2 y ey
        rw [ey, nI_1]
        exact ih (k + 1) o2 (by omega) (by omega) h1 h2 n (by omega)
      refine pk_eq (tk k) what (fun c => pk_eq op 0 (fun o0 => ?_) (fun on => ?_)) (fun c => ?_)
      · rw [if_pos c] at st
        omega
      · rw [if_pos c] at st
        obtain ⟨o2, rfl⟩ : ∃ o2, op = o2 + 1 := ⟨op - 1, by omega⟩
        refine br_t (by rw [c]) (fun y ey => ?_)
        rw [pk_m1] at ey
        subst ey
        refine br_f (fun q => by have := (nI_eq (b := 3) (by omega) (by decide)).mp q; omega) (br_f (fun q => by have := (nI_eq (b := 6) (by omega) (by decide)).mp q; omega) (nxt o2 (by omega) (by omega)))
      · rw [if_neg c] at st
        refine br_f (fun q => c ((nI_eq (by omega) (by omega)).mp q)) ?_
        refine pk_eq (tk k) 3 (fun c3 => fun y ey => ?_) (fun n3 => pk_eq (tk k) 6 (fun c6 => pk_eq what 5 (fun w5 => fun y ey => ?_) (fun w5 => ?_)) (fun n6 => ?_))
        · rw [if_pos (by omega)] at st
          rw [nI_1] at ey
          subst ey
          exact nxt (op + 1) (by omega) (by omega)
        · rw [if_pos (by omega)] at st
          rw [nI_1] at ey
          subst ey
          exact nxt (op + 1) (by omega) (by omega)
        · rw [if_neg (by omega)] at st
          exact nxt op (by omega) (by omega)
        · rw [if_neg (by omega)] at st
          exact nxt op (by omega) (by omega)
  intro y ey
  rw [nI_1] at ey
  subst ey
  exact ⟨_, key (q - (i + 1)) (i + 1) 0 (by omega) (Nat.le_refl _) (by omega) (by omega) _ (Nat.lt_succ_self _)⟩
theorem pt_T (k : Nat) : rg_T tk (k + 1) = rg_T tk k + (if tk k = 4 then -1 else if tk k = 3 ∨ (tk k = 6 ∧ 4 = 5) then 1 else 0) := by
  by_cases c : tk k = 4
  · rw [rg_T_c c, if_pos c]; rfl
  · rw [if_neg c]
    by_cases d : tk k = 3
    · rw [rg_T_o d, if_pos (Or.inl d)]
    · rw [rg_T_n d c, if_neg (by omega), Int.add_zero]
theorem pt_E (k : Nat) : rg_E tk (k + 1) = rg_E tk k + (if tk k = 5 then -1 else if tk k = 3 ∨ (tk k = 6 ∧ 5 = 5) then 1 else 0) := by
  by_cases c : tk k = 5
  · rw [rg_E_c c, if_pos c]; rfl
  · rw [if_neg c]
    by_cases d : tk k = 3 ∨ tk k = 6
    · rw [rg_E_o d, if_pos (by omega)]
    · rw [rg_E_n (by omega) (by omega) c, if_neg (by omega), Int.add_zero]
theorem pr_Y {N : Nat} (hN : N < 320) {p0 p1 p2 : Int32} {post : Int32 → SY → Prop} (h : post (nI N) (f_width, f_length, f_place, f_toks, nI (N + 1), f_defs, a_text, a_tok, a_tokNum, a_tokPlace, a_opened, a_nOp, a_nNum, a_nPlace, a_nA, a_nB, a_nC, upd a_nLo N p0, upd a_nHi N p1, upd a_nLevel N p2, a_defName, a_defPlace, a_defRoot, a_loaded, a_count, a_status, a_number, a_origin, a_choice, a_slotF, a_slotX, a_slotHeld)) : wpY_part post (f_width, f_length, f_place, f_toks, nI N, f_defs, a_text, a_tok, a_tokNum, a_tokPlace, a_opened, a_nOp, a_nNum, a_nPlace, a_nA, a_nB, a_nC, a_nLo, a_nHi, a_nLevel, a_defName, a_defPlace, a_defRoot, a_loaded, a_count, a_status, a_number, a_origin, a_choice, a_slotF, a_slotX, a_slotHeld) p0 p1 p2 := by
  have hin := vp_in_nI (n := N) (N := 320) hN (by decide)
  refine ⟨hin, fun A eA => ⟨hin, fun B eB => ⟨hin, fun C eC D eD => ?_⟩⟩⟩
  rw [nI_clamp (by omega)] at eA eB eC
  rw [nI_1] at eD
  subst eA eB eC eD
  exact h
end
