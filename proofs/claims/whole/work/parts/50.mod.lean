-- THE MODULE as parsed: pure facts
theorem df_Af {Tk : List tz_T} {dp df de : Nat → Int32} : ∀ (dl : List df_D), df_A Tk dp df de dl → ∀ (i : Nat) (d : df_D), dl.reverse[i]? = some d → dp i = nI (tt_p Tk d.1) ∧ df i = nI d.2.1 ∧ de i = nI d.2.2.1 := by
  intro dl
  induction dl with
  | nil => intro _ i d h; simp at h
  | cons a r ih =>
    intro h i d hi
    obtain ⟨h1, h2, h3, h4⟩ := h
    rw [List.reverse_cons] at hi
    rcases Nat.lt_trichotomy i r.length with q | q | q
    · rw [List.getElem?_append_left (by rw [List.length_reverse]; exact q)] at hi
      exact ih h4 i d hi
    · subst q
      rw [List.getElem?_append_right (by rw [List.length_reverse]; exact Nat.le_refl _), List.length_reverse, Nat.sub_self] at hi
      simp at hi
      subst hi
      exact ⟨h1, h2, h3⟩
    · rw [List.getElem?_eq_none (by rw [List.length_append, List.length_reverse]; simp; omega)] at hi
      exact absurd hi (by simp)
-- each def of a list, and where it lies
theorem md_i {tk : Nat → Nat} {Q : Nat → Nat → Nat} : ∀ (r : List df_D) (t e t2 e2 : Nat), md_F tk Q r t e t2 e2 → ∀ (i : Nat) (d : df_D), r[i]? = some d → md_D tk Q d ∧ t ≤ d.1 ∧ d.2.2.2 < t2 ∧ e ≤ d.2.1 ∧ d.2.2.1 ≤ e2 := by
  intro r
  induction r with
  | nil => intro t e t2 e2 _ i d h; simp at h
  | cons a r ih =>
    intro t e t2 e2 h i d hi
    obtain ⟨h1, h2, h3, h4⟩ := h
    have le := md_le _ _ _ _ _ h4
    have := h3.2.2.2.2.2.1.1
    have := h3.2.2.2.2.2.2.2.1
    cases i with
    | zero =>
      simp at hi
      subst hi
      exact ⟨h3, by omega, by omega, by omega, by omega⟩
    | succ i =>
      simp at hi
      obtain ⟨q1, q2, q3, q4, q5⟩ := ih _ _ _ _ h4 i d hi
      exact ⟨q1, by omega, q3, by omega, q5⟩
theorem md_o {tk : Nat → Nat} {Q : Nat → Nat → Nat} : ∀ (r : List df_D) (t e t2 e2 : Nat), md_F tk Q r t e t2 e2 → ∀ (i j : Nat) (d c : df_D), i < j → r[i]? = some d → r[j]? = some c → d.2.2.2 < c.1 ∧ d.2.2.1 ≤ c.2.1 := by
  intro r
  induction r with
  | nil => intro t e t2 e2 _ i j d c _ h; simp at h
  | cons a r ih =>
    intro t e t2 e2 h i j d c hij hi hj
    obtain ⟨h1, h2, h3, h4⟩ := h
    obtain ⟨j, rfl⟩ : ∃ k, j = k + 1 := ⟨j - 1, by omega⟩
    simp at hj
    cases i with
    | zero =>
      simp at hi
      subst hi
      obtain ⟨q1, q2, q3, q4, q5⟩ := md_i r _ _ _ _ h4 j c hj
      exact ⟨by omega, q4⟩
    | succ i =>
      simp at hi
      exact ih _ _ _ _ h4 i j d c (by omega) hi hj
-- every node and every token lies in some def
theorem md_n {tk : Nat → Nat} {Q : Nat → Nat → Nat} : ∀ (r : List df_D) (t e t2 e2 : Nat), md_F tk Q r t e t2 e2 → ∀ u, e ≤ u → u < e2 → ∃ (i : Nat) (d : df_D), r[i]? = some d ∧ d.2.1 ≤ u ∧ u < d.2.2.1 := by
  intro r
  induction r with
  | nil => intro t e t2 e2 h u h1 h2; obtain ⟨_, rfl⟩ := h; omega
  | cons a r ih =>
    intro t e t2 e2 h u hu1 hu2
    obtain ⟨h1, h2, h3, h4⟩ := h
    by_cases q : u < a.2.2.1
    · exact ⟨0, a, rfl, by omega, q⟩
    · obtain ⟨i, d, x1, x2⟩ := ih _ _ _ _ h4 u (by omega) hu2
      exact ⟨i + 1, d, x1, x2⟩
theorem md_t {tk : Nat → Nat} {Q : Nat → Nat → Nat} : ∀ (r : List df_D) (t e t2 e2 : Nat), md_F tk Q r t e t2 e2 → ∀ u, t ≤ u → u < t2 → ∃ (i : Nat) (d : df_D), r[i]? = some d ∧ d.1 ≤ u ∧ u ≤ d.2.2.2 := by
  intro r
  induction r with
  | nil => intro t e t2 e2 h u h1 h2; obtain ⟨rfl, _⟩ := h; omega
  | cons a r ih =>
    intro t e t2 e2 h u hu1 hu2
    obtain ⟨h1, h2, h3, h4⟩ := h
    by_cases q : u ≤ a.2.2.2
    · exact ⟨0, a, rfl, by omega, q⟩
    · obtain ⟨i, d, x1, x2⟩ := ih _ _ _ _ h4 u (by omega) hu2
      exact ⟨i + 1, d, x1, x2⟩
-- names
def mn_f (Tk : List tz_T) (ds : List df_D) (i : Nat) : Nat := tt_n Tk (ds[i]?.getD (0, 0, 0, 0)).1
theorem mn_s {Tk : List tz_T} {ds : List df_D} {i : Nat} {d : df_D} (h : ds[i]? = some d) : mn_f Tk ds i = tt_n Tk d.1 := by
  unfold mn_f; rw [h]; rfl
def mn_m (f : Nat → Nat) : Nat → Nat
  | 0 => 0
  | i + 1 => mn_m f i ||| 2 ^ f i
theorem mn_b {f : Nat → Nat} : ∀ (n : Nat), (∀ i, i < n → f i < 5) → mn_m f n < 32 ∧ ∀ k, k < 5 → ((mn_m f n).testBit k = true ↔ ∃ i, i < n ∧ f i = k) := by
  intro n
  induction n with
  | zero => intro _; exact ⟨(by decide : 0 < 32), fun k _ => by simp [mn_m]⟩
  | succ n ih =>
    intro h
    obtain ⟨i1, i2⟩ := ih (fun i hi => h i (by omega))
    have hn := h n (by omega)
    refine ⟨?_, fun k hk => ?_⟩
    · show mn_m f n ||| 2 ^ f n < 32
      have : 2 ^ f n < 2 ^ 5 := Nat.pow_lt_pow_right (by decide) hn
      exact Nat.or_lt_two_pow (n := 5) i1 this
    · show (mn_m f n ||| 2 ^ f n).testBit k = true ↔ _
      rw [Nat.testBit_or, Bool.or_eq_true, i2 k hk, Nat.testBit_two_pow]
      constructor
      · rintro (⟨i, h1, h2⟩ | q)
        · exact ⟨i, by omega, h2⟩
        · exact ⟨n, by omega, by simpa using q⟩
      · rintro ⟨i, h1, h2⟩
        by_cases q : i = n
        · right; subst q; simpa using h2
        · left; exact ⟨i, by omega, h2⟩
theorem mn_1 : ∀ m, m < 32 → ∀ f, f < 5 → ((nI m &&& ((1 : Int32) <<< (nI f &&& 31))) = 0 ↔ m.testBit f = false) := by decide +kernel
theorem mn_2 : ∀ m, m < 32 → ∀ f, f < 5 → (nI m ||| ((1 : Int32) <<< (nI f &&& 31))) = nI (m ||| 2 ^ f) := by decide +kernel
theorem mn_3 : ∀ m, m < 32 → ∀ f, f < 5 → (((nI m >>> (nI f &&& 31)) &&& 1) = 0 ↔ m.testBit f = false) := by decide +kernel
-- the first def that is double, too large or too deep
def ck_n (Q : Nat → Nat → Nat) (n : Nat) : Nat := ct_n (fun i => Q 0 i == 24) n
def ck_f (Q : Nat → Nat → Nat) (f : Nat → Nat) (ds : List df_D) (i r : Nat) : Prop :=
  ∃ d, ds[i]? = some d ∧ (((∃ j, j < i ∧ f j = f i) ∧ r = 4) ∨ (¬ (∃ j, j < i ∧ f j = f i) ∧
    ((24 < d.2.2.1 - d.2.1 ∨ 3 < ck_n Q d.2.2.1 - ck_n Q d.2.1) ∧ r = 5 ∨ ¬ (24 < d.2.2.1 - d.2.1 ∨ 3 < ck_n Q d.2.2.1 - ck_n Q d.2.1) ∧ (8 < Q 11 (d.2.2.1 - 1) ∧ r = 6 ∨ ¬ 8 < Q 11 (d.2.2.1 - 1) ∧ r = 1))))
theorem ck_u {Q : Nat → Nat → Nat} {f : Nat → Nat} {ds : List df_D} {i r s : Nat} (h : ck_f Q f ds i r) (g : ck_f Q f ds i s) : r = s := by
  obtain ⟨d, h1, h2⟩ := h
  obtain ⟨c, g1, g2⟩ := g
  rw [h1] at g1
  have := Option.some.inj g1
  subst this
  rcases h2 with ⟨a, rfl⟩ | ⟨a, ⟨b, rfl⟩ | ⟨b, ⟨c, rfl⟩ | ⟨c, rfl⟩⟩⟩ <;> rcases g2 with ⟨a2, rfl⟩ | ⟨a2, ⟨b2, rfl⟩ | ⟨b2, ⟨c2, rfl⟩ | ⟨c2, rfl⟩⟩⟩ <;> first | rfl | (exact absurd a a2) | (exact absurd a2 a) | (exact absurd b b2) | (exact absurd b2 b) | (exact absurd c c2) | (exact absurd c2 c)
theorem ck_ex (Q : Nat → Nat → Nat) (f : Nat → Nat) {ds : List df_D} {i : Nat} (hi : i < ds.length) : ∃ r, ck_f Q f ds i r := by
  have hs : ds[i]? = some ds[i] := List.getElem?_eq_getElem hi
  by_cases a : ∃ j, j < i ∧ f j = f i
  · exact ⟨4, _, hs, Or.inl ⟨a, rfl⟩⟩
  · by_cases b : 24 < ds[i].2.2.1 - ds[i].2.1 ∨ 3 < ck_n Q ds[i].2.2.1 - ck_n Q ds[i].2.1
    · exact ⟨5, _, hs, Or.inr ⟨a, Or.inl ⟨b, rfl⟩⟩⟩
    · by_cases c : 8 < Q 11 (ds[i].2.2.1 - 1)
      · exact ⟨6, _, hs, Or.inr ⟨a, Or.inr ⟨b, Or.inl ⟨c, rfl⟩⟩⟩⟩
      · exact ⟨1, _, hs, Or.inr ⟨a, Or.inr ⟨b, Or.inr ⟨c, rfl⟩⟩⟩⟩
def ck_R (Q : Nat → Nat → Nat) (f : Nat → Nat) (ds : List df_D) (o : Option (Nat × Nat)) : Prop :=
  (o = none ∧ ∀ i, i < ds.length → ck_f Q f ds i 1) ∨ (∃ i r, o = some (i, r) ∧ i < ds.length ∧ r ≠ 1 ∧ ck_f Q f ds i r ∧ ∀ j, j < i → ck_f Q f ds j 1)
theorem ck_Rex (Q : Nat → Nat → Nat) (f : Nat → Nat) (ds : List df_D) : ∃ o, ck_R Q f ds o := by
  by_cases h : ∃ i, i < ds.length ∧ ¬ ck_f Q f ds i 1
  · obtain ⟨k, ⟨k1, k2⟩, k3⟩ := pk_least (fun i => i < ds.length ∧ ¬ ck_f Q f ds i 1) h
    obtain ⟨r, hr⟩ := ck_ex Q f k1
    refine ⟨some (k, r), Or.inr ⟨k, r, rfl, k1, fun q => k2 (q ▸ hr), hr, fun j hj => ?_⟩⟩
    exact Classical.byContradiction (fun q => k3 j hj ⟨by omega, q⟩)
  · exact ⟨none, Or.inl ⟨rfl, fun i hi => Classical.byContradiction (fun q => h ⟨i, hi, q⟩)⟩⟩
-- the first unknown name
def uk_t (Tk : List tz_T) (P : Nat → Nat → Nat) (f : Nat → Nat) (n : Nat) (i : Nat) : Prop := tt_k Tk i = 13 ∧ (¬ ∃ j, j < n ∧ f j = tt_n Tk i) ∧ P 5 (tt_n Tk i) = 0
def uk_R (Tk : List tz_T) (P : Nat → Nat → Nat) (f : Nat → Nat) (n : Nat) (o : Option Nat) : Prop :=
  (o = none ∧ ∀ i, i < Tk.length → ¬ uk_t Tk P f n i) ∨ (∃ i, o = some i ∧ i < Tk.length ∧ uk_t Tk P f n i ∧ ∀ j, j < i → ¬ uk_t Tk P f n j)
theorem uk_ex (Tk : List tz_T) (P : Nat → Nat → Nat) (f : Nat → Nat) (n : Nat) : ∃ o, uk_R Tk P f n o := by
  by_cases h : ∃ i, i < Tk.length ∧ uk_t Tk P f n i
  · obtain ⟨k, ⟨k1, k2⟩, k3⟩ := pk_least (fun i => i < Tk.length ∧ uk_t Tk P f n i) h
    exact ⟨some k, Or.inr ⟨k, rfl, k1, k2, fun j hj q => k3 j hj ⟨by omega, q⟩⟩⟩
  · exact ⟨none, Or.inl ⟨rfl, fun i hi q => h ⟨i, hi, q⟩⟩⟩
