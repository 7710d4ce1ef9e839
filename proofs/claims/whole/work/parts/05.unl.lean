-- where a rule looks, and what unload leaves
theorem ou_md_in {P : Nat → Nat → Nat} {kc K : Nat → Nat} {S : Nat → Prop} {c : Nat} {a : ou_O} (hP : pg_ok P) (hK : ty_ok P kc K)
    (hS : ∀ u, ou_us P u → S u → (∀ j, j < pg_n (P 0 u) → S (P (2 + j) u)) ∧ (P 0 u = 13 → S (P 1 u * 24 + P 5 (P 1 u) - 1)))
    (hu : ou_uc P c) (hs : S (c / 6)) (hl : ¬ ou_lf (P 0 (c / 6)) = true) (ta : ty_o P K (ou_ps P 2 c) a)
    (la : ∀ j, j < 720 → a.1 = 1 → a.2.1 = 3 → a.2.2 = lN (j + 1) → S (j / 6)) :
    ((ou_md P c a).1 = 0 ∧ ((ou_md P c a).2.2 = a ∨ (ou_md P c a).2.2.2.1 ≠ 3)) ∨
    ((ou_md P c a).1 ≠ 0 ∧ ou_uc P (ou_md P c a).2.1 ∧ S ((ou_md P c a).2.1 / 6)) := by
  obtain ⟨hKu, hm⟩ := hK.1 _ hu.1
  obtain ⟨ho, _, hcl, hpt⟩ := hP.2.2.2 _ hu.1
  have hw := hP.2.1
  have hSu := hS _ hu.1 hs
  have use : ∀ k j d, k = 2 + j → ou_uc P d → S (d / 6) → j < pg_n (P 0 (d / 6)) → ou_uc P (ou_ps P k d) ∧ S (ou_ps P k d / 6) := by
    intro k j d hk hd sd hj
    obtain ⟨_, _, _, hp⟩ := hP.2.2.2 _ hd.1
    rw [ou_uc, ou_ps_d, ou_ps_m, hk]
    exact ⟨⟨pg_pu hd.1 (hp j hj).1 (hp j hj).2, hd.2⟩, (hS _ hd.1 sd).1 j hj⟩
  have one : ∀ m : Nat × Nat × ou_O, ou_md P c a = m → m.1 ≠ 0 → ou_uc P m.2.1 ∧ S (m.2.1 / 6) → ((ou_md P c a).1 = 0 ∧ ((ou_md P c a).2.2 = a ∨ (ou_md P c a).2.2.2.1 ≠ 3)) ∨ ((ou_md P c a).1 ≠ 0 ∧ ou_uc P (ou_md P c a).2.1 ∧ S ((ou_md P c a).2.1 / 6)) := by
    intro m e h1 h2; rw [e]; exact Or.inr ⟨h1, h2⟩
  have zer : ∀ m : Nat × Nat × ou_O, ou_md P c a = m → m.1 = 0 → (m.2.2 = a ∨ m.2.2.2.1 ≠ 3) → ((ou_md P c a).1 = 0 ∧ ((ou_md P c a).2.2 = a ∨ (ou_md P c a).2.2.2.1 ≠ 3)) ∨ ((ou_md P c a).1 ≠ 0 ∧ ou_uc P (ou_md P c a).2.1 ∧ S ((ou_md P c a).2.1 / 6)) := by
    intro m e h1 h2; rw [e]; exact Or.inl ⟨h1, h2⟩
  by_cases h6 : P 0 (c / 6) = 6
  · by_cases h1 : a.1 = 1
    · exact zer (0, 0, a) (by simp [ou_md, h6, h1]) rfl (Or.inl rfl)
    · exact one (1, ou_ps P 3 c, a) (by simp [ou_md, h6, h1]) (by simp) (use 3 1 c rfl hu hs (by rw [h6]; decide))
  · by_cases h1 : ¬ a.1 = 1
    · exact zer (0, 0, a) (by simp [ou_md, h6, h1]) rfl (Or.inl rfl)
    · have h1 : a.1 = 1 := Classical.not_not.mp h1
      obtain ⟨_, hta, htb, htl⟩ : a.1 = 1 ∧ a.2.1 = K (P 2 (c / 6)) ∧ (a.2.1 = 2 → a.2.2 = 0 ∨ a.2.2 = 1) ∧
          (a.2.1 = 3 → a.2.2 = 0 ∨ ∃ j, j < 720 ∧ ou_uc P j ∧ P 0 (j / 6) = 24 ∧ a.2.2 = lN (j + 1)) := by
        rcases ta with ta | ta
        · rw [ou_ps_d] at ta; exact ta
        · have := ta.1; omega
      rcases pg_cs ho with t | t | t | t | t | t | t | t | t | t | t | t | t | t | t | t | t
      · exact absurd (by rw [t]; rfl) hl
      · exact absurd (by rw [t]; rfl) hl
      · by_cases hv : a.2.2 = 0
        · exact one (1, ou_ps P 4 c, a) (by simp [ou_md, t, h1, hv]) (by simp) (use 4 2 c rfl hu hs (by rw [t]; decide))
        · exact one (1, ou_ps P 3 c, a) (by simp [ou_md, t, h1, hv]) (by simp) (use 3 1 c rfl hu hs (by rw [t]; decide))
      · exact absurd t h6
      · by_cases hv : a.2.2 = 0
        · exact zer (0, 0, (5, 0, 0)) (by simp [ou_md, t, h1, hv]) rfl (Or.inr (by simp))
        · rw [t] at hm
          simp [ki_m] at hm
          rcases htl (by rw [hta, hm]) with q | ⟨j, hj, hju, hj24, hjv⟩
          · exact absurd q hv
          · exact one (1, ou_ps P 2 j, a) (by simp [ou_md, t, h1, hv]; rw [hjv, ou_jn_e hj]) (by simp) (use 2 0 j rfl hju (la j hj h1 (by rw [hta, hm]) hjv) (by rw [hj24]; decide))
      · by_cases hv : a.2.2 = 0
        · exact zer (0, 0, (5, 0, 0)) (by simp [ou_md, t, h1, hv]) rfl (Or.inr (by simp))
        · rw [t] at hm
          simp [ki_m] at hm
          rcases htl (by rw [hta, hm]) with q | ⟨j, hj, hju, hj24, hjv⟩
          · exact absurd q hv
          · exact one (1, ou_ps P 3 j, a) (by simp [ou_md, t, h1, hv]; rw [hjv, ou_jn_e hj]) (by simp) (use 3 1 j rfl hju (la j hj h1 (by rw [hta, hm]) hjv) (by rw [hj24]; decide))
      · exact zer (0, 0, (1, 2, if a.2.2 = 0 then 1 else 0)) (by simp [ou_md, t, h1]) rfl (Or.inr (by simp))
      · exact absurd (by rw [t]; rfl) hl
      · exact absurd (by rw [t]; rfl) hl
      · exact absurd (by rw [t]; rfl) hl
      · by_cases hv : a.2.2 < 0 ∨ lN (P 6 0) ≤ a.2.2
        · exact zer (0, 0, (4, 0, 0)) (by unfold ou_md; simp only [t, h1]; rw [if_pos hv]; simp) rfl (Or.inr (by simp))
        · obtain ⟨x, hx, _, hxn⟩ := ou_arg (by omega) hv
          obtain ⟨hf, hsz⟩ := hcl t
          refine one (1, ou_cf P (P 1 (c / 6)) x, a) (by unfold ou_md; simp only [t, h1]; rw [if_neg hv, hxn]; simp) (by simp) ?_
          dsimp only
          rw [ou_uc, ou_cf_d (by omega), ou_cf_m (by omega)]
          exact ⟨⟨pg_ru hP hf hsz, hx⟩, hSu.2 t⟩
      · refine one (2, ou_ps P 3 c, a) ?_ (by simp) (use 3 1 c rfl hu hs ?_)
        · unfold ou_md
          rw [if_neg (by omega), if_neg (by simp [h1]), if_neg (by omega), if_neg (by omega), if_neg (by omega), if_neg (by omega), if_neg (by omega), if_neg (by omega), if_neg (by omega), if_neg (by omega)]
        · unfold pg_n
          rw [if_neg (by omega), if_neg (by omega), if_neg (by omega)]; decide
      · by_cases hv : a.2.2 = 0
        · exact zer (0, 0, a) (by simp [ou_md, t, h1, hv]) rfl (Or.inl rfl)
        · exact one (1, ou_ps P 3 c, a) (by simp [ou_md, t, h1, hv]) (by simp) (use 3 1 c rfl hu hs (by rw [t]; decide))
      · by_cases hv : a.2.2 = 0
        · exact one (1, ou_ps P 3 c, a) (by simp [ou_md, t, h1, hv]) (by simp) (use 3 1 c rfl hu hs (by rw [t]; decide))
        · exact zer (0, 0, a) (by simp [ou_md, t, h1, hv]) rfl (Or.inl rfl)
      · exact zer (0, 0, (1, 2, if a.2.2 = 0 then 1 else 0)) (by simp [ou_md, t, h1]) rfl (Or.inr (by simp))
      · exact absurd (by rw [t]; rfl) hl
      · exact zer (0, 0, (1, 1, -a.2.2)) (by simp [ou_md, t, h1]) rfl (Or.inr (by simp))
-- unload
def un_P (P : Nat → Nat → Nat) (f : Nat) : Nat → Nat → Nat := fun k g => if k = 5 ∧ g = f then 0 else P k g
theorem un_k {P : Nat → Nat → Nat} {f k : Nat} (h : k ≠ 5) : un_P P f k = P k := by
  funext g; unfold un_P; rw [if_neg (fun q => h q.1)]
theorem un_o {P : Nat → Nat → Nat} {f g : Nat} (h : g ≠ f) : un_P P f 5 g = P 5 g := by
  unfold un_P; rw [if_neg (fun q => h q.2)]
theorem un_f {P : Nat → Nat → Nat} {f : Nat} : un_P P f 5 f = 0 := by
  unfold un_P; rw [if_pos ⟨rfl, rfl⟩]
theorem un_us {P : Nat → Nat → Nat} {f u : Nat} : ou_us (un_P P f) u ↔ ou_us P u ∧ u / 24 ≠ f := by
  constructor
  · intro h
    by_cases e : u / 24 = f
    · have := h.2; rw [e, un_f] at this; omega
    · have h2 := h.2; rw [un_o e] at h2; exact ⟨⟨h.1, h2⟩, e⟩
  · intro h; exact ⟨h.1.1, by rw [un_o h.2]; exact h.1.2⟩
theorem un_uc {P : Nat → Nat → Nat} {f c : Nat} : ou_uc (un_P P f) c ↔ ou_uc P c ∧ c / 6 / 24 ≠ f := by
  unfold ou_uc; rw [un_us, un_k (by decide)]
  constructor
  · intro h; exact ⟨⟨h.1.1, h.2⟩, h.1.2⟩
  · intro h; exact ⟨⟨h.1.1, h.2⟩, h.1.2⟩
theorem un_ps {P : Nat → Nat → Nat} {f k c : Nat} (h : k ≠ 5) : ou_ps (un_P P f) k c = ou_ps P k c := by
  unfold ou_ps; rw [un_k h]
theorem un_md {P : Nat → Nat → Nat} {f c : Nat} {a : ou_O} (h : P 0 (c / 6) = 13 → P 1 (c / 6) ≠ f) : ou_md (un_P P f) c a = ou_md P c a := by
  unfold ou_md
  rw [un_k (f := f) (k := 0) (by decide), un_k (f := f) (k := 1) (by decide), un_k (f := f) (k := 6) (by decide), un_ps (by decide), un_ps (by decide), un_ps (by decide), un_ps (by decide)]
  by_cases h13 : P 0 (c / 6) = 13
  · have e : ∀ x, ou_cf (un_P P f) (P 1 (c / 6)) x = ou_cf P (P 1 (c / 6)) x := by
      intro x; unfold ou_cf; rw [un_o (h h13)]
    rw [e]
  · simp only [if_neg h13]
theorem un_lv {P : Nat → Nat → Nat} {f c : Nat} : ou_lv (un_P P f) c = ou_lv P c := by
  unfold ou_lv; rw [un_k (f := f) (k := 0) (by decide), un_k (f := f) (k := 1) (by decide)]
theorem un_ev {P : Nat → Nat → Nat} {kc K : Nat → Nat} {f : Nat} (hP : pg_ok P) (hK : ty_ok P kc K)
    (hc : ∀ u, ou_us P u → u / 24 ≠ f → P 0 u = 13 → P 1 u ≠ f) :
    ∀ k c, c / 6 / 24 ≠ f → ou_ev (un_P P f) k c = ou_ev P k c ∧
      (∀ o, ou_ev P k c = some o → ∀ j, j < 720 → o.1 = 1 → o.2.1 = 3 → o.2.2 = lN (j + 1) → j / 6 / 24 ≠ f) := by
  intro k
  induction k with
  | zero => intro c _; exact ⟨rfl, fun o h => by simp [ou_ev] at h⟩
  | succ k ih =>
    intro c hcf
    by_cases hu : ou_uc P c
    · have hS : ∀ u, ou_us P u → u / 24 ≠ f → (∀ j, j < pg_n (P 0 u) → P (2 + j) u / 24 ≠ f) ∧ (P 0 u = 13 → (P 1 u * 24 + P 5 (P 1 u) - 1) / 24 ≠ f) := by
        intro u hu2 hf
        obtain ⟨_, _, hcl, hpt⟩ := hP.2.2.2 _ hu2
        refine ⟨fun j hj => by rw [(hpt j hj).2]; exact hf, fun h13 => ?_⟩
        have h1 := hc u hu2 hf h13
        have h2 := hcl h13
        have h3 := hP.2.2.1 (P 1 u)
        omega
      have hu' : ou_uc (un_P P f) c := un_uc.mpr ⟨hu, hcf⟩
      rw [ou_ev1, ou_ev1, if_pos hu, if_pos hu']
      unfold ou_rl
      rw [un_k (f := f) (k := 0) (by decide)]
      by_cases hl : ou_lf (P 0 (c / 6)) = true
      · rw [if_pos hl, if_pos hl, un_lv]
        refine ⟨rfl, fun o ho j hj h1 h3 hv => ?_⟩
        have ho := Option.some.inj ho
        have h : P 0 (c / 6) = 1 ∨ P 0 (c / 6) = 2 ∨ P 0 (c / 6) = 10 ∨ P 0 (c / 6) = 11 ∨ P 0 (c / 6) = 12 ∨ P 0 (c / 6) = 24 := by
          simp [ou_lf] at hl; omega
        subst ho
        have hc7 := ou_uc_lt hu
        rcases h with h | h | h | h | h | h <;> simp [ou_lv, h] at h3 hv
        · have e : lN 0 = lN (j + 1) := hv
          rw [lN_eq (by omega) (by omega)] at e; omega
        · rw [lN_eq (by omega) (by omega)] at hv
          have : c = j := by omega
          rw [← this]; exact hcf
      · rw [if_neg hl, if_neg hl, un_ps (by decide)]
        have hpf : ou_ps P 2 c / 6 / 24 ≠ f := by
          rw [ou_ps_d]
          have hn : 0 < pg_n (P 0 (c / 6)) := by
            have ho := (hP.2.2.2 _ hu.1).1
            unfold pg_n
            split
            · omega
            · split
              · rename_i h; exact absurd (by rcases h with h | h | h | h | h <;> rw [h] <;> rfl) hl
              · split <;> omega
          exact (hS _ hu.1 hcf).1 0 hn
        obtain ⟨ea, la⟩ := ih _ hpf
        rw [ea]
        cases ha : ou_ev P k (ou_ps P 2 c) with
        | none => exact ⟨rfl, fun o ho => by simp at ho⟩
        | some a =>
          have ta := ty_ev hP hK _ _ _ ha
          have lla := la a ha
          simp only [Option.bind_some]
          rw [un_md (hc _ hu.1 hcf)]
          rcases ou_md_in (S := fun u => u / 24 ≠ f) hP hK hS hu hcf hl ta lla with ⟨h0, h00⟩ | ⟨h1, hud, hd⟩
          · unfold ou_go
            rw [if_pos h0, if_pos h0]
            refine ⟨rfl, fun o ho j hj g1 g3 gv => ?_⟩
            have ho := Option.some.inj ho
            rcases h00 with q | q
            · rw [q] at ho; subst ho; exact lla j hj g1 g3 gv
            · rw [ho] at q; exact absurd g3 q
          · obtain ⟨eb, lb⟩ := ih _ hd
            unfold ou_go
            rw [if_neg h1, if_neg h1, eb]
            by_cases hm1 : (ou_md P c a).1 = 1
            · rw [if_pos hm1]
              exact ⟨rfl, lb⟩
            · rw [if_neg hm1]
              refine ⟨rfl, fun o ho j hj g1 g3 gv => ?_⟩
              obtain ⟨b, hb, hr⟩ := ou_bi ho
              by_cases hb1 : b.1 = 1
              · rw [if_pos hb1] at hr
                have hr := Option.some.inj hr
                have : o.2.1 ≠ 3 := by
                  rw [← hr]; unfold ou_ar
                  repeat' split
                  all_goals simp
                exact absurd g3 this
              · rw [if_neg hb1] at hr
                have hr := Option.some.inj hr
                rw [hr] at hb1; exact absurd g1 hb1
    · have hu' : ¬ ou_uc (un_P P f) c := fun q => hu (un_uc.mp q).1
      rw [ou_ev1, ou_ev1, if_neg hu, if_neg hu']
      exact ⟨rfl, fun o h => by simp at h⟩
theorem un_V {P : Nat → Nat → Nat} {kc K : Nat → Nat} {f : Nat} (hP : pg_ok P) (hK : ty_ok P kc K)
    (hc : ∀ u, ou_us P u → u / 24 ≠ f → P 0 u = 13 → P 1 u ≠ f) {c : Nat} (hcf : c / 6 / 24 ≠ f) (o : ou_O) : ou_V (un_P P f) c o ↔ ou_V P c o := by
  constructor
  · intro ⟨k, h⟩; exact ⟨k, by rw [← (un_ev hP hK hc k c hcf).1]; exact h⟩
  · intro ⟨k, h⟩; exact ⟨k, by rw [(un_ev hP hK hc k c hcf).1]; exact h⟩
theorem un_ok {P : Nat → Nat → Nat} {f : Nat} (hP : pg_ok P) (hc : ∀ u, ou_us P u → u / 24 ≠ f → P 0 u = 13 → P 1 u ≠ f) : pg_ok (un_P P f) := by
  refine ⟨?_, ?_, ?_, ?_⟩
  · rw [un_k (by decide)]; exact hP.1
  · rw [un_k (by decide)]; exact hP.2.1
  · intro g
    by_cases e : g = f
    · rw [e, un_f]; omega
    · rw [un_o e]; exact hP.2.2.1 g
  · intro u hu
    obtain ⟨hu, hf⟩ := un_us.mp hu
    obtain ⟨h1, h2, h3, h4⟩ := hP.2.2.2 u hu
    unfold pg_nd
    rw [un_k (f := f) (k := 0) (by decide), un_k (f := f) (k := 1) (by decide)]
    refine ⟨h1, h2, fun q => ?_, fun j hj => ?_⟩
    · rw [un_o (hc u hu hf q)]; exact h3 q
    · have hj3 : j < 3 := by
        have : pg_n (P 0 u) ≤ 3 := by unfold pg_n; repeat' split
                                      all_goals omega
        omega
      rw [un_k (by omega)]; exact h4 j hj
