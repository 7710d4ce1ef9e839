-- Y stores the new program
noncomputable def np_g (Tk : List tz_T) (ds : List df_D) (g gl : Nat → Nat) : Nat → Nat := fun r =>
  match np_d Tk ds (r / 24) with
  | some d => g (d.2.1 + r % 24) + r / 24 * 24 - d.2.1
  | none => gl r
section
variable {P : Nat → Nat → Nat} {Tk : List tz_T} {Q : Nat → Nat → Nat} {ds : List df_D} {e : Nat} {g gl : Nat → Nat}
theorem np_gs {r : Nat} {d : df_D} (h : np_d Tk ds (r / 24) = some d) : np_g Tk ds g gl r = g (d.2.1 + r % 24) + r / 24 * 24 - d.2.1 := by
  unfold np_g; rw [h]
theorem np_gn {r : Nat} (h : np_d Tk ds (r / 24) = none) : np_g Tk ds g gl r = gl r := by
  unfold np_g; rw [h]
-- what is known of g within a def
def np_G (Q : Nat → Nat → Nat) (ds : List df_D) (g : Nat → Nat) : Prop := ∀ (i : Nat) (d : df_D), ds[i]? = some d → bf_B Q d.2.1 d.2.2.1 d.2.2.1 d.2.2.1 g ∧ g d.2.1 + 1 = d.2.2.1 ∧ ∀ j, d.2.1 ≤ j → j < d.2.2.1 → d.2.1 ≤ g j ∧ g j < d.2.2.1
theorem np_gg (H : np_H P Tk Q ds e) (G : np_G Q ds g) (hl : rl_g P gl) : rl_g (np_P P Tk Q ds) (np_g Tk ds g gl) := by
  have H0 := H
  obtain ⟨hP, hle, hu, hd⟩ := H
  obtain ⟨l1, l2, l3, l4⟩ := hl
  have c1 : ∀ r, ou_us (np_P P Tk Q ds) r → ou_us (np_P P Tk Q ds) (np_g Tk ds g gl r) ∧ np_g Tk ds g gl r / 24 = r / 24 := by
    intro r hr
    rcases np_us H0 hr with ⟨i, d, h1, h2, h3, h4⟩ | ⟨h1, h2, h3⟩
    · have s24 := (hd i d h1).2.2.2.1
      have := (G i d h1).2.2 (d.2.1 + r % 24) (by omega) (by omega)
      have r120 := hr.1
      have eg : np_g Tk ds g gl r / 24 = r / 24 := by rw [np_gs h3]; omega
      refine ⟨⟨by rw [np_gs h3]; omega, ?_⟩, eg⟩
      rw [eg, np_5s h3, np_gs h3]
      omega
    · obtain ⟨a, b⟩ := l1 r h3
      have eg : np_g Tk ds g gl r / 24 = r / 24 := by rw [np_gn h2]; exact b
      refine ⟨⟨by rw [np_gn h2]; exact a.1, ?_⟩, eg⟩
      rw [eg, np_5n h2, np_gn h2]
      have := a.2
      rw [b] at this
      exact this
  refine ⟨c1, fun f hf hs => ?_, fun r s hr hs he => ?_, fun u us => ?_⟩
  · have e1 : f * 24 / 24 = f := by omega
    have e2 : f * 24 % 24 = 0 := by omega
    rcases np_c H0 f with ⟨i, d, h1, h2, h3⟩ | ⟨h1, h2⟩
    · have := (G i d h1).2.1
      have := (hd i d h1).2.2.1
      rw [np_gs (d := d) (by rw [e1]; exact h3), e1, e2, np_5s h3, Nat.add_zero]
      omega
    · rw [np_gn (by rw [e1]; exact h2), np_5n h2]
      rw [np_5n h2] at hs
      exact l2 f hf hs
  · have q : r / 24 = s / 24 := by rw [← (c1 r hr).2, ← (c1 s hs).2, he]
    rcases np_us H0 hr with ⟨i, d, h1, h2, h3, h4⟩ | ⟨h1, h2, h3⟩
    · have h3s : np_d Tk ds (s / 24) = some d := by rw [← q]; exact h3
      have ss := hs.2
      rw [np_5s h3s] at ss
      rw [np_gs h3, np_gs h3s] at he
      have g1 := (G i d h1).2.2 (d.2.1 + r % 24) (by omega) (by omega)
      have g2 := (G i d h1).2.2 (d.2.1 + s % 24) (by omega) (by omega)
      have ge : g (d.2.1 + r % 24) = g (d.2.1 + s % 24) := by omega
      have : r % 24 = s % 24 := by
        rcases Nat.lt_trichotomy (r % 24) (s % 24) with w | w | w
        · exact absurd ge (bf_inj (G i d h1).1 (by omega) (by omega) (by omega))
        · exact w
        · exact absurd ge.symm (bf_inj (G i d h1).1 (by omega) (by omega) (by omega))
      omega
    · have h2s : np_d Tk ds (s / 24) = none := by rw [← q]; exact h2
      rw [np_gn h2, np_gn h2s] at he
      have ss := hs.2
      rw [np_5n h2s] at ss
      exact l3 r s h3 ⟨hs.1, ss⟩ he
  · rcases np_us H0 us with ⟨i, d, h1, h2, h3, h4⟩ | ⟨h1, h2, h3⟩
    · have s24 := (hd i d h1).2.2.2.1
      have u120 := us.1
      obtain ⟨j, j1, j2, j3⟩ := bf_sur (G i d h1).1 (by have := (hd i d h1).2.2.1; omega) (c := d.2.1 + u % 24) (by omega) (by omega)
      have e1 : (u / 24 * 24 + (j - d.2.1)) / 24 = u / 24 := by omega
      have e2 : (u / 24 * 24 + (j - d.2.1)) % 24 = j - d.2.1 := by omega
      refine ⟨u / 24 * 24 + (j - d.2.1), ⟨by omega, by rw [e1, e2, np_5s h3]; omega⟩, ?_⟩
      rw [np_gs (d := d) (by rw [e1]; exact h3), e1, e2, Nat.add_sub_of_le j1, j3]
      omega
    · obtain ⟨r, r1, r2⟩ := l4 u h3
      have er : r / 24 = u / 24 := by rw [← (l1 r r1).2, r2]
      have hr : np_d Tk ds (r / 24) = none := by rw [er]; exact h2
      exact ⟨r, ⟨r1.1, by rw [np_5n hr]; exact r1.2⟩, by rw [np_gn hr]; exact r2⟩
end
def st_e (u : Nat) (no nn na nb nc no2 nn2 na2 nb2 nc2 : Nat → Int32) : Prop := no2 u = no u ∧ nn2 u = nn u ∧ na2 u = na u ∧ nb2 u = nb u ∧ nc2 u = nc u
theorem st_et {u : Nat} {no nn na nb nc no2 nn2 na2 nb2 nc2 no3 nn3 na3 nb3 nc3 : Nat → Int32} (h : st_e u no nn na nb nc no2 nn2 na2 nb2 nc2) (k : st_e u no2 nn2 na2 nb2 nc2 no3 nn3 na3 nb3 nc3) : st_e u no nn na nb nc no3 nn3 na3 nb3 nc3 := by
  obtain ⟨h1, h2, h3, h4, h5⟩ := h
  obtain ⟨g1, g2, g3, g4, g5⟩ := k
  exact ⟨g1.trans h1, g2.trans h2, g3.trans h3, g4.trans h4, g5.trans h5⟩
def st_r (f F j : Nat) (no nn na nb nc no2 nn2 na2 nb2 nc2 : Nat → Int32) : Prop :=
  no2 (f * 24 + j) = no (F + j) ∧ nn2 (f * 24 + j) = nn (F + j) ∧ na2 (f * 24 + j) = na (F + j) + (nI (f * 24) - nI F) ∧ nb2 (f * 24 + j) = nb (F + j) + (nI (f * 24) - nI F) ∧ nc2 (f * 24 + j) = nc (F + j) + (nI (f * 24) - nI F)
def st_R (f F k : Nat) (no nn na nb nc no2 nn2 na2 nb2 nc2 : Nat → Int32) : Prop :=
  (∀ j, j < k → st_r f F j no nn na nb nc no2 nn2 na2 nb2 nc2) ∧ ∀ u, (u < f * 24 ∨ f * 24 + k ≤ u) → st_e u no nn na nb nc no2 nn2 na2 nb2 nc2
theorem st_Rs {f F k : Nat} {no nn na nb nc no2 nn2 na2 nb2 nc2 : Nat → Int32} (hF : f * 24 + k ≤ F) (h : st_R f F k no nn na nb nc no2 nn2 na2 nb2 nc2) :
    st_R f F (k + 1) no nn na nb nc (upd no2 (f * 24 + k) (no2 (F + k))) (upd nn2 (f * 24 + k) (nn2 (F + k))) (upd na2 (f * 24 + k) (na2 (F + k) + (nI (f * 24) - nI F))) (upd nb2 (f * 24 + k) (nb2 (F + k) + (nI (f * 24) - nI F))) (upd nc2 (f * 24 + k) (nc2 (F + k) + (nI (f * 24) - nI F))) := by
  obtain ⟨h1, h2⟩ := h
  refine ⟨fun j hj => ?_, fun u hu => ?_⟩
  · by_cases q : j = k
    · subst q
      obtain ⟨e1, e2, e3, e4, e5⟩ := h2 (F + j) (by omega)
      refine ⟨pk_us.trans e1, pk_us.trans e2, ?_, ?_, ?_⟩
      · rw [pk_us, e3]
      · rw [pk_us, e4]
      · rw [pk_us, e5]
    · unfold st_r
      rw [pk_un (by omega), pk_un (by omega), pk_un (by omega), pk_un (by omega), pk_un (by omega)]
      exact h1 j (by omega)
  · refine st_et (h2 u (by omega)) ?_
    unfold st_e
    rw [pk_un (by omega), pk_un (by omega), pk_un (by omega), pk_un (by omega), pk_un (by omega)]
    exact ⟨rfl, rfl, rfl, rfl, rfl⟩
section
variable {f_width f_length f_place f_toks f_nodes f_defs : Int32} {a_text a_tok a_tokNum a_tokPlace a_opened a_nOp a_nNum a_nPlace a_nA a_nB a_nC a_nLo a_nHi a_nLevel a_defName a_defPlace a_defRoot a_loaded a_count a_status : Nat → Int32} {a_number : Nat → Int64} {a_origin a_choice a_slotF a_slotX a_slotHeld : Nat → Int32} {Tk : List tz_T} {Q : Nat → Nat → Nat} {ds : List df_D} {e : Nat} {g gl : Nat → Nat} {P : Nat → Nat → Nat} {c0 : Nat}
theorem st_Y {i f F E : Nat} (hi : i < 100) (hn : a_defName i = nI f) (hr : a_defRoot i = nI F) (hr2 : a_defRoot (i + 1) = nI E) (hf : f < 5) (h120 : 120 ≤ F) (hFE : F < E) (hE : E ≤ 320) (h24 : E - F ≤ 24) {post : SY → Prop}
    (h : ∀ no nn na nb nc, st_R f F (E - F) a_nOp a_nNum a_nA a_nB a_nC no nn na nb nc → post (f_width, f_length, f_place, f_toks, f_nodes, f_defs, a_text, a_tok, a_tokNum, a_tokPlace, a_opened, no, nn, a_nPlace, na, nb, nc, a_nLo, a_nHi, a_nLevel, a_defName, a_defPlace, a_defRoot, upd a_loaded f 1, upd a_count f (nI (E - F)), a_status, a_number, a_origin, a_choice, a_slotF, a_slotX, a_slotHeld)) : wpY_store post (f_width, f_length, f_place, f_toks, f_nodes, f_defs, a_text, a_tok, a_tokNum, a_tokPlace, a_opened, a_nOp, a_nNum, a_nPlace, a_nA, a_nB, a_nC, a_nLo, a_nHi, a_nLevel, a_defName, a_defPlace, a_defRoot, a_loaded, a_count, a_status, a_number, a_origin, a_choice, a_slotF, a_slotX, a_slotHeld) (nI i) := by
  refine ⟨vp_in_nI hi (by decide), fun x ex => ⟨vp_in_nI (by omega) (by decide), fun y ey => ?_⟩⟩
  rw [nI_clamp (by omega), hn] at ex
  rw [nI_clamp (by omega), hr] at ey
  subst ex ey
  refine ⟨vp_in_nI hf (by decide), fun A eA => ?_⟩
  rw [nI_1]
  refine ⟨vp_in_nI (by omega) (by decide), vp_in_nI hf (by decide), fun B eB => ?_⟩
  have b1 : vp_nar .boolean 1 = 1 := by decide
  rw [nI_clamp (by omega), b1] at eA
  rw [nI_clamp (by omega), nI_clamp (by omega), hr2, pk_sub (by omega)] at eB
  subst eA eB
  have key : ∀ r k no nn na nb nc, k + r = E - F → st_R f F k a_nOp a_nNum a_nA a_nB a_nC no nn na nb nc → ∀ n, r < n →
      wY_store_40 post (nI f) (nI F) f_width f_length f_place f_toks f_nodes f_defs n (nI k) a_text a_tok a_tokNum a_tokPlace a_opened no nn a_nPlace na nb nc a_nLo a_nHi a_nLevel a_defName a_defPlace a_defRoot (upd a_loaded f 1) (upd a_count f (nI (E - F))) a_status a_number a_origin a_choice a_slotF a_slotX a_slotHeld := by
    intro r
    induction r with
    | zero =>
      intro k no nn na nb nc hk R n hn
      obtain ⟨n, rfl⟩ : ∃ m, n = m + 1 := ⟨n - 1, by omega⟩
      have ek : k = E - F := by omega
      subst ek
      refine ⟨vp_in_nI hf (by decide), ?_⟩
      rw [nI_clamp (by omega), pk_us]
      exact br_t (nI_le (Nat.le_refl _) (by omega)) (h no nn na nb nc R)
    | succ r ih =>
      intro k no nn na nb nc hk R n hn
      obtain ⟨n, rfl⟩ : ∃ m, n = m + 1 := ⟨n - 1, by omega⟩
      refine ⟨vp_in_nI hf (by decide), ?_⟩
      rw [nI_clamp (by omega), pk_us]
      have e24 : nI f * 24 = nI (f * 24) := pk_mul _ 24
      refine br_f (nI_ge (by omega) (by omega)) (fun x ex y ey => ?_)
      rw [e24, nI_add] at ex
      rw [e24] at ey
      subst ex ey
      rw [nI_add]
      have hin : vp_in (nI (F + k)) 320 := vp_in_nI (by omega) (by decide)
      have hit : vp_in (nI (f * 24 + k)) 320 := vp_in_nI (by omega) (by decide)
      refine ⟨hin, hit, fun A eA => ⟨hin, hit, fun B eB => ⟨hin, hit, fun C eC => ⟨hin, hit, fun D eD => ⟨hin, hit, fun Z eZ z ez => ?_⟩⟩⟩⟩⟩
      rw [nI_clamp (n := f * 24 + k) (by omega), nI_clamp (n := F + k) (by omega)] at eA eB eC eD eZ
      rw [nI_1] at ez
      subst eA eB eC eD eZ ez
      exact ih (k + 1) _ _ _ _ _ (by omega) (st_Rs (by omega) R) n (by omega)
  exact ⟨_, key (E - F) 0 _ _ _ _ _ (by omega) ⟨fun j hj => by omega, fun u _ => ⟨rfl, rfl, rfl, rfl, rfl⟩⟩ _ (Nat.lt_succ_self _)⟩
theorem st_G (I : ym_I Tk Q ds e g a_tok a_tokNum a_tokPlace a_defName a_defPlace a_defRoot a_nOp a_nNum a_nPlace a_nA a_nB a_nC a_nLo a_nHi a_nLevel) : np_G Q ds g := by
  intro i d hs
  have il : i < ds.length := by
    rcases Nat.lt_or_ge i ds.length with w | w
    · exact w
    · rw [List.getElem?_eq_none w] at hs; exact absurd hs (by simp)
  obtain ⟨d2, hs2, hD, dT, sT, d120, de, fe, dN, dP, dR, dR2, f5, yb⟩ := ym_d I il
  rw [hs] at hs2
  have := Option.some.inj hs2
  subst this
  obtain ⟨y1, y2, y3, y4, y5, y6, y7⟩ := yb
  refine ⟨y3, y7, fun j h1 h2 => ?_⟩
  have := y4 j h1 h2
  omega
theorem sto_l (I : ym_I Tk Q ds e g a_tok a_tokNum a_tokPlace a_defName a_defPlace a_defRoot a_nOp a_nNum a_nPlace a_nA a_nB a_nC a_nLo a_nHi a_nLevel) (H : np_H P Tk Q ds e) (hY : yl_P P gl a_loaded a_count a_nOp a_nNum a_nA a_nB a_nC)
    (hw : f_width = nI (P 6 0)) (hv : rl_V (np_P P Tk Q ds) c0) {post : Int32 → SY → Prop}
    (h : ∀ ld cn no nn na nb nc st nu og, yl_P (np_P P Tk Q ds) (np_g Tk ds g gl) ld cn no nn na nb nc → rl_tY (np_P P Tk Q ds) (np_g Tk ds g gl) (ou_E (np_P P Tk Q ds)) st nu og →
      post 1 (f_width, 0, -1, f_toks, f_nodes, nI ds.length, a_text, a_tok, a_tokNum, a_tokPlace, a_opened, no, nn, a_nPlace, na, nb, nc, a_nLo, a_nHi, a_nLevel, a_defName, a_defPlace, a_defRoot, ld, cn, st, nu, og, a_choice, a_slotF, a_slotX, a_slotHeld)) :
    ∃ n, wY_load_181 post n 0 f_width f_length f_place f_toks f_nodes (nI ds.length) a_text a_tok a_tokNum a_tokPlace a_opened a_nOp a_nNum a_nPlace a_nA a_nB a_nC a_nLo a_nHi a_nLevel a_defName a_defPlace a_defRoot a_loaded a_count a_status a_number a_origin a_choice a_slotF a_slotX a_slotHeld := by
  have G := st_G I
  have b50 := xm_50 I.2.2.2.1 I.1
  have e320 := I.2.2.2.2.1
  obtain ⟨p1, p2, p3, p4, p5⟩ := hY
  have key : ∀ r i ld cn no nn na nb nc, i + r = ds.length → (∀ f, f < 5 → ((∃ j, j < i ∧ mn_f Tk ds j = f) → ld f = 1 ∧ cn f = nI (np_P P Tk Q ds 5 f)) ∧ ((¬ ∃ j, j < i ∧ mn_f Tk ds j = f) → ld f = a_loaded f ∧ cn f = a_count f)) →
      (∀ u, ou_us (np_P P Tk Q ds) u → (∃ j, j < i ∧ mn_f Tk ds j = u / 24) → rl_nY (np_P P Tk Q ds) (np_g Tk ds g gl) no nn na nb nc u) → (∀ u, (¬ ∃ j, j < i ∧ mn_f Tk ds j = u / 24) → st_e u a_nOp a_nNum a_nA a_nB a_nC no nn na nb nc) → ∀ n, r < n →
      wY_load_181 post n (nI i) f_width f_length f_place f_toks f_nodes (nI ds.length) a_text a_tok a_tokNum a_tokPlace a_opened no nn a_nPlace na nb nc a_nLo a_nHi a_nLevel a_defName a_defPlace a_defRoot ld cn a_status a_number a_origin a_choice a_slotF a_slotX a_slotHeld := by
    intro r
    induction r with
    | zero =>
      intro i ld cn no nn na nb nc hi s1 s2 s3 n hn
      obtain ⟨n, rfl⟩ : ∃ m, n = m + 1 := ⟨n - 1, by omega⟩
      have ei : i = ds.length := by omega
      subst ei
      obtain ⟨k1, k2⟩ := np_ok H
      have yl : yl_P (np_P P Tk Q ds) (np_g Tk ds g gl) ld cn no nn na nb nc := by
        refine ⟨k1, np_gg H G p2, fun f hf => ?_, fun f hf hs => ?_, fun u hu => ?_⟩
        · by_cases q : ∃ j, j < ds.length ∧ mn_f Tk ds j = f
          · rw [((s1 f hf).1 q).1, if_pos (np_pos H (Or.inr q))]
          · rw [((s1 f hf).2 q).1, np_5n (np_n q)]; exact p3 f hf
        · by_cases q : ∃ j, j < ds.length ∧ mn_f Tk ds j = f
          · exact ((s1 f hf).1 q).2
          · rw [np_5n (np_n q)] at hs ⊢
            rw [((s1 f hf).2 q).2]; exact p4 f hf hs
        · rcases np_us H hu with ⟨j, d, h1, h2, h3, h4⟩ | ⟨h1, h2, h3⟩
          · exact s2 u hu ⟨j, (H.2.2.2 j d h1).1, h2⟩
          · obtain ⟨t1, t2, t3, t4, t5⟩ := s3 u h1
            obtain ⟨g1, g2, g3, g4, g5⟩ := p5 u h3
            obtain ⟨l1, l2⟩ := p2.1 u h3
            have hg : np_d Tk ds (gl u / 24) = none := by rw [l2]; exact h2
            have lift : ∀ a, ou_us P a → a / 24 = u / 24 → ou_us (np_P P Tk Q ds) a ∧ np_g Tk ds g gl a = gl a := by
              intro a ha q
              have qa : np_d Tk ds (a / 24) = none := by rw [q]; exact h2
              exact ⟨⟨ha.1, by rw [np_5n qa]; exact ha.2⟩, np_gn qa⟩
            obtain ⟨_, _, _, o4⟩ := p1.2.2.2 _ l1
            have kid : ∀ a j, j < pg_n (P 0 (gl u)) → ou_us P a → gl a = P (2 + j) (gl u) → a / 24 = u / 24 := by
              intro a j hj ha q
              rw [← (p2.1 a ha).2, q, (o4 j hj).2, l2]
            unfold rl_nY
            rw [np_gn h2, np_kn (k := 0) (by decide) hg, np_kn (k := 1) (by decide) hg, np_kn (k := 2) (by decide) hg, np_kn (k := 3) (by decide) hg, np_kn (k := 4) (by decide) hg]
            refine ⟨t1.trans g1, t2.trans g2, fun m => ?_, fun m => ?_, fun m => ?_⟩
            · obtain ⟨a, a1, a2, a3⟩ := g3 m
              obtain ⟨z1, z2⟩ := lift a a2 (kid a 0 m a2 a3)
              exact ⟨a, t3.trans a1, z1, z2.trans a3⟩
            · obtain ⟨a, a1, a2, a3⟩ := g4 m
              obtain ⟨z1, z2⟩ := lift a a2 (kid a 1 m a2 a3)
              exact ⟨a, t4.trans a1, z1, z2.trans a3⟩
            · obtain ⟨a, a1, a2, a3⟩ := g5 m
              obtain ⟨z1, z2⟩ := lift a a2 (kid a 2 m a2 a3)
              exact ⟨a, t5.trans a1, z1, z2.trans a3⟩
      exact br_t (nI_le (Nat.le_refl _) (by omega)) (so_Y yl (by rw [np_6]; exact hw) hv (fun st nu og ht => h ld cn no nn na nb nc st nu og yl ht))
    | succ r ih =>
      intro i ld cn no nn na nb nc hi s1 s2 s3 n hn
      obtain ⟨n, rfl⟩ : ∃ m, n = m + 1 := ⟨n - 1, by omega⟩
      have il : i < ds.length := by omega
      obtain ⟨d, hs, hD, dT, sT, d120, de, fe, dN, dP, dR, dR2, f5, yb⟩ := ym_d I il
      obtain ⟨_, _, FE, s24, _, _, nd⟩ := H.2.2.2 i d hs
      have f5a : ∀ j, j < ds.length → mn_f Tk ds j < 5 := fun j hj => by obtain ⟨_, _, _, _, _, _, _, _, _, _, _, _, q, _⟩ := ym_d I hj; exact q
      have nw : ¬ ∃ j, j < i ∧ mn_f Tk ds j = mn_f Tk ds i := fun ⟨j, j1, j2⟩ => by have := H.2.2.1 j i (by omega) il j2; omega
      have hd := np_s H.2.2.1 hs
      refine br_f (nI_ge il (by omega)) (st_Y (by omega) dN dR dR2 f5 d120 FE (by omega) s24 (fun no2 nn2 na2 nb2 nc2 R => fun y ey => ?_))
      rw [ey, nI_1]
      have jlt : ∀ f j, j < i + 1 → mn_f Tk ds j = f → f ≠ mn_f Tk ds i → j < i := by
        intro f j j1 j2 w
        rcases Nat.lt_or_ge j i with z | z
        · exact z
        · exact absurd (by rw [← j2]; congr 1; omega) w
      refine ih (i + 1) _ _ no2 nn2 na2 nb2 nc2 (by omega) (fun f hf => ⟨fun ⟨j, j1, j2⟩ => ?_, fun q => ?_⟩) (fun u hu ⟨j, j1, j2⟩ => ?_) (fun u q => ?_) n (by omega)
      · by_cases w : f = mn_f Tk ds i
        · subst w
          rw [pk_us, pk_us, np_5s hd]
          exact ⟨rfl, rfl⟩
        · rw [pk_un w, pk_un w]
          exact (s1 f hf).1 ⟨j, jlt f j j1 j2 w, j2⟩
      · have w : f ≠ mn_f Tk ds i := fun w => q ⟨i, by omega, w.symm⟩
        rw [pk_un w, pk_un w]
        exact (s1 f hf).2 (fun ⟨j, j1, j2⟩ => q ⟨j, by omega, j2⟩)
      · by_cases w : u / 24 = mn_f Tk ds i
        · have hd2 : np_d Tk ds (u / 24) = some d := by rw [w]; exact hd
          have us := hu.2
          rw [w, np_5s hd] at us
          have em : mn_f Tk ds i * 24 + u % 24 = u := by omega
          obtain ⟨r1, r2, r3, r4, r5⟩ := R.1 (u % 24) us
          rw [em] at r1 r2 r3 r4 r5
          obtain ⟨t1, t2, t3, t4, t5⟩ := s3 (d.2.1 + u % 24) (fun ⟨j, j1, j2⟩ => by have := f5a j (by omega); omega)
          obtain ⟨b1, b2⟩ := (G i d hs).2.2 (d.2.1 + u % 24) (by omega) (by omega)
          have eg : np_g Tk ds g gl u = g (d.2.1 + u % 24) + u / 24 * 24 - d.2.1 := np_gs hd2
          have eg2 : np_g Tk ds g gl u / 24 = u / 24 := by rw [eg]; omega
          have eg3 : d.2.1 + np_g Tk ds g gl u % 24 = g (d.2.1 + u % 24) := by rw [eg]; omega
          have hdg : np_d Tk ds (np_g Tk ds g gl u / 24) = some d := by rw [eg2]; exact hd2
          have k0 : np_P P Tk Q ds 0 (np_g Tk ds g gl u) = Q 0 (g (d.2.1 + u % 24)) := by rw [← eg3]; exact np_ks (by decide) hdg
          have k1 : np_P P Tk Q ds 1 (np_g Tk ds g gl u) = Q 1 (g (d.2.1 + u % 24)) := by rw [← eg3]; exact np_ks (by decide) hdg
          have k2 : np_P P Tk Q ds 2 (np_g Tk ds g gl u) = Q 2 (g (d.2.1 + u % 24)) + u / 24 * 24 - d.2.1 := by rw [← eg3, ← eg2]; exact np_ks (by decide) hdg
          have k3 : np_P P Tk Q ds 3 (np_g Tk ds g gl u) = Q 3 (g (d.2.1 + u % 24)) + u / 24 * 24 - d.2.1 := by rw [← eg3, ← eg2]; exact np_ks (by decide) hdg
          have k4 : np_P P Tk Q ds 4 (np_g Tk ds g gl u) = Q 4 (g (d.2.1 + u % 24)) + u / 24 * 24 - d.2.1 := by rw [← eg3, ← eg2]; exact np_ks (by decide) hdg
          have lift : ∀ a, d.2.1 ≤ a → a < d.2.2.1 → ou_us (np_P P Tk Q ds) (a + u / 24 * 24 - d.2.1) ∧ np_g Tk ds g gl (a + u / 24 * 24 - d.2.1) = g a + u / 24 * 24 - d.2.1 := by
            intro a a1 a2
            have ea : (a + u / 24 * 24 - d.2.1) / 24 = u / 24 := by omega
            have em : (a + u / 24 * 24 - d.2.1) % 24 = a - d.2.1 := by omega
            have hda : np_d Tk ds ((a + u / 24 * 24 - d.2.1) / 24) = some d := by rw [ea]; exact hd2
            refine ⟨⟨by have := hu.1; omega, by rw [ea, np_5s hd2, em]; omega⟩, ?_⟩
            rw [np_gs hda, ea, em, Nat.add_sub_of_le a1]
          obtain ⟨y1, y2, y3, y4, y5, y6, y7⟩ := yb
          obtain ⟨z1, z2, z3, z4, z5, z6⟩ := y5 (d.2.1 + u % 24) (by omega) (by omega)
          unfold rl_nY
          rw [k0, k1, k2, k3, k4]
          refine ⟨r1.trans (t1.trans z1), r2.trans (t2.trans z2), fun m => ?_, fun m => ?_, fun m => ?_⟩
          · obtain ⟨a, a1, a2, a3, a4⟩ := z4 m
            obtain ⟨v1, v2⟩ := lift a a2 a3
            exact ⟨_, by rw [r3, t3, a1, in_s a2, ← w], v1, by rw [v2, a4]⟩
          · obtain ⟨a, a1, a2, a3, a4⟩ := z5 m
            obtain ⟨v1, v2⟩ := lift a a2 a3
            exact ⟨_, by rw [r4, t4, a1, in_s a2, ← w], v1, by rw [v2, a4]⟩
          · obtain ⟨a, a1, a2, a3, a4⟩ := z6 m
            obtain ⟨v1, v2⟩ := lift a a2 a3
            exact ⟨_, by rw [r5, t5, a1, in_s a2, ← w], v1, by rw [v2, a4]⟩
        · obtain ⟨t1, t2, t3, t4, t5⟩ := R.2 u (by have := s24; omega)
          obtain ⟨g1, g2, g3, g4, g5⟩ := s2 u hu ⟨j, jlt _ j j1 j2 w, j2⟩
          exact ⟨t1.trans g1, t2.trans g2, fun m => by rw [t3]; exact g3 m, fun m => by rw [t4]; exact g4 m, fun m => by rw [t5]; exact g5 m⟩
      · have w : u / 24 ≠ mn_f Tk ds i := fun w => q ⟨i, by omega, w.symm⟩
        exact st_et (s3 u (fun ⟨j, j1, j2⟩ => q ⟨j, by omega, j2⟩)) (R.2 u (by omega))
  exact ⟨_, key ds.length 0 _ _ _ _ _ _ _ (by omega) (fun f _ => ⟨fun ⟨j, j1, _⟩ => absurd j1 (by omega), fun _ => ⟨rfl, rfl⟩⟩) (fun u _ ⟨j, j1, _⟩ => absurd j1 (by omega)) (fun u _ => ⟨rfl, rfl, rfl, rfl, rfl⟩) _ (Nat.lt_succ_self _)⟩
end
