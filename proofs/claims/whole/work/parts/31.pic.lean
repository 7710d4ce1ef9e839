-- pictures of X's parser
def xp_T (L : Nat) (tx : Nat → Nat) (Tk : List tz_T) : Prop :=
  Tk.length ≤ L ∧ L ≤ 200 ∧ ∀ i, i < Tk.length → tt_p Tk i < L ∧ tt_k Tk i = tz_kd tx L (tt_p Tk i) ∧ tt_n Tk i = tz_nm tx L (tt_p Tk i) ∧ tt_k Tk i ≠ 0 ∧ tt_k Tk i ≤ 27
theorem xp_Ti {L : Nat} {tx : Nat → Nat} {Tk : List tz_T} {e : Option Nat} (hC : tz_C tx L 0 Tk e) (hL : L ≤ 200) : xp_T L tx Tk := by
  have hl := tz_len Tk 0 e hC (Nat.zero_le _)
  refine ⟨by omega, hL, fun i hi => ?_⟩
  have hs : Tk[i]? = some Tk[i] := List.getElem?_eq_getElem hi
  obtain ⟨q1, q2, q3, q4⟩ := tz_Ci Tk 0 e hC i _ hs
  obtain ⟨a, b, c⟩ := tt_s hs
  rw [a, b, c]
  have k1 : Tk[i].1 = tz_kd tx L Tk[i].2.2.1 := congrArg Prod.fst q3
  have k2 : Tk[i].2.1 = tz_nm tx L Tk[i].2.2.1 := congrArg (fun t : tz_T => t.2.1) q3
  exact ⟨q2, k1, k2, q4, by rw [k1]; exact tx_kd27 _ _ _⟩
theorem xp_nn {L : Nat} {tx : Nat → Nat} {Tk : List tz_T} (h : xp_T L tx Tk) {i t : Nat} (hi : i < Tk.length) (ht : t = 13 ↔ tt_k Tk i = 13) :
    ad_nn L tx t (tt_p Tk i) = tt_n Tk i ∧ (t = 13 → 65 ≤ tx (tt_p Tk i)) := by
  obtain ⟨_, _, h⟩ := h
  obtain ⟨h1, h2, h3, h4, h5⟩ := h i hi
  rw [h3]
  have k12 : ∀ w, tz_k w ≤ 12 := by
    intro w
    by_cases z : tz_k w = 0
    · omega
    · exact (tx_kx z).2.1
  have isn : tt_k Tk i = 13 → ¬ tz_dg (tx (tt_p Tk i)) = true ∧ 65 ≤ tx (tt_p Tk i) ∧ tx (tt_p Tk i) ≤ 69 := by
    intro q
    rw [h2] at q
    unfold tz_kd at q
    by_cases d : tz_dg (tx (tt_p Tk i)) = true
    · rw [if_pos d] at q; split at q <;> omega
    · rw [if_neg d] at q
      refine ⟨d, ?_⟩
      by_cases s : tz_sm (tx (tt_p Tk i)) = true
      · rw [if_pos s] at q
        split at q
        · have := k12 (tz_w tx (tt_p Tk i) (tz_end tx L (tt_p Tk i) - tt_p Tk i)); omega
        · omega
      · rw [if_neg s] at q
        by_cases r : 65 ≤ tx (tt_p Tk i) ∧ tx (tt_p Tk i) ≤ 69
        · exact r
        · rw [if_neg r] at q
          exfalso
          by_cases b : tx (tt_p Tk i) ≤ 126
          · have := tx_gx b (by omega); omega
          · have z : tz_g (tx (tt_p Tk i)) = 0 := by
              unfold tz_g
              rw [if_neg (by omega), if_neg (by omega), if_neg (by omega), if_neg (by omega), if_neg (by omega), if_neg (by omega), if_neg (by omega), if_neg (by omega), if_neg (by omega), if_neg (by omega), if_neg (by omega), if_neg (by omega), if_neg (by omega), if_neg (by omega)]
            omega
  unfold ad_nn tz_nm
  by_cases q : t = 13
  · obtain ⟨a, b⟩ := isn (ht.mp q)
    rw [if_pos q, if_neg a, if_pos b]
    exact ⟨rfl, fun _ => b.1⟩
  · rw [if_neg q]
    refine ⟨?_, fun z => absurd z q⟩
    by_cases d : tz_dg (tx (tt_p Tk i)) = true
    · rw [if_pos d, if_pos d]
    · rw [if_neg d, if_neg d]
      by_cases r : 65 ≤ tx (tt_p Tk i) ∧ tx (tt_p Tk i) ≤ 69
      · exfalso
        apply q
        rw [ht, h2]
        unfold tz_kd
        rw [if_neg d, if_neg (by rw [tx_st]; omega), if_pos r]
      · rw [if_neg r]
def xp_r (tp : Nat → Nat) (Q : Nat → Nat → Nat) (u : Nat) (no nn np nd pt : Nat → Int32) : Prop :=
  no u = nI (xc_t (Q 0 u)) ∧ nn u = nI (Q 1 u) ∧ np u = nI (tp (Q 9 u)) ∧ nd u = nI (Q 11 u) ∧ pt (u * 3 + 0) = nI (Q 2 u) ∧ pt (u * 3 + 1) = nI (Q 3 u) ∧ pt (u * 3 + 2) = nI (Q 4 u)
def xp_N (Tk : List tz_T) (Q : Nat → Nat → Nat) (e : Nat) (no nn np nd pt : Nat → Int32) : Prop :=
  120 ≤ e ∧ ∀ u, 120 ≤ u → u < e → nd_ok (tt_k Tk) (tt_n Tk) Q u ∧ Q 11 u + 119 ≤ u ∧ Q 9 u < Tk.length ∧ xp_r (tt_p Tk) Q u no nn np nd pt
def xp_K (no0 nn0 np0 pt0 no nn np pt : Nat → Int32) : Prop := (∀ u, u < 120 → no u = no0 u ∧ nn u = nn0 u ∧ np u = np0 u) ∧ ∀ i, i < 360 → pt i = pt0 i
theorem xp_Ns {Tk : List tz_T} {Q : Nat → Nat → Nat} {e t n a b c l h p s d pp : Nat} {no nn np nd pt : Nat → Int32} (H : xp_N Tk Q e no nn np nd pt)
    (ho : nd_ok (tt_k Tk) (tt_n Tk) (nd_U Q e (nd_w t n a b c l h p s d)) e) (hd : d + 119 ≤ e) (hp : p < Tk.length) (hpp : pp = tt_p Tk p) :
    xp_N Tk (nd_U Q e (nd_w t n a b c l h p s d)) (e + 1) (upd no e (nI (xc_t t))) (upd nn e (nI n)) (upd np e (nI pp)) (upd nd e (nI d)) (upd (upd (upd pt (e * 3 + 0) (nI a)) (e * 3 + 1) (nI b)) (e * 3 + 2) (nI c)) := by
  obtain ⟨H0, H⟩ := H
  refine ⟨by omega, fun u h1 h2 => ?_⟩
  by_cases q : u = e
  · subst q
    refine ⟨ho, by rw [nd_Us]; exact hd, by rw [nd_Us]; exact hp, ?_⟩
    unfold xp_r
    simp only [nd_Us]
    rw [pk_us, pk_us, pk_us, pk_us, pk_un (by omega), pk_un (by omega), pk_us, pk_un (by omega), pk_us, pk_us, hpp]
    exact ⟨rfl, rfl, rfl, rfl, rfl, rfl, rfl⟩
  · obtain ⟨g1, g2, g3, g4⟩ := H u h1 (by omega)
    have hu : u < e := by omega
    refine ⟨nd_okc (u := e) (fun k w hw => nd_Un (by omega)) hu g1, by rw [nd_Un q]; exact g2, by rw [nd_Un q]; exact g3, ?_⟩
    unfold xp_r at *
    simp only [nd_Un q]
    rw [pk_un q, pk_un q, pk_un q, pk_un q, pk_un (by omega), pk_un (by omega), pk_un (by omega), pk_un (by omega), pk_un (by omega), pk_un (by omega), pk_un (by omega), pk_un (by omega), pk_un (by omega)]
    exact g4
theorem xp_Ks {no0 nn0 np0 pt0 no nn np pt : Nat → Int32} {e : Nat} {x1 x2 x3 x4 x5 x6 : Int32} (he : 120 ≤ e) (H : xp_K no0 nn0 np0 pt0 no nn np pt) :
    xp_K no0 nn0 np0 pt0 (upd no e x1) (upd nn e x2) (upd np e x3) (upd (upd (upd pt (e * 3 + 0) x4) (e * 3 + 1) x5) (e * 3 + 2) x6) := by
  refine ⟨fun u hu => ?_, fun i hi => ?_⟩
  · rw [pk_un (by omega), pk_un (by omega), pk_un (by omega)]; exact H.1 u hu
  · rw [pk_un (by omega), pk_un (by omega), pk_un (by omega)]; exact H.2 i hi
-- the frames and the operands
def xp_F (Tk : List tz_T) (t : Nat) (fs : List fr_F) (fc fp : Nat → Int32) : Prop :=
  ar_L fc (fs.map (fun f => xc_t f.1)) ∧ ar_L fp (fs.map (fun f => tt_p Tk f.2.2.1)) ∧ ∀ f, f ∈ fs → f.1 < 34 ∧ f.2.2.1 < t
def lv_f (x : Nat) : Nat :=
  if x = 2 then 7 else if x = 6 then 1 else if x = 7 then 1 else if x = 33 then 7 else if x = 37 then 6 else if x = 38 then 3 else if x = 42 then 6 else
  if x = 43 then 5 else if x = 45 then 5 else if x = 47 then 6 else if x = 58 then 1 else if x = 60 then 4 else if x = 61 then 4 else if x = 124 then 2 else 0
theorem lv_x : ∀ c, c < 34 → lv_f (xc_t c) = fr_l c := by decide
theorem lv_X {x : Nat} (hx : x < 2 ^ 31) {post : Int32 → Prop} (h : post (nI (lv_f x))) : wpX_levelOf post (nI x) := by
  refine pk_eq x 2 (fun c1 => sy_e 7 h (by rw [c1]; rfl)) (fun c1 => pk_eq x 6 (fun c2 => sy_e 1 h (by rw [c2]; rfl)) (fun c2 => pk_eq x 7 (fun c3 => sy_e 1 h (by rw [c3]; rfl)) (fun c3 =>
      pk_eq x 33 (fun c4 => sy_e 7 h (by rw [c4]; rfl)) (fun c4 => pk_eq x 37 (fun c5 => sy_e 6 h (by rw [c5]; rfl)) (fun c5 => pk_eq x 38 (fun c6 => sy_e 3 h (by rw [c6]; rfl)) (fun c6 =>
      pk_eq x 42 (fun c7 => sy_e 6 h (by rw [c7]; rfl)) (fun c7 => pk_eq x 43 (fun c8 => sy_e 5 h (by rw [c8]; rfl)) (fun c8 => pk_eq x 45 (fun c9 => sy_e 5 h (by rw [c9]; rfl)) (fun c9 =>
      pk_eq x 47 (fun c10 => sy_e 6 h (by rw [c10]; rfl)) (fun c10 => pk_eq x 58 (fun c11 => sy_e 1 h (by rw [c11]; rfl)) (fun c11 => pk_eq x 60 (fun c12 => sy_e 4 h (by rw [c12]; rfl)) (fun c12 =>
      pk_eq x 61 (fun c13 => sy_e 4 h (by rw [c13]; rfl)) (fun c13 => pk_eq x 124 (fun c14 => sy_e 2 h (by rw [c14]; rfl)) (fun c14 => sy_e 0 h ?_))))))))))))))
  unfold lv_f
  rw [if_neg c1, if_neg c2, if_neg c3, if_neg c4, if_neg c5, if_neg c6, if_neg c7, if_neg c8, if_neg c9, if_neg c10, if_neg c11, if_neg c12, if_neg c13, if_neg c14]
theorem xp_m3 {a b m : Nat} (ha : a ≤ m) (hb : b ≤ m) : nd_m a b ≤ m := by
  unfold nd_m; split <;> assumption
