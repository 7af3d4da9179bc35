/-- one n; the same moves on both sides; the class's tables keep the rule of the game, its depths the rule of depths; the reference's tables are free -/
def i_Rel (k : Nat) (u : SX) (v : SY) : Prop := ∃ (n : Nat) (L R D l r G w dd : Nat → Int32), u = (nI n, L, R, D, l, r) ∧ v = (nI n, G, w, dd) ∧ gv_R n L R D l r G w
theorem gv_mk {k n : Nat} {L R D l r G w dd : Nat → Int32} (h : gv_R n L R D l r G w) : i_Rel k (nI n, L, R, D, l, r) (nI n, G, w, dd) := ⟨n, L, R, D, l, r, G, w, dd, rfl, rfl, h⟩
theorem i_up {k : Nat} {u : SX} {v : SY} (h : i_Rel k u v) : i_Rel (k + 4) u v := h
theorem i_vc0 : wpX_init (fun u => wpY_init (fun v => i_Rel 0 u v)) := gv_mk (k := 0) gv_new
theorem i_vc_add {k : Nat} {u : SX} {v : SY} (I : i_Rel k u v) (hk : k + 4 ≤ 2048) (v1 : Int32) (v2 : Int32) : wpX_add (fun r u' => wpY_add (fun r' v' => r' = r ∧ i_Rel (k + 4) u' v') v v1 v2) u v1 v2 := by
  obtain ⟨n, L, R, D, l, r, G, w, dd, rfl, rfl, h⟩ := I
  have hn := h.2.1
  have K : i_Rel (k + 4) (nI n, L, R, D, l, r) (nI n, G, w, dd) := gv_mk h
  have ec : (nI n).toNatClampNeg = n := nI_clamp (by omega)
  unfold wpX_add wpY_add
  dsimp only
  rw [ec]
  intro x3 ex
  by_cases hz : (v1 ||| v2) &&& (x3 ^^^ (-1)) = 0
  · obtain ⟨z1, z2⟩ := gv_orand.mp hz
    refine br_t hz (pk_lt n 10 (fun h10 => ?_) (fun h10 => ?_))
    · obtain ⟨h1, _, hg, hL, hR, hl, hr, hI, hD, hw⟩ := id h
      have vn : vp_in (nI n) 10 := vp_in_nI h10 (by omega)
      have b1 : ∀ i, bt v1 i = true → i < n := fun i hi => gv_below (by omega) (by rw [ex] at z1; exact z1) hi
      have b2 : ∀ i, bt v2 i = true → i < n := fun i hi => gv_below (by omega) (by rw [ex] at z2; exact z2) hi
      have hg' := gv_addG (v1 := v1) (v2 := v2) hg b1 b2
      have hL' := gv_addL (v1 := v1) (v2 := v2) hL
      have hR' := gv_addR (v1 := v1) (v2 := v2) hR
      refine ⟨vn, nm_e ⟨vn, nm_e (gv_xda hn ⟨vn, nm_e (nm_r (nI_1 n) (gv_xdec (by omega) hg' hL' hR' hl hr (fun l' r' hl' hr' hI' => ?_)))⟩)⟩⟩
      dsimp only
      refine nm_r ex.symm (br_t z1 (br_t z2 (br_t (nI_lt (b := 10) h10 (by omega)) ?_)))
      rw [gv_dbl0, nI_1 (2 * n), nI_clamp (n := 2 * n) (by omega), nI_clamp (n := 2 * n + 1) (by omega)]
      exact ⟨vp_in_nI (by omega) (by omega), nm_e ⟨vp_in_nI (by omega) (by omega), nm_e (nm_r (nI_1 n) ⟨nI_pred n, gv_mk (gv_add h h10 hg' hL' hR' hl' hr' hI')⟩)⟩⟩
    · exact nm_r ex.symm (br_t z1 (br_t z2 (br_f (nI_nlt (b := 10) h10 (by omega)) ⟨rfl, K⟩)))
  · refine br_f hz (nm_r ex.symm ?_)
    by_cases z1 : v1 &&& (x3 ^^^ (-1)) = 0
    · exact br_t z1 (br_f (fun z2 => hz (gv_orand.mpr ⟨z1, z2⟩)) ⟨rfl, K⟩)
    · exact br_f z1 ⟨rfl, K⟩
theorem i_vc_drop {k : Nat} {u : SX} {v : SY} (I : i_Rel k u v) (hk : k + 4 ≤ 2048) : wpX_drop (fun r u' => wpY_drop (fun r' v' => r' = r ∧ i_Rel (k + 4) u' v') v) u := by
  obtain ⟨n, L, R, D, l, r, G, w, dd, rfl, rfl, h⟩ := I
  have h1 := h.1
  have hn := h.2.1
  have e : nI n - 1 = nI (n - 1) := pk_sub (b := 1) h1
  refine pk_lt 1 n (fun h2 => nm_r e ?_) (fun h2 => ?_)
  · exact pk_eq n 1 (fun z => by omega) (fun z => nm_r e ⟨rfl, gv_mk (gv_less h (by omega))⟩)
  · exact pk_eq n 1 (fun z => ⟨rfl, gv_mk h⟩) (fun z => by omega)
theorem i_vc_positions {k : Nat} {u : SX} {v : SY} (I : i_Rel k u v) (hk : k + 4 ≤ 2048) : wpX_positions (fun r => wpY_positions (fun r' => r' = r ∧ i_Rel (k + 4) u v) v) u := by
  obtain ⟨n, L, R, D, l, r, G, w, dd, rfl, rfl, h⟩ := I
  exact ⟨rfl, gv_mk h⟩
theorem i_vc_moves {k : Nat} {u : SX} {v : SY} (I : i_Rel k u v) (hk : k + 4 ≤ 2048) (v1 : Int32) (v2 : Int32) : wpX_moves (fun r => wpY_moves (fun r' => r' = r ∧ i_Rel (k + 4) u v) v v1 v2) u v1 v2 := by
  obtain ⟨n, L, R, D, l, r, G, w, dd, rfl, rfl, h⟩ := I
  have hn := h.2.1
  have K : i_Rel (k + 4) (nI n, L, R, D, l, r) (nI n, G, w, dd) := gv_mk h
  unfold wpX_moves wpY_moves
  dsimp only
  rcases gv_cases v1 hn with ho | ⟨p, hp, rfl⟩
  · exact gv_xis0 ho (br_t rfl (gv_yis0 ho (br_t rfl ⟨rfl, K⟩)))
  · have ec : (nI p).toNatClampNeg = p := nI_clamp (by omega)
    have vp : vp_in (nI p) 10 := vp_in_nI (by omega) (by omega)
    rw [ec]
    rcases gv_side v2 with ⟨h0, h1⟩ | rfl | rfl
    · exact gv_xis1 hn hp (br_f (by decide) (gv_xsd0 h0 h1 (br_t rfl (gv_yis1 hn hp (br_f (by decide) (br_f h0 (br_f h1 ⟨rfl, K⟩)))))))
    · exact gv_xis1 hn hp (br_f (by decide) (gv_xsd (Or.inl rfl) (br_f (by decide) (br_t rfl ⟨vp, gv_yis1 hn hp (br_f (by decide) (br_t rfl (gv_ym17 (t := 0) hn hp (by omega) ⟨(h.2.2.2.1 p hp).symm, K⟩)))⟩))))
    · exact gv_xis1 hn hp (br_f (by decide) (gv_xsd (Or.inr rfl) (br_f (by decide) (br_f (by decide) ⟨vp, gv_yis1 hn hp (br_f (by decide) (br_f (by decide) (br_t rfl (gv_ym17 (t := 1) hn hp (by omega) ⟨(h.2.2.2.2.1 p hp).symm, K⟩))))⟩))))
theorem i_vc_compare {k : Nat} {u : SX} {v : SY} (I : i_Rel k u v) (hk : k + 4 ≤ 2048) (v1 : Int32) (v2 : Int32) : wpX_compare (fun r => wpY_compare (fun r' v' => r' = r ∧ i_Rel (k + 4) u v') v v1 v2) u v1 v2 := by
  obtain ⟨n, L, R, D, l, r, G, w, dd, rfl, rfl, h⟩ := I
  have hn := h.2.1
  unfold wpX_compare
  dsimp only
  rcases gv_cases v1 hn with ho | ⟨p, hp, rfl⟩
  · exact gv_xis0 ho (br_t rfl (gv_ycmp0 h (Or.inl ho) (fun w' h' => ⟨rfl, gv_mk h'⟩)))
  · rcases gv_cases v2 hn with ho | ⟨q, hq, rfl⟩
    · exact gv_xis1 hn hp (br_f (by decide) (gv_xis0 ho (br_t rfl (gv_ycmp0 h (Or.inr ⟨⟨p, hp, rfl⟩, ho⟩) (fun w' h' => ⟨rfl, gv_mk h'⟩)))))
    · exact gv_xis1 hn hp (br_f (by decide) (gv_xis1 hn hq (br_f (by decide) (gv_xst (b := 0) (by omega) (gv_ycmp h hp hq (fun w' h' => ⟨rfl, gv_mk h'⟩))))))
theorem i_vc_wins {k : Nat} {u : SX} {v : SY} (I : i_Rel k u v) (hk : k + 4 ≤ 2048) (v1 : Int32) (v2 : Int32) : wpX_wins (fun r => wpY_wins (fun r' v' => r' = r ∧ i_Rel (k + 4) u v') v v1 v2) u v1 v2 := by
  obtain ⟨n, L, R, D, l, r, G, w, dd, rfl, rfl, h⟩ := I
  have h1 := h.1
  have hn := h.2.1
  have hl : gv_01 l := h.2.2.2.2.2.1
  have hr : gv_01 r := h.2.2.2.2.2.2.1
  have h0 : ∃ a, a < n ∧ (0 : Int32) = nI a := ⟨0, h1, rfl⟩
  unfold wpX_wins wpY_wins
  dsimp only
  rcases gv_cases v1 hn with ho | ⟨p, hp, rfl⟩
  · exact gv_xis0 ho (br_t rfl (gv_yws_0 h (Or.inl ho) (fun w' h' => ⟨gv_nb (Or.inl rfl), rfl, gv_mk h'⟩)))
  · rcases gv_side v2 with ⟨s0, s1⟩ | rfl | rfl
    · exact gv_xis1 hn hp (br_f (by decide) (gv_xsd0 s0 s1 (br_t rfl (gv_yws_0 h (Or.inr ⟨⟨p, hp, rfl⟩, Or.inr ⟨h0, s0, s1⟩⟩) (fun w' h' => ⟨gv_nb (Or.inl rfl), rfl, gv_mk h'⟩)))))
    · exact gv_xis1 hn hp (br_f (by decide) (gv_xsd (Or.inl rfl) (br_f (by decide) (gv_xfw_l (b := 0) hl (by omega) ⟨gv_nb (hl _), gv_yws_l (b := 0) h hp h1 (fun w' h' => ⟨gv_nb (hl _), rfl, gv_mk h'⟩)⟩))))
    · exact gv_xis1 hn hp (br_f (by decide) (gv_xsd (Or.inr rfl) (br_f (by decide) (gv_xfw_r (b := 0) hr (by omega) ⟨gv_nb (hr _), gv_yws_r (b := 0) h hp h1 (fun w' h' => ⟨gv_nb (hr _), rfl, gv_mk h'⟩)⟩))))
theorem i_vc_winsSum {k : Nat} {u : SX} {v : SY} (I : i_Rel k u v) (hk : k + 4 ≤ 2048) (v1 : Int32) (v2 : Int32) (v3 : Int32) : wpX_winsSum (fun r => wpY_winsSum (fun r' v' => r' = r ∧ i_Rel (k + 4) u v') v v1 v2 v3) u v1 v2 v3 := by
  obtain ⟨n, L, R, D, l, r, G, w, dd, rfl, rfl, h⟩ := I
  have hn := h.2.1
  have hl : gv_01 l := h.2.2.2.2.2.1
  have hr : gv_01 r := h.2.2.2.2.2.2.1
  unfold wpX_winsSum
  dsimp only
  rcases gv_cases v1 hn with ho | ⟨p, hp, rfl⟩
  · exact gv_xis0 ho (br_t rfl (gv_yws_0 h (Or.inl ho) (fun w' h' => ⟨rfl, gv_mk h'⟩)))
  · rcases gv_cases v2 hn with ho | ⟨q, hq, rfl⟩
    · exact gv_xis1 hn hp (br_f (by decide) (gv_xis0 ho (br_t rfl (gv_yws_0 h (Or.inr ⟨⟨p, hp, rfl⟩, Or.inl ho⟩) (fun w' h' => ⟨rfl, gv_mk h'⟩)))))
    · refine gv_xis1 hn hp (br_f (by decide) (gv_xis1 hn hq (br_f (by decide) ?_)))
      rcases gv_side v3 with ⟨s0, s1⟩ | rfl | rfl
      · exact gv_xsd0 s0 s1 (br_t rfl (gv_yws_0 h (Or.inr ⟨⟨p, hp, rfl⟩, Or.inr ⟨⟨q, hq, rfl⟩, s0, s1⟩⟩) (fun w' h' => ⟨rfl, gv_mk h'⟩)))
      · exact gv_xsd (Or.inl rfl) (br_f (by decide) (gv_xfw_l hl (by omega) ⟨gv_nb (hl _), gv_yws_l h hp hq (fun w' h' => ⟨rfl, gv_mk h'⟩)⟩))
      · exact gv_xsd (Or.inr rfl) (br_f (by decide) (gv_xfw_r hr (by omega) ⟨gv_nb (hr _), gv_yws_r h hp hq (fun w' h' => ⟨rfl, gv_mk h'⟩)⟩))
theorem i_vc_compareSum {k : Nat} {u : SX} {v : SY} (I : i_Rel k u v) (hk : k + 4 ≤ 2048) (v1 : Int32) (v2 : Int32) (v3 : Int32) : wpX_compareSum (fun r => wpY_compareSum (fun r' v' => r' = r ∧ i_Rel (k + 4) u v') v v1 v2 v3) u v1 v2 v3 := by
  obtain ⟨n, L, R, D, l, r, G, w, dd, rfl, rfl, h⟩ := I
  have hn := h.2.1
  unfold wpX_compareSum
  dsimp only
  rcases gv_cases v1 hn with ho | ⟨p, hp, rfl⟩
  · exact gv_xis0 ho (br_t rfl (gv_ycs_0 h (Or.inl ho) (fun w' h' => ⟨rfl, gv_mk h'⟩)))
  · rcases gv_cases v2 hn with ho | ⟨q, hq, rfl⟩
    · exact gv_xis1 hn hp (br_f (by decide) (gv_xis0 ho (br_t rfl (gv_ycs_0 h (Or.inr ⟨⟨p, hp, rfl⟩, Or.inl ho⟩) (fun w' h' => ⟨rfl, gv_mk h'⟩)))))
    · refine gv_xis1 hn hp (br_f (by decide) (gv_xis1 hn hq (br_f (by decide) ?_)))
      rcases gv_cases v3 hn with ho | ⟨c, hc, rfl⟩
      · exact gv_xis0 ho (br_t rfl (gv_ycs_0 h (Or.inr ⟨⟨p, hp, rfl⟩, Or.inr ⟨⟨q, hq, rfl⟩, ho⟩⟩) (fun w' h' => ⟨rfl, gv_mk h'⟩)))
      · exact gv_xis1 hn hc (br_f (by decide) (gv_xst (by omega) (gv_ycs h hp hq hc (fun w' h' => ⟨rfl, gv_mk h'⟩))))
theorem i_vc_dominated {k : Nat} {u : SX} {v : SY} (I : i_Rel k u v) (hk : k + 4 ≤ 2048) (v1 : Int32) (v2 : Int32) : wpX_dominated (fun r => wpY_dominated (fun r' v' => r' = r ∧ i_Rel (k + 4) u v') v v1 v2) u v1 v2 := by
  obtain ⟨n, L, R, D, l, r, G, w, dd, rfl, rfl, h⟩ := I
  have hn := h.2.1
  have hg := h.2.2.1
  have K : i_Rel (k + 4) (nI n, L, R, D, l, r) (nI n, G, w, dd) := gv_mk h
  unfold wpX_dominated wpY_dominated
  dsimp only
  rcases gv_cases v1 hn with ho | ⟨p, hp, rfl⟩
  · exact gv_xis0 ho (br_t rfl (gv_yis0 ho (br_t rfl ⟨rfl, K⟩)))
  · have ec : (nI p).toNatClampNeg = p := nI_clamp (by omega)
    have vp : vp_in (nI p) 10 := vp_in_nI (by omega) (by omega)
    have eL : G (2 * p + 0) = L p := (h.2.2.2.1 p hp).symm
    have eR : G (2 * p + 1) = R p := (h.2.2.2.2.1 p hp).symm
    have mL : ∀ x, bt (L p) x = true → x < n := fun x hx => by
      have := hg p 0 x hp (by omega) (by rw [eL]; exact hx)
      omega
    have mR : ∀ x, bt (R p) x = true → x < n := fun x hx => by
      have := hg p 1 x hp (by omega) (by rw [eR]; exact hx)
      omega
    rw [ec]
    rcases gv_side v2 with ⟨h0, h1⟩ | rfl | rfl
    · exact gv_xis1 hn hp (br_f (by decide) (gv_xsd0 h0 h1 (br_t rfl (gv_yis1 hn hp (br_f (by decide) (br_f h0 (br_f h1 ⟨rfl, K⟩)))))))
    · refine gv_xis1 hn hp (br_f (by decide) (gv_xsd (Or.inl rfl) (br_f (by decide) (br_t rfl ⟨vp, nm_e ⟨n + 1, gv_x43 hn (fun f hf => ?_) n 0 0 (by omega) gv_FX_0⟩⟩))))
      refine gv_yis1 hn hp (br_f (by decide) (br_t rfl (gv_yd19 (t := 0) h hp (by omega) (fun w' f' h' hf' => ⟨?_, gv_mk h'⟩))))
      rw [eL] at hf'
      exact gv_FXY hn mL hf hf'
    · refine gv_xis1 hn hp (br_f (by decide) (gv_xsd (Or.inr rfl) (br_f (by decide) (br_f (by decide) ⟨vp, nm_e ⟨n + 1, gv_x43 hn (fun f hf => ?_) n 0 0 (by omega) gv_FX_0⟩⟩))))
      refine gv_yis1 hn hp (br_f (by decide) (br_f (by decide) (br_t rfl (gv_yd19 (t := 1) h hp (by omega) (fun w' f' h' hf' => ⟨?_, gv_mk h'⟩)))))
      rw [eR] at hf'
      exact gv_FXY hn mR hf hf'
theorem i_vc_first {k : Nat} {u : SX} {v : SY} (I : i_Rel k u v) (hk : k + 4 ≤ 2048) (v1 : Int32) : wpX_first (fun r => wpY_first (fun r' v' => r' = r ∧ i_Rel (k + 4) u v') v v1) u v1 := by
  obtain ⟨n, L, R, D, l, r, G, w, dd, rfl, rfl, h⟩ := I
  have h1 := h.1
  have hn := h.2.1
  unfold wpX_first
  dsimp only
  rcases gv_cases v1 hn with ho | ⟨p, hp, rfl⟩
  · exact gv_xis0 ho (br_t rfl ⟨1, br_f (nI_ge (a := 0) (by omega) (by omega)) (gv_yis0 ho (br_t rfl ⟨rfl, gv_mk h⟩))⟩)
  · obtain ⟨r0, hX, hY⟩ := gv_fst h hp
    exact gv_xis1 hn hp (br_f (by decide) (hX _ (hY w dd _ h (fun w' h' => ⟨rfl, gv_mk h'⟩))))
theorem i_vc_values {k : Nat} {u : SX} {v : SY} (I : i_Rel k u v) (hk : k + 4 ≤ 2048) : wpX_values (fun r => wpY_values (fun r' v' => r' = r ∧ i_Rel (k + 4) u v') v) u := by
  obtain ⟨n, L, R, D, l, r, G, w, dd, rfl, rfl, h⟩ := I
  obtain ⟨r0, hX, hY⟩ := gv_val_l h n 0 0 (by omega)
  exact ⟨n + 1, hX _ ⟨n + 1, hY w dd _ h (fun w' h' => ⟨rfl, gv_mk h'⟩)⟩⟩
theorem i_vc_depth {k : Nat} {u : SX} {v : SY} (I : i_Rel k u v) (hk : k + 4 ≤ 2048) (v1 : Int32) : wpX_depth (fun r => wpY_depth (fun r' v' => r' = r ∧ i_Rel (k + 4) u v') v v1) u v1 := by
  obtain ⟨n, L, R, D, l, r, G, w, dd, rfl, rfl, h⟩ := I
  have hn := h.2.1
  have hD : gv_Dp G D n := h.2.2.2.2.2.2.2.2.1
  unfold wpX_depth
  dsimp only
  rcases gv_cases v1 hn with ho | ⟨p, hp, rfl⟩
  · exact gv_xis0 ho (br_t rfl (gv_ydep hn (fun dd' hD' => gv_yis0 ho (br_t rfl ⟨rfl, gv_mk h⟩))))
  · have ec : (nI p).toNatClampNeg = p := nI_clamp (by omega)
    have vp : vp_in (nI p) 10 := vp_in_nI (by omega) (by omega)
    refine gv_xis1 hn hp (br_f (by decide) ⟨vp, gv_ydep hn (fun dd' hD' => gv_yis1 hn hp (br_f (by decide) ⟨vp, ?_, gv_mk h⟩))⟩)
    rw [ec]
    exact gv_Dp_u hD' hD 10 p (by omega) hp
theorem i_vc_above {k : Nat} {u : SX} {v : SY} (I : i_Rel k u v) (hk : k + 4 ≤ 2048) (v1 : Int32) : wpX_above (fun r => wpY_above (fun r' v' => r' = r ∧ i_Rel (k + 4) u v') v v1) u v1 := by
  obtain ⟨n, L, R, D, l, r, G, w, dd, rfl, rfl, h⟩ := I
  have hn := h.2.1
  unfold wpX_above
  dsimp only
  rcases gv_cases v1 hn with ho | ⟨p, hp, rfl⟩
  · exact gv_xis0 ho (br_t rfl (gv_yab_0 h ho (fun w' h' => ⟨rfl, gv_mk h'⟩)))
  · obtain ⟨r0, hX, hY⟩ := gv_abv_l (L := L) (R := R) (D := D) (l := l) (r := r) (G := G) hn hp n 0 0 (by omega)
    refine gv_xis1 hn hp (br_f (by decide) ⟨n + 1, hX _ ?_⟩)
    unfold wpY_above
    dsimp only
    exact gv_ywork h (fun w' h' hA => ⟨n + 1, hY w' dd _ hA ⟨rfl, gv_mk h'⟩⟩)
theorem i_vc_opposite {k : Nat} {u : SX} {v : SY} (I : i_Rel k u v) (hk : k + 4 ≤ 2048) (v1 : Int32) (v2 : Int32) : wpX_opposite (fun r => wpY_opposite (fun r' v' => r' = r ∧ i_Rel (k + 4) u v') v v1 v2) u v1 v2 := by
  obtain ⟨n, L, R, D, l, r, G, w, dd, rfl, rfl, h⟩ := I
  have hn := h.2.1
  unfold wpX_opposite
  dsimp only
  rcases gv_cases v1 hn with ho | ⟨p, hp, rfl⟩
  · exact gv_xis0 ho (br_t rfl (gv_yop_0 h (Or.inl ho) (fun w' h' => ⟨rfl, gv_mk h'⟩)))
  · rcases gv_cases v2 hn with ho | ⟨q, hq, rfl⟩
    · exact gv_xis1 hn hp (br_f (by decide) (gv_xis0 ho (br_t rfl (gv_yop_0 h (Or.inr ⟨⟨p, hp, rfl⟩, ho⟩) (fun w' h' => ⟨rfl, gv_mk h'⟩)))))
    · refine gv_xis1 hn hp (br_f (by decide) (gv_xis1 hn hq (br_f (by decide) (gv_xst (c := 0) (by omega) ?_))))
      by_cases zr : r (100 * p + 10 * q + 0) = 0
      · by_cases zl : l (100 * p + 10 * q + 0) = 0
        · rw [gv_sd0 zr zl]
          exact br_t rfl (gv_yop h hp hq (fun _ _ w' h' => ⟨rfl, gv_mk h'⟩) (fun z => absurd ⟨zr, zl⟩ z))
        · rw [gv_sd1 zr zl]
          exact br_f (by decide) (gv_yop h hp hq (fun _ z => absurd z zl) (fun _ w' h' => ⟨rfl, gv_mk h'⟩))
      · by_cases zl : l (100 * p + 10 * q + 0) = 0
        · rw [gv_sd2 zr zl]
          exact br_f (by decide) (gv_yop h hp hq (fun z _ => absurd z zr) (fun _ w' h' => ⟨rfl, gv_mk h'⟩))
        · rw [gv_sd3 zr zl]
          exact br_f (by decide) (gv_yop h hp hq (fun z _ => absurd z zr) (fun _ w' h' => ⟨rfl, gv_mk h'⟩))
