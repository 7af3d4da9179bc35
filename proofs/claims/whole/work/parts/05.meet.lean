/-! where the two meet -/
def gv_R (n : Nat) (L R D l r G w : Nat → Int32) : Prop :=
  1 ≤ n ∧ n ≤ 10 ∧ gv_Good G n ∧ (∀ p, p < n → L p = G (2 * p)) ∧ (∀ p, p < n → R p = G (2 * p + 1)) ∧ gv_01 l ∧ gv_01 r ∧ gv_Inv G n (gv_TX l r) 1000 ∧ gv_Dp G D n ∧ gv_01 w
def gv_Out (n : Nat) (p : Int32) : Prop := p < 0 ∨ nI n ≤ p
theorem gv_cases (p : Int32) {n : Nat} (hn : n ≤ 10) : gv_Out n p ∨ ∃ j, j < n ∧ p = nI j := by
  rcases pk_ix p (n := n) (by omega) with h | h | h
  · exact Or.inl (Or.inl h)
  · exact Or.inl (Or.inr h)
  · exact Or.inr h
theorem gv_side (s : Int32) : (¬ s = 0 ∧ ¬ s = 1) ∨ s = 0 ∨ s = 1 := by
  by_cases h0 : s = 0
  · exact Or.inr (Or.inl h0)
  · by_cases h1 : s = 1
    · exact Or.inr (Or.inr h1)
    · exact Or.inl ⟨h0, h1⟩
section
variable {post : Int32 → Prop} {n : Nat} {L R D l r G w dd : Nat → Int32}
theorem gv_xis1 {j : Nat} (hn : n ≤ 10) (hj : j < n) (h : post 1) : wpX_isThere post (nI n, L, R, D, l, r) (nI j) := br_f (nI_pos (by omega)) (br_f (nI_ge hj (by omega)) h)
theorem gv_xis0 {p : Int32} (hp : gv_Out n p) (h : post 0) : wpX_isThere post (nI n, L, R, D, l, r) p := br_c (fun _ => h) (fun z => br_t (hp.resolve_left z) h)
theorem gv_yis1 {j : Nat} (hn : n ≤ 10) (hj : j < n) (h : post 1) : wpY_is post (nI n, G, w, dd) (nI j) := br_f (nI_pos (by omega)) (br_f (nI_ge hj (by omega)) h)
theorem gv_yis0 {p : Int32} (hp : gv_Out n p) (h : post 0) : wpY_is post (nI n, G, w, dd) p := br_c (fun _ => h) (fun z => br_t (hp.resolve_left z) h)
theorem gv_xsd {s : Int32} (hs : s = 0 ∨ s = 1) (h : post 1) : wpX_isSide post s := br_c (fun _ => h) (fun z => br_t (hs.resolve_left z) h)
theorem gv_xsd0 {s : Int32} (h0 : ¬ s = 0) (h1 : ¬ s = 1) (h : post 0) : wpX_isSide post s := br_f h0 (br_f h1 h)
/-- how the sum with the code k stands -/
def gv_sd (l r : Nat → Int32) (k : Nat) : Int32 := if r k = 0 then (if l k = 0 then 0 else 1) else (if l k = 0 then 2 else 3)
theorem gv_sd0 {l r : Nat → Int32} {k : Nat} (hr : r k = 0) (hl : l k = 0) : gv_sd l r k = 0 := by unfold gv_sd; rw [if_pos hr, if_pos hl]
theorem gv_sd1 {l r : Nat → Int32} {k : Nat} (hr : r k = 0) (hl : ¬ l k = 0) : gv_sd l r k = 1 := by unfold gv_sd; rw [if_pos hr, if_neg hl]
theorem gv_sd2 {l r : Nat → Int32} {k : Nat} (hr : ¬ r k = 0) (hl : l k = 0) : gv_sd l r k = 2 := by unfold gv_sd; rw [if_neg hr, if_pos hl]
theorem gv_sd3 {l r : Nat → Int32} {k : Nat} (hr : ¬ r k = 0) (hl : ¬ l k = 0) : gv_sd l r k = 3 := by unfold gv_sd; rw [if_neg hr, if_neg hl]
theorem gv_xst {a b c : Nat} (hk : 100 * a + 10 * b + c < 1000) (h : post (gv_sd l r (100 * a + 10 * b + c))) : wpX_standing post (nI n, L, R, D, l, r) (nI a) (nI b) (nI c) := by
  have ec : (nI (100 * a + 10 * b + c)).toNatClampNeg = 100 * a + 10 * b + c := nI_clamp (by omega)
  have vk : vp_in (nI (100 * a + 10 * b + c)) 1000 := vp_in_nI hk (by omega)
  unfold wpX_standing
  simp only [wpX_sumIndex]
  rw [gv_sum, ec]
  refine ⟨vk, br_c (fun z => ?_) (fun z => ?_)⟩
  · unfold wX_standing_23
    rw [ec]
    refine ⟨vk, br_c (fun y => ?_) (fun y => ?_)⟩
    · rw [gv_sd0 z y] at h
      exact br_f (by decide) (br_f (by decide) h)
    · rw [gv_sd1 z y] at h
      exact br_f (by decide) (br_t rfl h)
  · unfold wX_standing_23
    rw [ec]
    refine ⟨vk, br_c (fun y => ?_) (fun y => ?_)⟩
    · rw [gv_sd2 z y] at h
      exact br_t rfl (br_f (by decide) h)
    · rw [gv_sd3 z y] at h
      exact br_t rfl (br_t rfl h)
theorem gv_yle {p q : Nat} (hn : n ≤ 10) (hp : p < n) (hq : q < n) (hA : gv_Agr n l r w) (h1 : r (100 * p + 10 * 0 + q) = 0 → post 1) (h0 : ¬ r (100 * p + 10 * 0 + q) = 0 → post 0) : wpY_least post (nI n, G, w, dd) (nI p) (nI q) := by
  unfold wpY_least
  dsimp only
  refine gv_ycell (b := 0) (s := 1) ⟨vp_in_nI (by omega) (by omega), ?_⟩
  rw [nI_clamp (by omega), (hA p 0 q hp (by omega) hq).2]
  exact br_c h1 h0
theorem gv_yst0 {z : Int32} (h : post 0) : wpY_stands post (z, G, w, dd) 1 1 := br_f (by decide) (br_f (by decide) h)
theorem gv_yst1 {z : Int32} (h : post 1) : wpY_stands post (z, G, w, dd) 1 0 := br_f (by decide) (br_t rfl (br_f (by decide) h))
theorem gv_yst2 {z : Int32} (h : post 2) : wpY_stands post (z, G, w, dd) 0 1 := br_t rfl (br_t rfl (br_f (by decide) h))
theorem gv_yst3 {z : Int32} (h : post 3) : wpY_stands post (z, G, w, dd) 0 0 := br_t rfl (br_t rfl (br_t rfl h))
end
section
variable {n : Nat} {L R D l r G w dd : Nat → Int32}
theorem gv_ywork {post : SY → Prop} (h : gv_R n L R D l r G w) (hp : ∀ w', gv_R n L R D l r G w' → gv_Agr n l r w' → post (nI n, G, w', dd)) : wpY_work post (nI n, G, w, dd) := by
  obtain ⟨h1, hn, hg, hL, hR, hl, hr, hI, hD, hw⟩ := h
  exact gv_ywork_0 hn hg hw (fun w' hw' hI' => hp w' ⟨h1, hn, hg, hL, hR, hl, hr, hI, hD, hw'⟩ (gv_agr hn hg hl hr hw' hI hI'))
theorem gv_tn (h : gv_R n L R D l r G w) {a c : Nat} (ha : a < n) (hc : c < n) : l (100 * a + 10 * 0 + c) = r (100 * c + 10 * 0 + a) := by
  obtain ⟨h1, hn, hg, hL, hR, hl, hr, hI, hD, hw⟩ := h
  exact gv_turn hn hg hl hr hI ha hc
theorem gv_ycmp {post : Int32 → SY → Prop} {p q : Nat} (h : gv_R n L R D l r G w) (hp : p < n) (hq : q < n) (hk : ∀ w', gv_R n L R D l r G w' → post (gv_sd l r (100 * p + 10 * 0 + q)) (nI n, G, w', dd)) : wpY_compare post (nI n, G, w, dd) (nI p) (nI q) := by
  have hn := h.2.1
  have ht := gv_tn h hp hq
  unfold wpY_compare
  dsimp only
  refine gv_ywork h (fun w' h' hA => ?_)
  have hk := hk w' h'
  dsimp only
  refine gv_yis1 hn hp (br_f (by decide) (gv_yis1 hn hq (br_f (by decide) ?_)))
  refine gv_yle hn hp hq hA (fun z1 => gv_yle hn hq hp hA (fun z2 => ?_) (fun z2 => ?_)) (fun z1 => gv_yle hn hq hp hA (fun z2 => ?_) (fun z2 => ?_))
  · rw [gv_sd0 z1 (ht.trans z2)] at hk
    exact gv_yst0 hk
  · rw [gv_sd1 z1 (fun z => z2 (ht.symm.trans z))] at hk
    exact gv_yst1 hk
  · rw [gv_sd2 z1 (ht.trans z2)] at hk
    exact gv_yst2 hk
  · rw [gv_sd3 z1 (fun z => z2 (ht.symm.trans z))] at hk
    exact gv_yst3 hk
/-! first and values, in lockstep -/
theorem gv_fst_l {p : Nat} (hp : p < n) (hn : n ≤ 10) (hz : gv_sd l r (100 * p + 10 * 0 + p) = 0) : ∀ d i, i + d = p → ∃ r0 : Int32,
    (∀ post : Int32 → Prop, post r0 → wX_leastEqual_2 post (nI p) (nI n) L R D l r (d + 1) (nI i)) ∧
    (∀ (w dd : Nat → Int32) (post : Int32 → SY → Prop), gv_R n L R D l r G w → (∀ w', gv_R n L R D l r G w' → post r0 (nI n, G, w', dd)) → wY_first_2 post (nI p) (d + 1) (nI i) (nI n) G w dd) := by
  intro d
  induction d with
  | zero =>
    intro i hi
    obtain rfl : i = p := by omega
    refine ⟨nI i, fun post h => br_t (nI_le (by omega) (by omega)) h, fun w dd post h hk => ?_⟩
    refine br_f (nI_ge hp (by omega)) (gv_yis1 hn hp (br_f (by decide) (gv_ycmp h hp hp (fun w' h' => ?_))))
    rw [hz]
    exact br_t rfl (hk w' h')
  | succ d ih =>
    intro i hi
    by_cases z : gv_sd l r (100 * p + 10 * 0 + i) = 0
    · refine ⟨nI i, fun post h => br_f (nI_ge (by omega) (by omega)) (gv_xst (b := 0) (by omega) (br_t z h)), fun w dd post h hk => ?_⟩
      exact br_f (nI_ge (by omega) (by omega)) (gv_yis1 hn hp (br_f (by decide) (gv_ycmp h hp (by omega) (fun w' h' => br_t z (hk w' h')))))
    · obtain ⟨r0, hX, hY⟩ := ih (i + 1) (by omega)
      refine ⟨r0, fun post h => br_f (nI_ge (by omega) (by omega)) (gv_xst (b := 0) (by omega) (br_f z (nm_r (nI_1 i) (hX post h)))), fun w dd post h hk => ?_⟩
      exact br_f (nI_ge (by omega) (by omega)) (gv_yis1 hn hp (br_f (by decide) (gv_ycmp h hp (by omega) (fun w' h' => br_f z (nm_r (nI_1 i) (hY w' dd post h' hk))))))
theorem gv_fst {p : Nat} (h : gv_R n L R D l r G w) (hp : p < n) : ∃ r0 : Int32,
    (∀ post : Int32 → Prop, post r0 → wpX_leastEqual post (nI n, L, R, D, l, r) (nI p)) ∧
    (∀ (w dd : Nat → Int32) (post : Int32 → SY → Prop), gv_R n L R D l r G w → (∀ w', gv_R n L R D l r G w' → post r0 (nI n, G, w', dd)) → wpY_first post (nI n, G, w, dd) (nI p)) := by
  have hz : gv_sd l r (100 * p + 10 * 0 + p) = 0 := by
    obtain ⟨h1, hn, hg, hL, hR, hl, hr, hI, hD, hw⟩ := h
    obtain ⟨z1, z2⟩ := gv_self hn hg hI hp
    exact gv_sd0 z2 z1
  obtain ⟨r0, hX, hY⟩ := gv_fst_l (L := L) (R := R) (D := D) (G := G) hp h.2.1 hz p 0 (by omega)
  exact ⟨r0, fun post h => ⟨p + 1, hX post h⟩, fun w dd post h hk => ⟨p + 1, hY w dd post h hk⟩⟩
theorem gv_val_l (h0 : gv_R n L R D l r G w) : ∀ d i x, i + d = n → ∃ r0 : Int32,
    (∀ post : Int32 → Prop, post r0 → wX_values_4 post (nI n) L R D l r (d + 1) x (nI i)) ∧
    (∀ (w dd : Nat → Int32) (post : Int32 → SY → Prop), gv_R n L R D l r G w → (∀ w', gv_R n L R D l r G w' → post r0 (nI n, G, w', dd)) → wY_values_4 post (d + 1) x (nI i) (nI n) G w dd) := by
  have hn := h0.2.1
  intro d
  induction d with
  | zero =>
    intro i x hi
    exact ⟨x, fun post h => br_t (nI_le (by omega) (by omega)) h, fun w dd post h hk => br_t (nI_le (by omega) (by omega)) (hk w h)⟩
  | succ d ih =>
    intro i x hi
    obtain ⟨q, hX, hY⟩ := gv_fst h0 (p := i) (by omega)
    by_cases z : q = nI i
    · obtain ⟨r0, hX', hY'⟩ := ih (i + 1) (x + 1) (by omega)
      refine ⟨r0, fun post h => br_f (nI_ge (by omega) (by omega)) (hX _ (br_t z (nm_e (nm_r (nI_1 i) (hX' post h))))), fun w dd post h hk => ?_⟩
      exact br_f (nI_ge (by omega) (by omega)) (hY w dd _ h (fun w' h' => br_t z (nm_e (nm_r (nI_1 i) (hY' w' dd post h' hk)))))
    · obtain ⟨r0, hX', hY'⟩ := ih (i + 1) x (by omega)
      refine ⟨r0, fun post h => br_f (nI_ge (by omega) (by omega)) (hX _ (br_f z (nm_r (nI_1 i) (hX' post h)))), fun w dd post h hk => ?_⟩
      exact br_f (nI_ge (by omega) (by omega)) (hY w dd _ h (fun w' h' => br_f z (nm_r (nI_1 i) (hY' w' dd post h' hk))))
/-! above, in lockstep -/
theorem gv_xal {post : Int32 → Prop} {a c : Nat} (hk : 100 * a + 10 * 0 + c < 1000) (h1 : r (100 * a + 10 * 0 + c) = 0 → post 1) (h0 : ¬ r (100 * a + 10 * 0 + c) = 0 → post 0) : wpX_isAtLeast post (nI n, L, R, D, l, r) (nI a) (nI c) := by
  have s := gv_sum a 0 c
  rw [nI_0] at s
  unfold wpX_isAtLeast
  simp only [wpX_sumIndex]
  rw [s, nI_clamp (by omega)]
  exact ⟨vp_in_nI hk (by omega), br_c h1 h0⟩
theorem gv_abv_l {p : Nat} (hn : n ≤ 10) (hp : p < n) : ∀ d i x, i + d = n → ∃ r0 : Int32,
    (∀ post : Int32 → Prop, post r0 → wX_above_14 post (nI p) (nI n) L R D l r (d + 1) x (nI i)) ∧
    (∀ (w dd : Nat → Int32) (post : Int32 → SY → Prop), gv_Agr n l r w → post r0 (nI n, G, w, dd) → wY_above_8 post (nI p) (nI n) G w dd (d + 1) x (nI i)) := by
  intro d
  induction d with
  | zero =>
    intro i x hi
    exact ⟨x, fun post h => br_t (nI_le (by omega) (by omega)) h, fun w dd post hA h => br_t (nI_le (by omega) (by omega)) (gv_yis1 hn hp (br_f (by decide) h))⟩
  | succ d ih =>
    intro i x hi
    by_cases z : r (100 * i + 10 * 0 + p) = 0
    · obtain ⟨r0, hX, hY⟩ := ih (i + 1) (x ||| ((1 : Int32) <<< (nI i &&& 31))) (by omega)
      refine ⟨r0, fun post h => br_f (nI_ge (by omega) (by omega)) (gv_xal (by omega) (fun _ => br_f (by decide) (nm_e (nm_r (nI_1 i) (hX post h)))) (fun y => absurd z y)), fun w dd post hA h => ?_⟩
      exact br_f (nI_ge (by omega) (by omega)) (gv_yis1 hn hp (br_f (by decide) (gv_yle hn (by omega) hp hA (fun _ => br_f (by decide) (nm_e (nm_r (nI_1 i) (hY w dd post hA h)))) (fun y => absurd z y))))
    · obtain ⟨r0, hX, hY⟩ := ih (i + 1) x (by omega)
      refine ⟨r0, fun post h => br_f (nI_ge (by omega) (by omega)) (gv_xal (by omega) (fun y => absurd y z) (fun _ => br_t rfl (nm_r (nI_1 i) (hX post h)))), fun w dd post hA h => ?_⟩
      exact br_f (nI_ge (by omega) (by omega)) (gv_yis1 hn hp (br_f (by decide) (gv_yle hn (by omega) hp hA (fun y => absurd y z) (fun _ => br_t rfl (nm_r (nI_1 i) (hY w dd post hA h))))))
end
