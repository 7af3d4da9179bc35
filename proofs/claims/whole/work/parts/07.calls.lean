/-! the calls of the reference with their refusals, and the class's reads -/
section
variable {n : Nat} {L R D l r G w dd : Nat → Int32}
theorem gv_ycmp0 {post : Int32 → SY → Prop} {p q : Int32} (h : gv_R n L R D l r G w) (hb : gv_Out n p ∨ ((∃ a, a < n ∧ p = nI a) ∧ gv_Out n q)) (hk : ∀ w', gv_R n L R D l r G w' → post (-1) (nI n, G, w', dd)) : wpY_compare post (nI n, G, w, dd) p q := by
  have hn := h.2.1
  unfold wpY_compare
  dsimp only
  refine gv_ywork h (fun w' h' hA => ?_)
  dsimp only
  rcases hb with ho | ⟨⟨a, ha, rfl⟩, ho⟩
  · exact gv_yis0 ho (br_t rfl (hk w' h'))
  · exact gv_yis1 hn ha (br_f (by decide) (gv_yis0 ho (br_t rfl (hk w' h'))))
theorem gv_yws_0 {post : Int32 → SY → Prop} {p q s : Int32} (h : gv_R n L R D l r G w) (hb : gv_Out n p ∨ ((∃ a, a < n ∧ p = nI a) ∧ (gv_Out n q ∨ ((∃ a, a < n ∧ q = nI a) ∧ ¬ s = 0 ∧ ¬ s = 1)))) (hk : ∀ w', gv_R n L R D l r G w' → post 0 (nI n, G, w', dd)) : wpY_winsSum post (nI n, G, w, dd) p q s := by
  have hn := h.2.1
  unfold wpY_winsSum
  dsimp only
  refine gv_ywork h (fun w' h' hA => ?_)
  dsimp only
  rcases hb with ho | ⟨⟨a, ha, rfl⟩, ho | ⟨⟨b, hb, rfl⟩, h0, h1⟩⟩
  · exact gv_yis0 ho (br_t rfl (hk w' h'))
  · exact gv_yis1 hn ha (br_f (by decide) (gv_yis0 ho (br_t rfl (hk w' h'))))
  · exact gv_yis1 hn ha (br_f (by decide) (gv_yis1 hn hb (br_f (by decide) (br_f h0 (br_f h1 (hk w' h'))))))
theorem gv_yws_l {post : Int32 → SY → Prop} {a b : Nat} (h : gv_R n L R D l r G w) (ha : a < n) (hb : b < n) (hk : ∀ w', gv_R n L R D l r G w' → post (l (100 * a + 10 * b + 0)) (nI n, G, w', dd)) : wpY_winsSum post (nI n, G, w, dd) (nI a) (nI b) 0 := by
  have h1 := h.1
  have hn := h.2.1
  have hl : gv_01 l := h.2.2.2.2.2.1
  unfold wpY_winsSum
  dsimp only
  refine gv_ywork h (fun w' h' hA => ?_)
  dsimp only
  have hk := hk w' h'
  refine gv_yis1 hn ha (br_f (by decide) (gv_yis1 hn hb (br_f (by decide) (br_t rfl ?_))))
  unfold wY_winsSum_29
  refine gv_ycell (c := 0) (s := 0) ⟨vp_in_nI (by omega) (by omega), ?_⟩
  rw [nI_clamp (by omega), Nat.add_zero (2 * _), (hA a b 0 ha hb h1).1]
  refine br_c (fun z => ?_) (fun z => ?_)
  · rw [z] at hk
    exact hk
  · rw [gv_01n (hl _) z] at hk
    exact hk
theorem gv_yws_r {post : Int32 → SY → Prop} {a b : Nat} (h : gv_R n L R D l r G w) (ha : a < n) (hb : b < n) (hk : ∀ w', gv_R n L R D l r G w' → post (r (100 * a + 10 * b + 0)) (nI n, G, w', dd)) : wpY_winsSum post (nI n, G, w, dd) (nI a) (nI b) 1 := by
  have h1 := h.1
  have hn := h.2.1
  have hr : gv_01 r := h.2.2.2.2.2.2.1
  unfold wpY_winsSum
  dsimp only
  refine gv_ywork h (fun w' h' hA => ?_)
  dsimp only
  have hk := hk w' h'
  refine gv_yis1 hn ha (br_f (by decide) (gv_yis1 hn hb (br_f (by decide) (br_f (by decide) (br_t rfl ?_)))))
  unfold wY_winsSum_29
  refine gv_ycell (c := 0) (s := 1) ⟨vp_in_nI (by omega) (by omega), ?_⟩
  rw [nI_clamp (by omega), (hA a b 0 ha hb h1).2]
  refine br_c (fun z => ?_) (fun z => ?_)
  · rw [z] at hk
    exact hk
  · rw [gv_01n (hr _) z] at hk
    exact hk
theorem gv_xfw_l {post : Int32 → Prop} {a b : Nat} (hl : gv_01 l) (hk : 100 * a + 10 * b + 0 < 1000) (h : post (l (100 * a + 10 * b + 0))) : wpX_firstWins post (nI n, L, R, D, l, r) (nI a) (nI b) 0 := by
  have s := gv_sum a b 0
  rw [nI_0] at s
  unfold wpX_firstWins
  simp only [wpX_sumIndex]
  rw [s, nI_clamp (by omega)]
  exact br_t (by trivial) ⟨vp_in_nI hk (by omega), gv_nb (hl _), h⟩
theorem gv_xfw_r {post : Int32 → Prop} {a b : Nat} (hr : gv_01 r) (hk : 100 * a + 10 * b + 0 < 1000) (h : post (r (100 * a + 10 * b + 0))) : wpX_firstWins post (nI n, L, R, D, l, r) (nI a) (nI b) 1 := by
  have s := gv_sum a b 0
  rw [nI_0] at s
  unfold wpX_firstWins
  simp only [wpX_sumIndex]
  rw [s, nI_clamp (by omega)]
  exact br_f (by decide) ⟨vp_in_nI hk (by omega), gv_nb (hr _), h⟩
theorem gv_ycs_0 {post : Int32 → SY → Prop} {p q s : Int32} (h : gv_R n L R D l r G w) (hb : gv_Out n p ∨ ((∃ a, a < n ∧ p = nI a) ∧ (gv_Out n q ∨ ((∃ a, a < n ∧ q = nI a) ∧ gv_Out n s)))) (hk : ∀ w', gv_R n L R D l r G w' → post (-1) (nI n, G, w', dd)) : wpY_compareSum post (nI n, G, w, dd) p q s := by
  have hn := h.2.1
  unfold wpY_compareSum
  dsimp only
  refine gv_ywork h (fun w' h' hA => ?_)
  dsimp only
  rcases hb with ho | ⟨⟨a, ha, rfl⟩, ho | ⟨⟨b, hb, rfl⟩, ho⟩⟩
  · exact gv_yis0 ho (br_t rfl (hk w' h'))
  · exact gv_yis1 hn ha (br_f (by decide) (gv_yis0 ho (br_t rfl (hk w' h'))))
  · exact gv_yis1 hn ha (br_f (by decide) (gv_yis1 hn hb (br_f (by decide) (gv_yis0 ho (br_t rfl (hk w' h'))))))
theorem gv_ycs {post : Int32 → SY → Prop} {a b c : Nat} (h : gv_R n L R D l r G w) (ha : a < n) (hb : b < n) (hc : c < n) (hk : ∀ w', gv_R n L R D l r G w' → post (gv_sd l r (100 * a + 10 * b + c)) (nI n, G, w', dd)) : wpY_compareSum post (nI n, G, w, dd) (nI a) (nI b) (nI c) := by
  have hn := h.2.1
  unfold wpY_compareSum
  dsimp only
  refine gv_ywork h (fun w' h' hA => ?_)
  dsimp only
  have hk := hk w' h'
  refine gv_yis1 hn ha (br_f (by decide) (gv_yis1 hn hb (br_f (by decide) (gv_yis1 hn hc (br_f (by decide) ?_)))))
  refine gv_ycell (s := 1) ⟨vp_in_nI (by omega) (by omega), ?_⟩
  rw [nI_clamp (by omega), (hA a b c ha hb hc).2]
  have two : ∀ z0 : Int32, (l (100 * a + 10 * b + c) = 0 → wY_compareSum_71 post 1 z0 (nI n) G w' dd) → (¬ l (100 * a + 10 * b + c) = 0 → wY_compareSum_71 post 0 z0 (nI n) G w' dd) → wY_compareSum_50 post (nI a) (nI b) (nI c) z0 (nI n) G w' dd := by
    intro z0 y1 y0
    unfold wY_compareSum_50
    refine gv_ycell (s := 0) ⟨vp_in_nI (by omega) (by omega), ?_⟩
    rw [nI_clamp (by omega), Nat.add_zero (2 * _), (hA a b c ha hb hc).1]
    exact br_c y1 y0
  refine br_c (fun zr => two 1 (fun zl => ?_) (fun zl => ?_)) (fun zr => two 0 (fun zl => ?_) (fun zl => ?_))
  · rw [gv_sd0 zr zl] at hk
    exact gv_yst0 hk
  · rw [gv_sd1 zr zl] at hk
    exact gv_yst1 hk
  · rw [gv_sd2 zr zl] at hk
    exact gv_yst2 hk
  · rw [gv_sd3 zr zl] at hk
    exact gv_yst3 hk
theorem gv_yop_0 {post : Int32 → SY → Prop} {p q : Int32} (h : gv_R n L R D l r G w) (hb : gv_Out n p ∨ ((∃ a, a < n ∧ p = nI a) ∧ gv_Out n q)) (hk : ∀ w', gv_R n L R D l r G w' → post 0 (nI n, G, w', dd)) : wpY_opposite post (nI n, G, w, dd) p q := by
  have hn := h.2.1
  unfold wpY_opposite
  dsimp only
  refine gv_ywork h (fun w' h' hA => ?_)
  dsimp only
  rcases hb with ho | ⟨⟨a, ha, rfl⟩, ho⟩
  · exact gv_yis0 ho (br_t rfl (hk w' h'))
  · exact gv_yis1 hn ha (br_f (by decide) (gv_yis0 ho (br_t rfl (hk w' h'))))
theorem gv_yop {post : Int32 → SY → Prop} {a b : Nat} (h : gv_R n L R D l r G w) (ha : a < n) (hb : b < n)
    (h1 : r (100 * a + 10 * b + 0) = 0 → l (100 * a + 10 * b + 0) = 0 → ∀ w', gv_R n L R D l r G w' → post 1 (nI n, G, w', dd))
    (h0 : ¬ (r (100 * a + 10 * b + 0) = 0 ∧ l (100 * a + 10 * b + 0) = 0) → ∀ w', gv_R n L R D l r G w' → post 0 (nI n, G, w', dd)) : wpY_opposite post (nI n, G, w, dd) (nI a) (nI b) := by
  have hp := h.1
  have hn := h.2.1
  unfold wpY_opposite
  dsimp only
  refine gv_ywork h (fun w' h' hA => ?_)
  dsimp only
  refine gv_yis1 hn ha (br_f (by decide) (gv_yis1 hn hb (br_f (by decide) ?_)))
  refine gv_ycell (c := 0) (s := 0) ⟨vp_in_nI (by omega) (by omega), ?_⟩
  rw [nI_clamp (by omega), Nat.add_zero (2 * _), (hA a b 0 ha hb hp).1]
  refine br_c (fun zl => ?_) (fun zl => h0 (fun q => zl q.2) w' h')
  refine gv_ycell (c := 0) (s := 1) ⟨vp_in_nI (by omega) (by omega), ?_⟩
  rw [nI_clamp (by omega), (hA a b 0 ha hb hp).2]
  exact br_c (fun zr => h1 zr zl w' h') (fun zr => h0 (fun q => zr q.1) w' h')
theorem gv_ym17 {post : Int32 → Prop} {p t : Nat} (hn : n ≤ 10) (hp : p < n) (ht : t < 2) (h : post (G (2 * p + t))) : wY_moves_17 post (nI p) (nI t) (nI n) G w dd := by
  unfold wY_moves_17
  rw [gv_dbl, nI_clamp (by omega)]
  exact ⟨vp_in_nI (by omega) (by omega), h⟩
theorem gv_yd19 {post : Int32 → SY → Prop} {p t : Nat} (h : gv_R n L R D l r G w) (hp : p < n) (ht : t < 2) (hk : ∀ w' f, gv_R n L R D l r G w' → gv_FY l r (G (2 * p + t)) (nI t) 100 f → post f (nI n, G, w', dd)) : wY_dominated_19 post (nI p) (nI t) (nI n) G w dd := by
  have hn := h.2.1
  have hg := h.2.2.1
  unfold wY_dominated_19
  refine gv_ywork h (fun w' h' hA => ?_)
  dsimp only
  rw [gv_dbl, nI_clamp (by omega)]
  refine ⟨vp_in_nI (by omega) (by omega), nm_e ⟨101, ?_⟩⟩
  refine gv_y40 hn (fun x hx => ?_) hA (fun x y hx hy => gv_tn h hx hy) (fun f hf => hk w' f h' hf) 100 0 0 rfl gv_FY_0
  have := hg p t x hp ht hx
  omega
theorem gv_yab_0 {post : Int32 → SY → Prop} {p : Int32} (h : gv_R n L R D l r G w) (ho : gv_Out n p) (hk : ∀ w', gv_R n L R D l r G w' → post (-1) (nI n, G, w', dd)) : wpY_above post (nI n, G, w, dd) p := by
  have h1 := h.1
  have hn := h.2.1
  unfold wpY_above
  dsimp only
  refine gv_ywork h (fun w' h' hA => ?_)
  dsimp only
  exact ⟨1, br_f (nI_ge (a := 0) (by omega) (by omega)) (gv_yis0 ho (br_t rfl (gv_yis0 ho (br_t rfl (hk w' h')))))⟩
/-! what add makes -/
theorem gv_add {v1 v2 : Int32} {l' r' : Nat → Int32} (h : gv_R n L R D l r G w) (h10 : n < 10) (hg' : gv_Good (upd (upd G (2 * n) v1) (2 * n + 1) v2) (n + 1))
    (hL' : ∀ p, p < n + 1 → upd L n v1 p = upd (upd G (2 * n) v1) (2 * n + 1) v2 (2 * p)) (hR' : ∀ p, p < n + 1 → upd R n v2 p = upd (upd G (2 * n) v1) (2 * n + 1) v2 (2 * p + 1))
    (hl : gv_01 l') (hr : gv_01 r') (hI : gv_Inv (upd (upd G (2 * n) v1) (2 * n + 1) v2) (n + 1) (gv_TX l' r') 1000) :
    gv_R (n + 1) (upd L n v1) (upd R n v2) (upd D n (gv_dm D (v1 ||| v2) n)) l' r' (upd (upd G (2 * n) v1) (2 * n + 1) v2) w := by
  obtain ⟨h1, hn, hg, hL, hR, _, _, _, hD, hw⟩ := h
  refine ⟨by omega, by omega, hg', hL', hR', hl, hr, hI, ?_, hw⟩
  intro p hp
  rw [← hL' p hp, ← hR' p hp]
  rcases Nat.lt_or_ge p n with h | h
  · rw [pk_un (by omega), pk_un (by omega), pk_un (by omega), hL p h, hR p h, hD p h]
    exact gv_dm_c p (fun x hx => (pk_un (by omega)).symm)
  · obtain rfl : p = n := by omega
    rw [pk_us, pk_us, pk_us]
    exact gv_dm_c p (fun x hx => (pk_un (by omega)).symm)
theorem gv_addL {v1 v2 : Int32} (hL : ∀ p, p < n → L p = G (2 * p)) : ∀ p, p < n + 1 → upd L n v1 p = upd (upd G (2 * n) v1) (2 * n + 1) v2 (2 * p) := by
  intro p hp
  rcases Nat.lt_or_ge p n with h | h
  · rw [pk_un (by omega), pk_un (by omega), pk_un (by omega), hL p h]
  · obtain rfl : p = n := by omega
    rw [pk_us, pk_un (by omega), pk_us]
theorem gv_addR {v1 v2 : Int32} (hR : ∀ p, p < n → R p = G (2 * p + 1)) : ∀ p, p < n + 1 → upd R n v2 p = upd (upd G (2 * n) v1) (2 * n + 1) v2 (2 * p + 1) := by
  intro p hp
  rcases Nat.lt_or_ge p n with h | h
  · rw [pk_un (by omega), pk_un (by omega), pk_un (by omega), hR p h]
  · obtain rfl : p = n := by omega
    rw [pk_us, pk_us]
theorem gv_addG {v1 v2 : Int32} (hg : gv_Good G n) (h1 : ∀ i, bt v1 i = true → i < n) (h2 : ∀ i, bt v2 i = true → i < n) : gv_Good (upd (upd G (2 * n) v1) (2 * n + 1) v2) (n + 1) := by
  intro p s x hp hs hx
  rcases Nat.lt_or_ge p n with h | h
  · rw [pk_un (by omega), pk_un (by omega)] at hx
    exact hg p s x h hs hx
  · obtain rfl : p = n := by omega
    obtain rfl | rfl : s = 0 ∨ s = 1 := by omega
    · rw [pk_un (by omega), Nat.add_zero, pk_us] at hx
      exact h1 x hx
    · rw [pk_us] at hx
      exact h2 x hx
theorem gv_less (h : gv_R n L R D l r G w) (h2 : 2 ≤ n) : gv_R (n - 1) L R D l r G w := by
  obtain ⟨h1, hn, hg, hL, hR, hl, hr, hI, hD, hw⟩ := h
  exact ⟨by omega, by omega, gv_Good_le (by omega) hg, fun p hp => hL p (by omega), fun p hp => hR p (by omega), hl, hr, gv_Inv_le (by omega) hI, gv_Dp_le (by omega) hD, hw⟩
theorem gv_new : gv_R 1 (fun _ => 0) (fun _ => 0) (fun _ => 0) (fun _ => 0) (fun _ => 0) (fun _ => 0) (fun _ => 0) := by
  refine ⟨by omega, by omega, ?_, fun _ _ => rfl, fun _ _ => rfl, gv_010, gv_010, ?_, ?_, gv_010⟩
  · intro p s x _ _ hx
    rw [b_0] at hx
    exact absurd hx (by decide)
  · intro a b c s t _ _ _ _ _
    constructor
    · intro z
      refine absurd ?_ z
      by_cases e : s = 0
      · rw [if_pos e]
      · rw [if_neg e]
    · rintro (⟨x, hx, _⟩ | ⟨x, hx, _⟩ | ⟨x, hx, _⟩)
      · rw [b_0] at hx
        exact absurd hx (by decide)
      · rw [b_0] at hx
        exact absurd hx (by decide)
      · rw [b_0] at hx
        exact absurd hx (by decide)
  · intro p hp
    obtain rfl : p = 0 := by omega
    rfl
end
