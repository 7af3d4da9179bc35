/-! the reference: cell, canWin, work -/
theorem gv_cellE (a b c s : Nat) : (((200 * nI a) + (20 * nI b)) + (2 * nI c)) + nI s = nI (2 * (100 * a + 10 * b + c) + s) := by
  have h : (((nI 200 * nI a) + (nI 20 * nI b)) + (nI 2 * nI c)) + nI s = nI (2 * (100 * a + 10 * b + c) + s) := by
    rw [pk_mul, pk_mul, pk_mul, nI_add, nI_add, nI_add]
    exact congrArg nI (by omega)
  exact h
theorem gv_dbl (a s : Nat) : (2 * nI a) + nI s = nI (2 * a + s) := by
  have h : (nI 2 * nI a) + nI s = nI (2 * a + s) := by rw [pk_mul, nI_add]
  exact h
theorem gv_dbl0 (a : Nat) : 2 * nI a = nI (2 * a) := by
  have h : nI 2 * nI a = nI (2 * a) := by rw [pk_mul]
  exact h
theorem gv_dblt {s t : Nat} (a : Nat) (h : s + t = 1) : ((2 * nI a) + 1) - nI s = nI (2 * a + t) := by
  have h2 : ((nI 2 * nI a) + nI 1) - nI s = nI (2 * a + t) := by
    rw [pk_mul, nI_add, pk_sub (by omega)]
    exact congrArg nI (by omega)
  exact h2
theorem gv_oth {s t : Nat} (h : s + t = 1) : (1 : Int32) - nI s = nI t := by
  have h2 : nI 1 - nI s = nI t := by
    rw [pk_sub (by omega)]
    exact congrArg nI (by omega)
  exact h2
theorem gv_ycell {post : Int32 → Prop} {z : Int32} {g w d : Nat → Int32} {a b c s : Nat} (h : post (nI (2 * (100 * a + 10 * b + c) + s))) : wpY_cell post (z, g, w, d) (nI a) (nI b) (nI c) (nI s) := by
  unfold wpY_cell
  dsimp only
  rw [gv_cellE]
  exact h
/-- what canWin asks of the option x -/
def gv_C (w : Nat → Int32) (m5 m6 m7 : Int32) (a b c t x : Nat) : Prop :=
  (bt m5 x = true ∧ w (2 * (100 * x + 10 * b + c) + t) = 0) ∨ (bt m6 x = true ∧ w (2 * (100 * a + 10 * x + c) + t) = 0) ∨ (bt m7 x = true ∧ w (2 * (100 * a + 10 * b + x) + t) = 0)
section
variable {post : Int32 → Prop} {n a b c s t i : Nat} {m5 m6 m7 : Int32} {G w dd : Nat → Int32}
theorem gv_y121 {J : Int32 → Int32 → Prop} (ha : a < 10) (hb : b < 10) (hi : i < 10) (hs : s + t = 1)
    (h5 : ¬ (bt m5 i = true ∧ w (2 * (100 * i + 10 * b + c) + t) = 0)) (h6 : ¬ (bt m6 i = true ∧ w (2 * (100 * a + 10 * i + c) + t) = 0))
    (h1 : gv_C w m5 m6 m7 a b c t i → J 1 (nI (i + 1))) (h0 : ¬ gv_C w m5 m6 m7 a b c t i → J 0 (nI (i + 1))) :
    wY_canWin_121 post J (nI a) (nI b) (nI c) (nI s) m5 m6 m7 (nI i) (nI n) G w dd := by
  have e1 := gv_oth hs
  have ei := nI_1 i
  have ek : (nI (2 * (100 * a + 10 * b + i) + t)).toNatClampNeg = 2 * (100 * a + 10 * b + i) + t := nI_clamp (by omega)
  unfold wY_canWin_121
  rw [e1]
  refine ek_if (gv_bit1 m7 (by omega)) (fun hb7 => gv_ycell ⟨vp_in_nI (by omega) (by omega), ?_⟩) (fun nb7 => nm_r ei (h0 ?_))
  · rw [ek]
    refine br_c (fun z => nm_r ei (h1 (Or.inr (Or.inr ⟨hb7, z⟩)))) (fun z => nm_r ei (h0 ?_))
    rintro (q | q | q)
    · exact h5 q
    · exact h6 q
    · exact z q.2
  · rintro (q | q | q)
    · exact h5 q
    · exact h6 q
    · exact nb7 q.1
theorem gv_y90 {J : Int32 → Int32 → Prop} (ha : a < 10) (hb : b < 10) (hc : c < 10) (hi : i < 10) (hs : s + t = 1)
    (h5 : ¬ (bt m5 i = true ∧ w (2 * (100 * i + 10 * b + c) + t) = 0))
    (h1 : gv_C w m5 m6 m7 a b c t i → J 1 (nI (i + 1))) (h0 : ¬ gv_C w m5 m6 m7 a b c t i → J 0 (nI (i + 1))) :
    wY_canWin_90 post J (nI a) (nI b) (nI c) (nI s) m5 m6 m7 (nI i) (nI n) G w dd := by
  have e1 := gv_oth hs
  have ei := nI_1 i
  have ek : (nI (2 * (100 * a + 10 * i + c) + t)).toNatClampNeg = 2 * (100 * a + 10 * i + c) + t := nI_clamp (by omega)
  unfold wY_canWin_90
  rw [e1]
  refine ek_if (gv_bit1 m6 (by omega)) (fun hb6 => gv_ycell ⟨vp_in_nI (by omega) (by omega), ?_⟩) (fun nb6 => gv_y121 ha hb hi hs h5 (fun q => nb6 q.1) h1 h0)
  rw [ek]
  exact br_c (fun z => nm_r ei (h1 (Or.inr (Or.inl ⟨hb6, z⟩)))) (fun z => gv_y121 ha hb hi hs h5 (fun q => z q.2) h1 h0)
theorem gv_y47 (ha : a < 10) (hb : b < 10) (hc : c < 10) (hs : s + t = 1)
    (hp : ∀ y : Int32, (y = 0 ∨ y = 1) → (¬ y = 0 ↔ ∃ x, x < 10 ∧ gv_C w m5 m6 m7 a b c t x) → post y) :
    ∀ d i y, i + d = 10 → (y = 0 ∨ y = 1) → (¬ y = 0 ↔ ∃ x, x < i ∧ gv_C w m5 m6 m7 a b c t x) → wY_canWin_47 post (nI a) (nI b) (nI c) (nI s) m5 m6 m7 (nI n) G w dd (d + 1) y (nI i) := by
  intro d
  induction d with
  | zero =>
    intro i y hi hy hv
    obtain rfl : i = 10 := by omega
    exact br_t (nI_le (a := 10) (b := 10) (by omega) (by omega)) ⟨gv_nb hy, hp y hy hv⟩
  | succ d ih =>
    intro i y hi hy hv
    have e1 := gv_oth hs
    have ei := nI_1 i
    have ek : (nI (2 * (100 * i + 10 * b + c) + t)).toNatClampNeg = 2 * (100 * i + 10 * b + c) + t := nI_clamp (by omega)
    refine br_f (nI_ge (b := 10) (by omega) (by omega)) (br_c (fun z => ?_) (fun z => nm_r ei ?_))
    · have h1 : gv_C w m5 m6 m7 a b c t i → wY_canWin_47 post (nI a) (nI b) (nI c) (nI s) m5 m6 m7 (nI n) G w dd (d + 1) 1 (nI (i + 1)) :=
        fun q => ih (i + 1) 1 (by omega) (Or.inr rfl) ⟨fun _ => ⟨i, by omega, q⟩, fun _ => by decide⟩
      have h0 : ¬ gv_C w m5 m6 m7 a b c t i → wY_canWin_47 post (nI a) (nI b) (nI c) (nI s) m5 m6 m7 (nI n) G w dd (d + 1) 0 (nI (i + 1)) := by
        intro q
        refine ih (i + 1) 0 (by omega) (Or.inl rfl) ⟨fun w => absurd rfl w, fun ⟨x, hx, hq⟩ => ?_⟩
        rcases Nat.lt_or_ge x i with h | h
        · exact absurd z (hv.mpr ⟨x, h, hq⟩)
        · obtain rfl : x = i := by omega
          exact absurd hq q
      rw [e1]
      refine ek_if (gv_bit1 m5 (by omega)) (fun hb5 => gv_ycell ⟨vp_in_nI (by omega) (by omega), ?_⟩) (fun nb5 => gv_y90 ha hb hc (by omega) hs (fun q => nb5 q.1) h1 h0)
      rw [ek]
      exact br_c (fun z => nm_r ei (h1 (Or.inl ⟨hb5, z⟩))) (fun z => gv_y90 ha hb hc (by omega) hs (fun q => z q.2) h1 h0)
    · refine ih (i + 1) 1 (by omega) (Or.inr rfl) ⟨fun _ => ?_, fun _ => by decide⟩
      obtain ⟨x, hx, hq⟩ := hv.mp z
      exact ⟨x, by omega, hq⟩
theorem gv_ycw (hn : n ≤ 10) (hg : gv_Good G n) (ha : a < n) (hb : b < n) (hc : c < n) (hs : s + t = 1)
    (hp : ∀ y : Int32, (y = 0 ∨ y = 1) → (¬ y = 0 ↔ gv_St G (gv_TY w) a b c s t) → post y) : wpY_canWin post (nI n, G, w, dd) (nI a) (nI b) (nI c) (nI s) := by
  unfold wpY_canWin
  dsimp only
  rw [gv_dbl, gv_dbl, gv_dblt c hs, nI_clamp (n := 2 * a + s) (by omega), nI_clamp (n := 2 * b + s) (by omega), nI_clamp (n := 2 * c + t) (by omega)]
  refine ⟨vp_in_nI (by omega) (by omega), nm_e ⟨vp_in_nI (by omega) (by omega), nm_e ⟨vp_in_nI (by omega) (by omega), nm_e ⟨11, ?_⟩⟩⟩⟩
  refine gv_y47 (by omega) (by omega) (by omega) hs (fun y hy hv => hp y hy (hv.trans ?_)) 10 0 0 rfl (Or.inl rfl) ⟨fun z => absurd rfl z, fun ⟨x, hx, _⟩ => absurd hx (Nat.not_lt_zero x)⟩
  constructor
  · rintro ⟨x, hx, q | q | q⟩
    · exact Or.inl ⟨x, q.1, fun z => z q.2⟩
    · exact Or.inr (Or.inl ⟨x, q.1, fun z => z q.2⟩)
    · exact Or.inr (Or.inr ⟨x, q.1, fun z => z q.2⟩)
  · rintro (⟨x, hx, q⟩ | ⟨x, hx, q⟩ | ⟨x, hx, q⟩)
    · have := hg a s x ha (by omega) hx
      exact ⟨x, by omega, Or.inl ⟨hx, Classical.not_not.mp q⟩⟩
    · have := hg b s x hb (by omega) hx
      exact ⟨x, by omega, Or.inr (Or.inl ⟨hx, Classical.not_not.mp q⟩)⟩
    · have := hg c t x hc (by omega) hx
      exact ⟨x, by omega, Or.inr (Or.inr ⟨hx, Classical.not_not.mp q⟩)⟩
end
theorem gv_code {a b c x y z k : Nat} (hk : k = 100 * a + 10 * b + c) (hb : b < 10) (hc : c < 10) (hy : y < 10) (hz : z < 10) (h : k ≤ 100 * x + 10 * y + z) (hne : x = a → y = b → z = c → False) : k + 1 ≤ 100 * x + 10 * y + z := by
  rcases Nat.lt_or_ge k (100 * x + 10 * y + z) with q | q
  · exact q
  · exfalso
    have e : 100 * x + 10 * y + z = 100 * a + 10 * b + c := by omega
    have h1 : x = a := by omega
    have h2 : y = b := by omega
    exact hne h1 h2 (by omega)
section
variable {post : SY → Prop} {n : Nat} {G dd : Nat → Int32}
theorem gv_yw2 (hn : n ≤ 10) (hg : gv_Good G n) (hp : ∀ w', gv_01 w' → gv_Inv G n (gv_TY w') 1000 → post (nI n, G, w', dd)) :
    ∀ d k w, k + d = 1000 → gv_01 w → gv_Inv G n (gv_TY w) k → wY_work_2 post (nI n) (d + 1) (nI k) G w dd := by
  intro d
  induction d with
  | zero =>
    intro k w hk hw hI
    obtain rfl : k = 1000 := by omega
    exact br_t (nI_le (a := 1000) (b := 1000) (by omega) (by omega)) (hp w hw hI)
  | succ d ih =>
    intro k w hk hw hI
    obtain ⟨a, b, c, ek, hb9, hc9, ea, eb, ec⟩ : ∃ a b c, k = 100 * a + 10 * b + c ∧ b < 10 ∧ c < 10 ∧ k / 100 = a ∧ k / 10 % 10 = b ∧ k % 10 = c := ⟨k / 100, k / 10 % 10, k % 10, by omega, by omega, by omega, rfl, rfl, rfl⟩
    have e2 : nI k / 100 = nI a := by
      rw [← ea]
      exact pk_div (d := 100) (by omega) (by omega) (by omega)
    have e3 : nI k / 10 - nI k / 10 / 10 * 10 = nI b := by
      have h : nI k / 10 = nI (k / 10) := pk_div (d := 10) (by omega) (by omega) (by omega)
      rw [h, ← eb]
      exact pk_rem (d := 10) (by omega) (by omega) (by omega)
    have e4 : nI k - nI k / 10 * 10 = nI c := by
      rw [← ec]
      exact pk_rem (d := 10) (by omega) (by omega) (by omega)
    clear ea eb ec
    have ei := nI_1 k
    refine br_f (nI_ge (b := 1000) (by omega) (by omega)) ⟨by decide, nm_r e2 ⟨by decide, by decide, nm_r e3 ⟨by decide, nm_r e4 ?_⟩⟩⟩
    refine pk_le n a (fun h => nm_r ei (ih (k + 1) w (by omega) hw (gv_Inv_skip (fun x y z hx hy hz h' => gv_code ek hb9 hc9 (by omega) (by omega) h' (by omega)) hI))) (fun ha => ?_)
    refine pk_le n b (fun h => nm_r ei (ih (k + 1) w (by omega) hw (gv_Inv_skip (fun x y z hx hy hz h' => gv_code ek hb9 hc9 (by omega) (by omega) h' (by omega)) hI))) (fun hb => ?_)
    refine pk_le n c (fun h => nm_r ei (ih (k + 1) w (by omega) hw (gv_Inv_skip (fun x y z hx hy hz h' => gv_code ek hb9 hc9 (by omega) (by omega) h' (by omega)) hI))) (fun hc => ?_)
    have c0 : (nI (2 * (100 * a + 10 * b + c) + 0)).toNatClampNeg = 2 * k + 0 := by rw [nI_clamp (by omega), ← ek]
    have c1 : (nI (2 * (100 * a + 10 * b + c) + 1)).toNatClampNeg = 2 * k + 1 := by rw [nI_clamp (by omega), ← ek]
    refine gv_ycell (s := 0) (gv_ycw (s := 0) (t := 1) hn hg ha hb hc rfl (fun y0 hy0 hv0 => ⟨vp_in_nI (by omega) (by omega), nm_r (e' := upd w (2 * k + 0) y0) (by rw [c0, gv_vb hy0]) ?_⟩))
    refine gv_ycell (s := 1) (gv_ycw (s := 1) (t := 0) hn hg ha hb hc rfl (fun y1 hy1 hv1 => ⟨vp_in_nI (by omega) (by omega), nm_r (e' := upd (upd w (2 * k + 0) y0) (2 * k + 1) y1) (by rw [c1, gv_vb hy1]) (nm_r ei ?_)⟩))
    refine ih (k + 1) _ (by omega) (gv_01u (gv_01u hw hy0) hy1) (gv_Inv_step hn hg ha hb hc ek (fun j u hj hu => ?_) (fun s t hs => ?_) hI)
    · unfold gv_TY
      rw [pk_un (by omega), pk_un (by omega)]
    · obtain ⟨rfl, rfl⟩ | ⟨rfl, rfl⟩ : (s = 0 ∧ t = 1) ∨ (s = 1 ∧ t = 0) := by omega
      · show ¬ upd (upd w (2 * k + 0) y0) (2 * k + 1) y1 (2 * k + 0) = 0 ↔ _
        rw [pk_un (by omega), pk_us]
        exact hv0
      · show ¬ upd (upd w (2 * k + 0) y0) (2 * k + 1) y1 (2 * k + 1) = 0 ↔ _
        rw [pk_us, hv1]
        refine gv_St_iff hg ha hb hc rfl (fun x y z _ _ _ hj => ?_)
        unfold gv_TY
        rw [pk_un (by omega)]
theorem gv_ywork_0 {w : Nat → Int32} (hn : n ≤ 10) (hg : gv_Good G n) (hw : gv_01 w) (hp : ∀ w', gv_01 w' → gv_Inv G n (gv_TY w') 1000 → post (nI n, G, w', dd)) : wpY_work post (nI n, G, w, dd) :=
  ⟨1001, gv_yw2 hn hg hp 1000 0 w rfl hw gv_Inv_0⟩
end
/-! depth -/
theorem gv_uu {f : Nat → Int32} {k : Nat} {x y : Int32} : upd (upd f k x) k y = upd f k y := by
  funext j
  by_cases e : j = k
  · subst e
    rw [pk_us, pk_us]
  · rw [pk_un e, pk_un e, pk_un e]
section
variable {post : Int32 → SY → Prop} {x1 : Int32} {n : Nat} {G w : Nat → Int32}
theorem gv_y19 {J2 : Int32 → (Nat → Int32) → (Nat → Int32) → (Nat → Int32) → Prop} {fs : Int32} {dd : Nat → Int32} {q : Nat} (hq : q < 10) (hJ : J2 (nI (q + 1)) G w (upd dd q (gv_dm dd (G (2 * q) ||| G (2 * q + 1)) q))) :
    ∀ d i, i + d = q → wY_depth_19 post J2 x1 (nI q) fs (d + 1) (nI i) G w (upd dd q (gv_dm dd (G (2 * q) ||| G (2 * q + 1)) i)) := by
  intro d
  induction d with
  | zero =>
    intro i hi
    obtain rfl : i = q := by omega
    exact br_t (nI_le (by omega) (by omega)) (nm_r (nI_1 i) hJ)
  | succ d ih =>
    intro i hi
    have h := ih (i + 1) (by omega)
    have ei := nI_1 i
    have eq : (nI q).toNatClampNeg = q := nI_clamp (by omega)
    have ej : (nI i).toNatClampNeg = i := nI_clamp (by omega)
    have vq : vp_in (nI q) 10 := vp_in_nI (by omega) (by omega)
    have vi : vp_in (nI i) 10 := vp_in_nI (by omega) (by omega)
    have ne : i ≠ q := by omega
    refine br_f (nI_ge (by omega) (by omega)) ?_
    rw [gv_dbl0, nI_1 (2 * q), nI_clamp (n := 2 * q) (by omega), nI_clamp (n := 2 * q + 1) (by omega)]
    refine ⟨vp_in_nI (by omega) (by omega), vp_in_nI (by omega) (by omega), ek_if (gv_bit1 _ (by omega)) (fun hb => ?_) (fun nb => ?_)⟩
    · unfold wY_depth_56
      rw [eq, ej, pk_us, pk_un ne]
      refine br_f (by decide) ⟨vi, vq, ?_⟩
      by_cases z : dd i + 1 ≤ gv_dm dd (G (2 * q) ||| G (2 * q + 1)) i
      · have e : gv_dm dd (G (2 * q) ||| G (2 * q + 1)) (i + 1) = gv_dm dd (G (2 * q) ||| G (2 * q + 1)) i := if_neg (fun w => absurd z (Int32.not_le.mpr w.2))
        rw [e] at h
        exact br_t z ⟨vq, vq, nm_r gv_uu (nm_r ei h)⟩
      · have e : gv_dm dd (G (2 * q) ||| G (2 * q + 1)) (i + 1) = dd i + 1 := if_pos ⟨hb, Int32.not_le.mp z⟩
        rw [e] at h
        exact br_f z ⟨vi, vq, nm_r gv_uu (nm_r ei h)⟩
    · have e : gv_dm dd (G (2 * q) ||| G (2 * q + 1)) (i + 1) = gv_dm dd (G (2 * q) ||| G (2 * q + 1)) i := if_neg (fun w => nb w.1)
      rw [e] at h
      unfold wY_depth_56
      rw [eq, ej, pk_us, pk_un ne]
      exact br_t rfl ⟨vq, vq, nm_r gv_uu (nm_r ei h)⟩
theorem gv_y2 (hn : n ≤ 10) (hp : ∀ dd', gv_Dp G dd' n → wpY_is (fun r_2 => ((r_2 = 0 → post (-1) (nI n, G, w, dd')) ∧ (¬ r_2 = 0 → (vp_in x1 10 ∧ post (dd' x1.toNatClampNeg) (nI n, G, w, dd'))))) (nI n, G, w, dd') x1) :
    ∀ d q dd, q + d = n → gv_Dp G dd q → wY_depth_2 post x1 (nI n) (d + 1) (nI q) G w dd := by
  intro d
  induction d with
  | zero =>
    intro q dd hq hD
    obtain rfl : q = n := by omega
    exact br_t (nI_le (by omega) (by omega)) (hp dd hD)
  | succ d ih =>
    intro q dd hq hD
    have eq : (nI q).toNatClampNeg = q := nI_clamp (by omega)
    refine br_f (nI_ge (by omega) (by omega)) ⟨vp_in_nI (by omega) (by omega), nm_r (e' := upd dd q (gv_dm dd (G (2 * q) ||| G (2 * q + 1)) 0)) (by rw [eq]; rfl) ⟨q + 1, gv_y19 (by omega) (ih (q + 1) _ (by omega) ?_) q 0 (by omega)⟩⟩
    intro p hp'
    rcases Nat.lt_or_ge p q with h | h
    · rw [pk_un (by omega), hD p h]
      exact gv_dm_c p (fun x hx => (pk_un (by omega)).symm)
    · obtain rfl : p = q := by omega
      rw [pk_us]
      exact gv_dm_c p (fun x hx => (pk_un (by omega)).symm)
theorem gv_ydep {dd : Nat → Int32} (hn : n ≤ 10) (hp : ∀ dd', gv_Dp G dd' n → wpY_is (fun r_2 => ((r_2 = 0 → post (-1) (nI n, G, w, dd')) ∧ (¬ r_2 = 0 → (vp_in x1 10 ∧ post (dd' x1.toNatClampNeg) (nI n, G, w, dd'))))) (nI n, G, w, dd') x1) : wpY_depth post (nI n, G, w, dd) x1 :=
  ⟨n + 1, gv_y2 hn hp n 0 dd (by omega) (fun p h => absurd h (Nat.not_lt_zero p))⟩
end
