/-! dominated: a move to x is no better for the side s than one to y -/
def gv_NB (l r : Nat → Int32) (x y : Nat) (s : Int32) : Prop :=
  (s = 0 → l (100 * x + 10 * 0 + y) = 0 ∧ (r (100 * x + 10 * 0 + y) = 0 → y < x)) ∧ (¬ s = 0 → r (100 * x + 10 * 0 + y) = 0 ∧ (l (100 * x + 10 * 0 + y) = 0 → y < x))
section
variable {n : Nat} {L R D l r G w dd : Nat → Int32} {m s : Int32}
theorem gv_NBe {x y : Nat} (hl : l (100 * x + 10 * 0 + y) = 0) (hr : r (100 * x + 10 * 0 + y) = 0) : gv_NB l r x y s ↔ y < x := by
  constructor
  · intro q
    by_cases e : s = 0
    · exact (q.1 e).2 hr
    · exact (q.2 e).2 hl
  · intro h
    exact ⟨fun _ => ⟨hl, fun _ => h⟩, fun _ => ⟨hr, fun _ => h⟩⟩
theorem gv_xnb {post : Int32 → Prop} {x y : Nat} (hx : x < 10) (hy : y < 10) (h1 : gv_NB l r x y s → post 1) (h0 : ¬ gv_NB l r x y s → post 0) : wpX_isNoBetter post (nI n, L, R, D, l, r) (nI x) (nI y) s := by
  unfold wpX_isNoBetter
  dsimp only
  refine gv_xst (b := 0) (by omega) ?_
  by_cases zr : r (100 * x + 10 * 0 + y) = 0
  · by_cases zl : l (100 * x + 10 * 0 + y) = 0
    · rw [gv_sd0 zr zl]
      exact br_t rfl (pk_le x y (fun h => h0 (fun q => by have := (gv_NBe zl zr).mp q; omega)) (fun h => h1 ((gv_NBe zl zr).mpr h)))
    · rw [gv_sd1 zr zl]
      exact br_f (by decide) (br_c (fun e => br_f (by decide) (h0 (fun q => zl (q.1 e).1))) (fun e => br_t rfl (h1 ⟨fun e' => absurd e' e, fun _ => ⟨zr, fun z => absurd z zl⟩⟩)))
  · by_cases zl : l (100 * x + 10 * 0 + y) = 0
    · rw [gv_sd2 zr zl]
      exact br_f (by decide) (br_c (fun e => br_t rfl (h1 ⟨fun _ => ⟨zl, fun z => absurd z zr⟩, fun e' => absurd e e'⟩)) (fun e => br_f (by decide) (h0 (fun q => zr (q.2 e).1))))
    · rw [gv_sd3 zr zl]
      exact br_f (by decide) (br_c (fun e => br_f (by decide) (h0 (fun q => zl (q.1 e).1))) (fun e => br_f (by decide) (h0 (fun q => zr (q.2 e).1))))
theorem gv_ynb {post : Int32 → Prop} {x y : Nat} (hn : n ≤ 10) (hx : x < n) (hy : y < n) (hA : gv_Agr n l r w) (ht : l (100 * x + 10 * 0 + y) = r (100 * y + 10 * 0 + x)) (h1 : gv_NB l r x y s → post 1) (h0 : ¬ gv_NB l r x y s → post 0) : wpY_noBetter post (nI n, G, w, dd) (nI x) (nI y) s := by
  unfold wpY_noBetter
  dsimp only
  refine br_c (fun e => ?_) (fun e => ?_)
  · refine gv_yle hn hy hx hA (fun z1 => br_t e ?_) (fun z1 => br_t e ?_)
    · have zl := ht.trans z1
      refine gv_yle hn hx hy hA (fun zr => br_f (by decide) (br_f (by decide) ?_)) (fun zr => br_f (by decide) (br_t rfl (h1 ⟨fun _ => ⟨zl, fun z => absurd z zr⟩, fun e' => absurd e e'⟩)))
      exact pk_le x y (fun h => h0 (fun q => by have := (gv_NBe zl zr).mp q; omega)) (fun h => h1 ((gv_NBe zl zr).mpr h))
    · have q0 : ¬ gv_NB l r x y s := fun q => z1 (ht.symm.trans (q.1 e).1)
      exact gv_yle hn hx hy hA (fun _ => br_t rfl (h0 q0)) (fun _ => br_t rfl (h0 q0))
  · refine gv_yle hn hx hy hA (fun zr => br_f e ?_) (fun zr => br_f e ?_)
    · refine gv_yle hn hy hx hA (fun z2 => br_f (by decide) (br_f (by decide) ?_)) (fun z2 => br_f (by decide) (br_t rfl (h1 ⟨fun e' => absurd e' e, fun _ => ⟨zr, fun z => absurd (ht.symm.trans z) z2⟩⟩)))
      have zl := ht.trans z2
      exact pk_le x y (fun h => h0 (fun q => by have := (gv_NBe zl zr).mp q; omega)) (fun h => h1 ((gv_NBe zl zr).mpr h))
    · have q0 : ¬ gv_NB l r x y s := fun q => zr (q.2 e).1
      exact gv_yle hn hy hx hA (fun _ => br_t rfl (h0 q0)) (fun _ => br_t rfl (h0 q0))
/-- y does away with x -/
def gv_P (l r : Nat → Int32) (m s : Int32) (x y : Nat) : Prop := x ≠ y ∧ bt m x = true ∧ bt m y = true ∧ gv_NB l r x y s
theorem gv_xdm_l {post : Int32 → Prop} {x : Nat} (hn : n ≤ 10) (hx : x < n) (hbx : bt m x = true) (h1 : (∃ y, y < n ∧ gv_P l r m s x y) → post 1) (h0 : (¬ ∃ y, y < n ∧ gv_P l r m s x y) → post 0) :
    ∀ d i, i + d = n → (∀ y, y < i → ¬ gv_P l r m s x y) → wX_isDominated_3 post (nI x) m s (nI n) L R D l r (d + 1) (nI i) := by
  intro d
  induction d with
  | zero =>
    intro i hi hq
    exact br_t (nI_le (by omega) (by omega)) (h0 (fun ⟨y, hy, q⟩ => hq y (by omega) q))
  | succ d ih =>
    intro i hi hq
    have go : ¬ gv_P l r m s x i → wX_isDominated_3 post (nI x) m s (nI n) L R D l r (d + 1) (nI (i + 1)) := fun q => ih (i + 1) (by omega) (lt_s hq q)
    have ei := nI_1 i
    refine br_f (nI_ge (by omega) (by omega)) (pk_eq i x (fun e => nm_r ei (go (fun q => q.1 e.symm))) (fun ne => ?_))
    refine gv_xcont (by omega) (fun hb => br_f (by decide) ?_) (fun nb => br_t rfl (nm_r ei (go (fun q => nb q.2.2.1))))
    exact gv_xnb (by omega) (by omega) (fun q => br_f (by decide) (h1 ⟨i, by omega, fun e => ne e.symm, hbx, hb, q⟩)) (fun nq => br_t rfl (nm_r ei (go (fun q => nq q.2.2.2))))
theorem gv_xdm {post : Int32 → Prop} {x : Nat} (hn : n ≤ 10) (hx : x < n) (hbx : bt m x = true) (h1 : (∃ y, y < n ∧ gv_P l r m s x y) → post 1) (h0 : (¬ ∃ y, y < n ∧ gv_P l r m s x y) → post 0) : wpX_isDominated post (nI n, L, R, D, l, r) (nI x) m s :=
  ⟨n + 1, gv_xdm_l hn hx hbx h1 h0 n 0 (by omega) (fun y h => absurd h (Nat.not_lt_zero y))⟩
/-- the set f holds just the x below i that some y below n does away with -/
def gv_FX (l r : Nat → Int32) (m s : Int32) (n i : Nat) (f : Int32) : Prop := ∀ j, j < 32 → (bt f j = true ↔ j < i ∧ ∃ y, y < n ∧ gv_P l r m s j y)
theorem gv_FX_no {i : Nat} {f : Int32} (h : gv_FX l r m s n i f) (hq : ¬ ∃ y, y < n ∧ gv_P l r m s i y) : gv_FX l r m s n (i + 1) f := by
  intro j hj
  rw [h j hj]
  constructor
  · intro ⟨a, b⟩
    exact ⟨by omega, b⟩
  · intro ⟨a, b⟩
    rcases Nat.lt_or_ge j i with c | c
    · exact ⟨c, b⟩
    · obtain rfl : j = i := by omega
      exact absurd b hq
theorem gv_FX_put {i : Nat} {f : Int32} (hi : i < 32) (h : gv_FX l r m s n i f) (hq : ∃ y, y < n ∧ gv_P l r m s i y) : gv_FX l r m s n (i + 1) (f ||| ((1 : Int32) <<< (nI i &&& 31))) := by
  intro j hj
  rw [gv_put f hi hj, Bool.or_eq_true, decide_eq_true_eq, h j hj]
  constructor
  · intro q
    rcases q with ⟨a, b⟩ | e
    · exact ⟨by omega, b⟩
    · subst e
      exact ⟨by omega, hq⟩
  · intro ⟨a, b⟩
    rcases Nat.lt_or_ge j i with c | c
    · exact Or.inl ⟨c, b⟩
    · exact Or.inr (by omega)
theorem gv_x43 {post : Int32 → Prop} (hn : n ≤ 10) (hp : ∀ f, gv_FX l r m s n n f → post f) :
    ∀ d i f, i + d = n → gv_FX l r m s n i f → wX_dominated_43 post s m (nI n) L R D l r (d + 1) f (nI i) := by
  intro d
  induction d with
  | zero =>
    intro i f hi hf
    obtain rfl : i = n := by omega
    exact br_t (nI_le (by omega) (by omega)) (hp f hf)
  | succ d ih =>
    intro i f hi hf
    have ei := nI_1 i
    refine br_f (nI_ge (by omega) (by omega)) (gv_xcont (by omega) (fun hb => br_f (by decide) ?_) (fun nb => br_t rfl (nm_r ei (ih (i + 1) f (by omega) (gv_FX_no hf (fun ⟨y, _, q⟩ => nb q.2.1))))))
    exact gv_xdm hn (by omega) hb (fun q => br_f (by decide) (nm_e (nm_r ei (ih (i + 1) _ (by omega) (gv_FX_put (by omega) hf q))))) (fun q => br_t rfl (nm_r ei (ih (i + 1) f (by omega) (gv_FX_no hf q))))
theorem gv_FX_0 : gv_FX l r m s n 0 0 := by
  intro j hj
  rw [b_0]
  exact ⟨fun e => absurd e (by decide), fun e => absurd e.1 (Nat.not_lt_zero j)⟩
/-- the same by the reference's count k -/
def gv_FY (l r : Nat → Int32) (m s : Int32) (k : Nat) (f : Int32) : Prop := ∀ j, j < 32 → (bt f j = true ↔ ∃ y, y < 10 ∧ 10 * j + y < k ∧ gv_P l r m s j y)
theorem gv_FY_0 : gv_FY l r m s 0 0 := by
  intro j hj
  rw [b_0]
  exact ⟨fun e => absurd e (by decide), fun ⟨y, _, e, _⟩ => absurd e (Nat.not_lt_zero _)⟩
theorem gv_FY_no {k a b : Nat} {f : Int32} (hk : k = 10 * a + b) (hb : b < 10) (h : gv_FY l r m s k f) (hq : ¬ gv_P l r m s a b) : gv_FY l r m s (k + 1) f := by
  intro j hj
  rw [h j hj]
  constructor
  · intro ⟨y, e1, e2, e3⟩
    exact ⟨y, e1, by omega, e3⟩
  · intro ⟨y, e1, e2, e3⟩
    rcases Nat.lt_or_ge (10 * j + y) k with c | c
    · exact ⟨y, e1, c, e3⟩
    · obtain rfl : j = a := by omega
      obtain rfl : y = b := by omega
      exact absurd e3 hq
theorem gv_FY_put {k a b : Nat} {f : Int32} (hk : k = 10 * a + b) (ha : a < 32) (hb : b < 10) (h : gv_FY l r m s k f) (hq : gv_P l r m s a b) : gv_FY l r m s (k + 1) (f ||| ((1 : Int32) <<< (nI a &&& 31))) := by
  intro j hj
  rw [gv_put f ha hj, Bool.or_eq_true, decide_eq_true_eq, h j hj]
  constructor
  · intro q
    rcases q with ⟨y, e1, e2, e3⟩ | e
    · exact ⟨y, e1, by omega, e3⟩
    · subst e
      exact ⟨b, hb, by omega, hq⟩
  · intro ⟨y, e1, e2, e3⟩
    rcases Nat.lt_or_ge (10 * j + y) k with c | c
    · exact Or.inl ⟨y, e1, c, e3⟩
    · exact Or.inr (by omega)
theorem gv_y40 {post : Int32 → SY → Prop} (hn : n ≤ 10) (hm : ∀ x, bt m x = true → x < n) (hA : gv_Agr n l r w) (ht : ∀ x y, x < n → y < n → l (100 * x + 10 * 0 + y) = r (100 * y + 10 * 0 + x)) (hp : ∀ f, gv_FY l r m s 100 f → post f (nI n, G, w, dd)) :
    ∀ d k f, k + d = 100 → gv_FY l r m s k f → wY_dominated_40 post s m (nI n) G w dd (d + 1) f (nI k) := by
  intro d
  induction d with
  | zero =>
    intro k f hk hf
    obtain rfl : k = 100 := by omega
    exact br_t (nI_le (a := 100) (b := 100) (by omega) (by omega)) (hp f hf)
  | succ d ih =>
    intro k f hk hf
    obtain ⟨a, b, ek, ha, hb, ea, eb⟩ : ∃ a b, k = 10 * a + b ∧ a < 10 ∧ b < 10 ∧ k / 10 = a ∧ k % 10 = b := ⟨k / 10, k % 10, by omega, by omega, by omega, rfl, rfl⟩
    have e2 : nI k / 10 = nI a := by
      rw [← ea]
      exact pk_div (d := 10) (by omega) (by omega) (by omega)
    have e3 : nI k - nI k / 10 * 10 = nI b := by
      rw [← eb]
      exact pk_rem (d := 10) (by omega) (by omega) (by omega)
    have ei := nI_1 k
    have go : ¬ gv_P l r m s a b → wY_dominated_40 post s m (nI n) G w dd (d + 1) f (nI (k + 1)) := fun q => ih (k + 1) f (by omega) (gv_FY_no ek hb hf q)
    refine br_f (nI_ge (b := 100) (by omega) (by omega)) ⟨by decide, nm_r e2 ⟨by decide, nm_r e3 (pk_eq a b (fun e => ?_) (fun ne => ?_))⟩⟩
    · exact br_t rfl (nm_r ei (go (fun q => q.1 e)))
    · refine ek_if (gv_bit1 m (by omega)) (fun ba => ek_if (gv_bit1 m (by omega)) (fun bb => br_f (by decide) ?_) (fun nb => br_t rfl (nm_r ei (go (fun q => nb q.2.2.1))))) (fun na => br_t rfl (nm_r ei (go (fun q => na q.2.1))))
      exact gv_ynb hn (hm a ba) (hm b bb) hA (ht a b (hm a ba) (hm b bb)) (fun q => br_f (by decide) (nm_e (nm_r ei (ih (k + 1) _ (by omega) (gv_FY_put ek (by omega) hb hf ⟨ne, ba, bb, q⟩))))) (fun q => br_t rfl (nm_r ei (go (fun z => q z.2.2.2))))
theorem gv_FXY {f g : Int32} (hn : n ≤ 10) (hm : ∀ x, bt m x = true → x < n) (hf : gv_FX l r m s n n f) (hg : gv_FY l r m s 100 g) : g = f := by
  apply b_ext
  intro j hj
  apply Bool.eq_iff_iff.mpr
  rw [hf j hj, hg j hj]
  constructor
  · intro ⟨y, e1, e2, e3⟩
    exact ⟨hm j e3.2.1, y, hm y e3.2.2.1, e3⟩
  · intro ⟨e1, y, e2, e3⟩
    exact ⟨y, by omega, by omega, e3⟩
end
