/-! the class: sums' indexes, contains, canLeaveLost (a print for each table) -/
theorem gv_sum (a b c : Nat) : ((nI a * 100) + (nI b * 10)) + (nI c * 1) = nI (100 * a + 10 * b + c) := by
  have h : ((nI a * nI 100) + (nI b * nI 10)) + (nI c * nI 1) = nI (100 * a + 10 * b + c) := by
    rw [pk_mul, pk_mul, pk_mul, nI_add, nI_add]
    exact congrArg nI (by omega)
  exact h
theorem gv_ix (rest x st : Nat) : nI rest + nI x * nI st = nI (rest + x * st) := by rw [pk_mul, nI_add]
theorem gv_vb0 : vp_nar .boolean 0 = 0 := by decide
theorem gv_vb1 : vp_nar .boolean 1 = 1 := by decide
theorem gv_vb {z : Int32} (h : z = 0 ∨ z = 1) : vp_nar .boolean z = z := by
  rcases h with rfl | rfl
  · exact gv_vb0
  · exact gv_vb1
theorem gv_nb {z : Int32} (h : z = 0 ∨ z = 1) : narrow .boolean (.int z) = .int z := by
  rcases h with rfl | rfl
  · rfl
  · rfl
theorem gv_xcont {post : Int32 → Prop} {m : Int32} {x : Nat} (hx : x < 32) (h1 : bt m x = true → post 1) (h0 : ¬ bt m x = true → post 0) : wpX_contains post m (nI x) :=
  ek_if (gv_bit0 m hx) h0 (fun z => h1 (Classical.not_not.mp z))
theorem gv_xcr_l {post : Int32 → Prop} {n rest st : Nat} {m : Int32} {L R D l r : Nat → Int32} (hn : n ≤ 10) (hb : ∀ x, bt m x = true → rest + x * st < 1000)
    (hp : ∀ y : Int32, (y = 0 ∨ y = 1) → (¬ y = 0 ↔ ∃ x, x < n ∧ bt m x = true ∧ r (rest + x * st) = 0) → post y) :
    ∀ d i, i + d = n → (∀ x, x < i → ¬ (bt m x = true ∧ r (rest + x * st) = 0)) → wX_canLeaveLost__rightWins_3 post m (nI rest) (nI st) (nI n) L R D l r (d + 1) (nI i) := by
  intro d
  induction d with
  | zero =>
    intro i hi hx
    exact br_t (nI_le (by omega) (by omega)) (hp 0 (Or.inl rfl) ⟨fun w => absurd rfl w, fun ⟨x, hx1, hx2⟩ => absurd hx2 (hx x (by omega))⟩)
  | succ d ih =>
    intro i hi hx
    have e := gv_ix rest i st
    refine br_f (nI_ge (by omega) (by omega)) (gv_xcont (by omega) (fun hb1 => br_f (by decide) ?_) (fun hb0 => br_t rfl (nm_r (nI_1 i) (ih (i + 1) (by omega) (lt_s hx (fun w => hb0 w.1))))))
    have hlt := hb i hb1
    rw [e, nI_clamp (by omega)]
    refine ⟨vp_in_nI hlt (by omega), ?_⟩
    by_cases z : r (rest + i * st) = 0
    · exact br_t z (hp 1 (Or.inr rfl) ⟨fun _ => ⟨i, by omega, hb1, z⟩, fun _ => by decide⟩)
    · exact br_f z (nm_r (nI_1 i) (ih (i + 1) (by omega) (lt_s hx (fun w => z w.2))))
theorem gv_xcr {post : Int32 → Prop} {n rest st : Nat} {m : Int32} {L R D l r : Nat → Int32} (hn : n ≤ 10) (hb : ∀ x, bt m x = true → rest + x * st < 1000)
    (hp : ∀ y : Int32, (y = 0 ∨ y = 1) → (¬ y = 0 ↔ ∃ x, x < n ∧ bt m x = true ∧ r (rest + x * st) = 0) → post y) :
    wpX_canLeaveLost__rightWins post (nI n, L, R, D, l, r) m (nI rest) (nI st) :=
  ⟨n + 1, gv_xcr_l hn hb hp n 0 (by omega) (fun x h => absurd h (Nat.not_lt_zero x))⟩
theorem gv_xcl_l {post : Int32 → Prop} {n rest st : Nat} {m : Int32} {L R D l r : Nat → Int32} (hn : n ≤ 10) (hb : ∀ x, bt m x = true → rest + x * st < 1000)
    (hp : ∀ y : Int32, (y = 0 ∨ y = 1) → (¬ y = 0 ↔ ∃ x, x < n ∧ bt m x = true ∧ l (rest + x * st) = 0) → post y) :
    ∀ d i, i + d = n → (∀ x, x < i → ¬ (bt m x = true ∧ l (rest + x * st) = 0)) → wX_canLeaveLost__leftWins_3 post m (nI rest) (nI st) (nI n) L R D l r (d + 1) (nI i) := by
  intro d
  induction d with
  | zero =>
    intro i hi hx
    exact br_t (nI_le (by omega) (by omega)) (hp 0 (Or.inl rfl) ⟨fun w => absurd rfl w, fun ⟨x, hx1, hx2⟩ => absurd hx2 (hx x (by omega))⟩)
  | succ d ih =>
    intro i hi hx
    have e := gv_ix rest i st
    refine br_f (nI_ge (by omega) (by omega)) (gv_xcont (by omega) (fun hb1 => br_f (by decide) ?_) (fun hb0 => br_t rfl (nm_r (nI_1 i) (ih (i + 1) (by omega) (lt_s hx (fun w => hb0 w.1))))))
    have hlt := hb i hb1
    rw [e, nI_clamp (by omega)]
    refine ⟨vp_in_nI hlt (by omega), ?_⟩
    by_cases z : l (rest + i * st) = 0
    · exact br_t z (hp 1 (Or.inr rfl) ⟨fun _ => ⟨i, by omega, hb1, z⟩, fun _ => by decide⟩)
    · exact br_f z (nm_r (nI_1 i) (ih (i + 1) (by omega) (lt_s hx (fun w => z w.2))))
theorem gv_xcl {post : Int32 → Prop} {n rest st : Nat} {m : Int32} {L R D l r : Nat → Int32} (hn : n ≤ 10) (hb : ∀ x, bt m x = true → rest + x * st < 1000)
    (hp : ∀ y : Int32, (y = 0 ∨ y = 1) → (¬ y = 0 ↔ ∃ x, x < n ∧ bt m x = true ∧ l (rest + x * st) = 0) → post y) :
    wpX_canLeaveLost__leftWins post (nI n, L, R, D, l, r) m (nI rest) (nI st) :=
  ⟨n + 1, gv_xcl_l hn hb hp n 0 (by omega) (fun x h => absurd h (Nat.not_lt_zero x))⟩
theorem gv_ex {m m' : Int32} {f : Nat → Int32} {n p st rest : Nat} {T : Nat → Prop} (hm : m = m') (hx : ∀ x, bt m' x = true → x < p) (hp : p ≤ n) (hT : ∀ x, x < p → (T x ↔ ¬ f (rest + x * st) = 0)) :
    (∃ x, x < n ∧ bt m x = true ∧ f (rest + x * st) = 0) ↔ (∃ x, bt m' x = true ∧ ¬ T x) := by
  subst hm
  constructor
  · intro ⟨x, _, h2, h3⟩
    exact ⟨x, h2, fun w => (hT x (hx x h2)).mp w h3⟩
  · intro ⟨x, h2, h3⟩
    have h4 := hx x h2
    exact ⟨x, by omega, h2, Classical.not_not.mp (fun w => h3 ((hT x h4).mpr w))⟩
/-- one of three found -/
theorem gv_or3a {y : Int32} {P A B C : Prop} (hv : ¬ y = 0 ↔ P) (e : P ↔ A) (hy : ¬ y = 0) : ¬ (1 : Int32) = 0 ↔ A ∨ B ∨ C := ⟨fun _ => Or.inl (e.mp (hv.mp hy)), fun _ => by decide⟩
theorem gv_or3b {y : Int32} {P A B C : Prop} (hv : ¬ y = 0 ↔ P) (e : P ↔ B) (hy : ¬ y = 0) : ¬ (1 : Int32) = 0 ↔ A ∨ B ∨ C := ⟨fun _ => Or.inr (Or.inl (e.mp (hv.mp hy))), fun _ => by decide⟩
theorem gv_or3c {y : Int32} {P A B C : Prop} (hv : ¬ y = 0 ↔ P) (e : P ↔ C) (hy : ¬ y = 0) : ¬ (1 : Int32) = 0 ↔ A ∨ B ∨ C := ⟨fun _ => Or.inr (Or.inr (e.mp (hv.mp hy))), fun _ => by decide⟩
theorem gv_or3n {x y z : Int32} {P Q R A B C : Prop} (h1 : ¬ x = 0 ↔ P) (e1 : P ↔ A) (h2 : ¬ y = 0 ↔ Q) (e2 : Q ↔ B) (h3 : ¬ z = 0 ↔ R) (e3 : R ↔ C) (hx : x = 0) (hy : y = 0) (hz : z = 0) : ¬ (0 : Int32) = 0 ↔ A ∨ B ∨ C :=
  ⟨fun w => absurd rfl w, fun w => by
    rcases w with w | w | w
    · exact absurd hx (h1.mpr (e1.mpr w))
    · exact absurd hy (h2.mpr (e2.mpr w))
    · exact absurd hz (h3.mpr (e3.mpr w))⟩
theorem gv_TXu {l r : Nat → Int32} {k j t : Nat} {x y : Int32} (h : j < k) : gv_TX (upd l k x) (upd r k y) j t ↔ gv_TX l r j t := by
  unfold gv_TX
  rw [pk_un (by omega), pk_un (by omega)]
section
variable {post : SX → Prop} {n a b c : Nat} {G L R D l r : Nat → Int32} {z : Int32}
theorem gv_x105 (hn : n ≤ 10) (hg : gv_Good G n) (hL : ∀ p, p < n → L p = G (2 * p)) (hR : ∀ p, p < n → R p = G (2 * p + 1)) (ha : a < n) (hb : b < n) (hc : c < n) (hl : gv_01 l) (hr : gv_01 r)
    (hI : gv_Inv G n (gv_TX l r) (100 * a + 10 * b + c)) (hz : z = 0 ∨ z = 1) (hv : ¬ z = 0 ↔ gv_St G (gv_TX l r) a b c 0 1)
    (hp : ∀ l' r', gv_01 l' → gv_01 r' → gv_Inv G n (gv_TX l' r') (100 * a + 10 * b + c + 1) → post (nI n, L, R, D, l', r')) :
    wX_decideSum_105 post (nI a) (nI b) (nI c) (nI (100 * a + 10 * b + c)) (nI (100 * 0 + 10 * b + c)) (nI (100 * a + 10 * 0 + c)) (nI (100 * a + 10 * b + 0)) z (nI (100 * a + 10 * b + c)) (nI n) L R D l r := by
  have F : ∀ y : Int32, (y = 0 ∨ y = 1) → (¬ y = 0 ↔ gv_St G (gv_TX l r) a b c 1 0) → post (nI n, L, R, D, upd l (100 * a + 10 * b + c) z, upd r (100 * a + 10 * b + c) y) := by
    intro y hy hw
    refine hp _ _ (gv_01u hl hz) (gv_01u hr hy) (gv_Inv_step hn hg ha hb hc rfl (fun j t h _ => gv_TXu h) ?_ hI)
    intro s t hs
    obtain ⟨rfl, rfl⟩ | ⟨rfl, rfl⟩ : (s = 0 ∧ t = 1) ∨ (s = 1 ∧ t = 0) := by omega
    · show ¬ upd l (100 * a + 10 * b + c) z (100 * a + 10 * b + c) = 0 ↔ _
      rw [pk_us]
      exact hv
    · show ¬ upd r (100 * a + 10 * b + c) y (100 * a + 10 * b + c) = 0 ↔ _
      rw [pk_us]
      exact hw
  have ea : (nI a).toNatClampNeg = a := nI_clamp (by omega)
  have eb : (nI b).toNatClampNeg = b := nI_clamp (by omega)
  have ec : (nI c).toNatClampNeg = c := nI_clamp (by omega)
  have ek : (nI (100 * a + 10 * b + c)).toNatClampNeg = 100 * a + 10 * b + c := nI_clamp (by omega)
  have vk : vp_in (nI (100 * a + 10 * b + c)) 1000 := vp_in_nI (by omega) (by omega)
  have ga : ∀ x, bt (R a) x = true → x < a := fun x hx => hg a 1 x ha (by omega) (by rw [← hR a ha]; exact hx)
  have gb : ∀ x, bt (R b) x = true → x < b := fun x hx => hg b 1 x hb (by omega) (by rw [← hR b hb]; exact hx)
  have gc : ∀ x, bt (L c) x = true → x < c := fun x hx => hg c 0 x hc (by omega) (by rw [Nat.add_zero, ← hL c hc]; exact hx)
  have E1 : (∃ x, x < n ∧ bt (R a) x = true ∧ upd l (100 * a + 10 * b + c) z (100 * 0 + 10 * b + c + x * 100) = 0) ↔ (∃ x, bt (G (2 * a + 1)) x = true ∧ ¬ gv_TX l r (100 * x + 10 * b + c) 0) := by
    refine gv_ex (p := a) (hR a ha) (fun x hx => hg a 1 x ha (by omega) hx) (by omega) (fun x hx => ?_)
    rw [pk_un (by omega), show 100 * 0 + 10 * b + c + x * 100 = 100 * x + 10 * b + c by omega]
    exact Iff.rfl
  have E2 : (∃ x, x < n ∧ bt (R b) x = true ∧ upd l (100 * a + 10 * b + c) z (100 * a + 10 * 0 + c + x * 10) = 0) ↔ (∃ x, bt (G (2 * b + 1)) x = true ∧ ¬ gv_TX l r (100 * a + 10 * x + c) 0) := by
    refine gv_ex (p := b) (hR b hb) (fun x hx => hg b 1 x hb (by omega) hx) (by omega) (fun x hx => ?_)
    rw [pk_un (by omega), show 100 * a + 10 * 0 + c + x * 10 = 100 * a + 10 * x + c by omega]
    exact Iff.rfl
  have E3 : (∃ x, x < n ∧ bt (L c) x = true ∧ upd l (100 * a + 10 * b + c) z (100 * a + 10 * b + 0 + x * 1) = 0) ↔ (∃ x, bt (G (2 * c + 0)) x = true ∧ ¬ gv_TX l r (100 * a + 10 * b + x) 0) := by
    refine gv_ex (p := c) (hL c hc) (fun x hx => hg c 0 x hc (by omega) hx) (by omega) (fun x hx => ?_)
    rw [pk_un (by omega), show 100 * a + 10 * b + 0 + x * 1 = 100 * a + 10 * b + x by omega]
    exact Iff.rfl
  unfold wX_decideSum_105
  rw [ek, ea, eb, ec, gv_vb hz, gv_vb0, gv_vb1]
  refine ⟨vk, nm_e ⟨vp_in_nI (by omega) (by omega), gv_xcl (st := 100) hn (fun x hx => by have := ga x hx; omega) (fun y1 hy1 hv1 => br_c (fun z1 => ?_) (fun z1 => ⟨vk, nm_e (F 1 (Or.inr rfl) (gv_or3a hv1 E1 z1))⟩))⟩⟩
  refine ⟨vp_in_nI (by omega) (by omega), gv_xcl (st := 10) hn (fun x hx => by have := gb x hx; omega) (fun y2 hy2 hv2 => br_c (fun z2 => ?_) (fun z2 => ⟨vk, nm_e (F 1 (Or.inr rfl) (gv_or3b hv2 E2 z2))⟩))⟩
  refine ⟨vp_in_nI (by omega) (by omega), gv_xcl (st := 1) hn (fun x hx => by have := gc x hx; omega) (fun y3 hy3 hv3 => br_c (fun z3 => ?_) (fun z3 => ⟨vk, nm_e (F 1 (Or.inr rfl) (gv_or3c hv3 E3 z3))⟩))⟩
  exact ⟨vk, nm_e (F 0 (Or.inl rfl) (gv_or3n hv1 E1 hv2 E2 hv3 E3 z1 z2 z3))⟩
theorem gv_xds (hn : n ≤ 10) (hg : gv_Good G n) (hL : ∀ p, p < n → L p = G (2 * p)) (hR : ∀ p, p < n → R p = G (2 * p + 1)) (ha : a < n) (hb : b < n) (hc : c < n) (hl : gv_01 l) (hr : gv_01 r)
    (hI : gv_Inv G n (gv_TX l r) (100 * a + 10 * b + c))
    (hp : ∀ l' r', gv_01 l' → gv_01 r' → gv_Inv G n (gv_TX l' r') (100 * a + 10 * b + c + 1) → post (nI n, L, R, D, l', r')) :
    wpX_decideSum post (nI n, L, R, D, l, r) (nI a) (nI b) (nI c) := by
  have F : ∀ z : Int32, (z = 0 ∨ z = 1) → (¬ z = 0 ↔ gv_St G (gv_TX l r) a b c 0 1) → wX_decideSum_105 post (nI a) (nI b) (nI c) (nI (100 * a + 10 * b + c)) (nI (100 * 0 + 10 * b + c)) (nI (100 * a + 10 * 0 + c)) (nI (100 * a + 10 * b + 0)) z (nI (100 * a + 10 * b + c)) (nI n) L R D l r :=
    fun z hz hv => gv_x105 hn hg hL hR ha hb hc hl hr hI hz hv hp
  have ea : (nI a).toNatClampNeg = a := nI_clamp (by omega)
  have eb : (nI b).toNatClampNeg = b := nI_clamp (by omega)
  have ec : (nI c).toNatClampNeg = c := nI_clamp (by omega)
  have ga : ∀ x, bt (L a) x = true → x < a := fun x hx => hg a 0 x ha (by omega) (by rw [Nat.add_zero, ← hL a ha]; exact hx)
  have gb : ∀ x, bt (L b) x = true → x < b := fun x hx => hg b 0 x hb (by omega) (by rw [Nat.add_zero, ← hL b hb]; exact hx)
  have gc : ∀ x, bt (R c) x = true → x < c := fun x hx => hg c 1 x hc (by omega) (by rw [← hR c hc]; exact hx)
  have E1 : (∃ x, x < n ∧ bt (L a) x = true ∧ r (100 * 0 + 10 * b + c + x * 100) = 0) ↔ (∃ x, bt (G (2 * a + 0)) x = true ∧ ¬ gv_TX l r (100 * x + 10 * b + c) 1) := by
    refine gv_ex (p := a) (hL a ha) (fun x hx => hg a 0 x ha (by omega) hx) (by omega) (fun x hx => ?_)
    rw [show 100 * 0 + 10 * b + c + x * 100 = 100 * x + 10 * b + c by omega]
    exact Iff.rfl
  have E2 : (∃ x, x < n ∧ bt (L b) x = true ∧ r (100 * a + 10 * 0 + c + x * 10) = 0) ↔ (∃ x, bt (G (2 * b + 0)) x = true ∧ ¬ gv_TX l r (100 * a + 10 * x + c) 1) := by
    refine gv_ex (p := b) (hL b hb) (fun x hx => hg b 0 x hb (by omega) hx) (by omega) (fun x hx => ?_)
    rw [show 100 * a + 10 * 0 + c + x * 10 = 100 * a + 10 * x + c by omega]
    exact Iff.rfl
  have E3 : (∃ x, x < n ∧ bt (R c) x = true ∧ r (100 * a + 10 * b + 0 + x * 1) = 0) ↔ (∃ x, bt (G (2 * c + 1)) x = true ∧ ¬ gv_TX l r (100 * a + 10 * b + x) 1) := by
    refine gv_ex (p := c) (hR c hc) (fun x hx => hg c 1 x hc (by omega) hx) (by omega) (fun x hx => ?_)
    rw [show 100 * a + 10 * b + 0 + x * 1 = 100 * a + 10 * b + x by omega]
    exact Iff.rfl
  have s1 := gv_sum a b c
  have s2 := gv_sum 0 b c
  have s3 := gv_sum a 0 c
  have s4 := gv_sum a b 0
  rw [nI_0] at s2 s3 s4
  unfold wpX_decideSum
  simp only [wpX_sumIndex]
  rw [s1, s2, s3, s4, ea, eb, ec]
  refine ⟨vp_in_nI (by omega) (by omega), gv_xcr (st := 100) hn (fun x hx => by have := ga x hx; omega) (fun y1 hy1 hv1 => br_c (fun z1 => ?_) (fun z1 => F 1 (Or.inr rfl) (gv_or3a hv1 E1 z1)))⟩
  refine ⟨vp_in_nI (by omega) (by omega), gv_xcr (st := 10) hn (fun x hx => by have := gb x hx; omega) (fun y2 hy2 hv2 => br_c (fun z2 => ?_) (fun z2 => F 1 (Or.inr rfl) (gv_or3b hv2 E2 z2)))⟩
  refine ⟨vp_in_nI (by omega) (by omega), gv_xcr (st := 1) hn (fun x hx => by have := gc x hx; omega) (fun y3 hy3 hv3 => br_c (fun z3 => ?_) (fun z3 => F 1 (Or.inr rfl) (gv_or3c hv3 E3 z3)))⟩
  exact F 0 (Or.inl rfl) (gv_or3n hv1 E1 hv2 E2 hv3 E3 z1 z2 z3)
/-! the loops of decideSums -/
theorem gv_x22 {J2 J12 : Int32 → Int32 → (Nat → Int32) → (Nat → Int32) → (Nat → Int32) → (Nat → Int32) → (Nat → Int32) → Prop} (hn : n ≤ 10) (hg : gv_Good G n) (hL : ∀ p, p < n → L p = G (2 * p)) (hR : ∀ p, p < n → R p = G (2 * p + 1)) (ha : a < n) (hb : b < n)
    (hJ : ∀ l' r', gv_01 l' → gv_01 r' → gv_Inv G n (gv_TX l' r') (100 * a + 10 * b + n) → J12 (nI (b + 1)) (nI n) L R D l' r') :
    ∀ d i l r, i + d = n → gv_01 l → gv_01 r → gv_Inv G n (gv_TX l r) (100 * a + 10 * b + i) → wX_decideSums_22 post J2 J12 (nI a) (nI b) (d + 1) (nI i) (nI n) L R D l r := by
  intro d
  induction d with
  | zero =>
    intro i l r hi hl hr hI
    obtain rfl : i = n := by omega
    exact br_t (nI_le (by omega) (by omega)) (nm_r (nI_1 b) (hJ l r hl hr hI))
  | succ d ih =>
    intro i l r hi hl hr hI
    exact br_f (nI_ge (by omega) (by omega)) (gv_xds hn hg hL hR ha hb (by omega) hl hr hI (fun l' r' h1 h2 h3 => nm_r (nI_1 i) (ih (i + 1) l' r' (by omega) h1 h2 h3)))
theorem gv_x12 {J2 : Int32 → Int32 → (Nat → Int32) → (Nat → Int32) → (Nat → Int32) → (Nat → Int32) → (Nat → Int32) → Prop} (hn : n ≤ 10) (hg : gv_Good G n) (hL : ∀ p, p < n → L p = G (2 * p)) (hR : ∀ p, p < n → R p = G (2 * p + 1)) (ha : a < n)
    (hJ : ∀ l' r', gv_01 l' → gv_01 r' → gv_Inv G n (gv_TX l' r') (100 * a + 10 * n) → J2 (nI (a + 1)) (nI n) L R D l' r') :
    ∀ d i l r, i + d = n → gv_01 l → gv_01 r → gv_Inv G n (gv_TX l r) (100 * a + 10 * i) → wX_decideSums_12 post J2 (nI a) (d + 1) (nI i) (nI n) L R D l r := by
  intro d
  induction d with
  | zero =>
    intro i l r hi hl hr hI
    obtain rfl : i = n := by omega
    exact br_t (nI_le (by omega) (by omega)) (nm_r (nI_1 a) (hJ l r hl hr hI))
  | succ d ih =>
    intro i l r hi hl hr hI
    refine br_f (nI_ge (by omega) (by omega)) ⟨n + 1, gv_x22 hn hg hL hR ha (by omega) (fun l' r' h1 h2 h3 => ?_) n 0 l r (by omega) hl hr hI⟩
    exact ih (i + 1) l' r' (by omega) h1 h2 (gv_Inv_skip (fun x y w hx hy hw h => by omega) h3)
theorem gv_x2 (hn : n ≤ 10) (hg : gv_Good G n) (hL : ∀ p, p < n → L p = G (2 * p)) (hR : ∀ p, p < n → R p = G (2 * p + 1))
    (hJ : ∀ l' r', gv_01 l' → gv_01 r' → gv_Inv G n (gv_TX l' r') 1000 → post (nI n, L, R, D, l', r')) :
    ∀ d i l r, i + d = n → gv_01 l → gv_01 r → gv_Inv G n (gv_TX l r) (100 * i) → wX_decideSums_2 post (d + 1) (nI i) (nI n) L R D l r := by
  intro d
  induction d with
  | zero =>
    intro i l r hi hl hr hI
    obtain rfl : i = n := by omega
    exact br_t (nI_le (by omega) (by omega)) (hJ l r hl hr (gv_Inv_skip (fun x y w hx hy hw h => by omega) hI))
  | succ d ih =>
    intro i l r hi hl hr hI
    refine br_f (nI_ge (by omega) (by omega)) ⟨n + 1, gv_x12 hn hg hL hR (by omega) (fun l' r' h1 h2 h3 => ?_) n 0 l r (by omega) hl hr hI⟩
    exact ih (i + 1) l' r' (by omega) h1 h2 (gv_Inv_skip (fun x y w hx hy hw h => by omega) h3)
theorem gv_xdec (hn : n ≤ 10) (hg : gv_Good G n) (hL : ∀ p, p < n → L p = G (2 * p)) (hR : ∀ p, p < n → R p = G (2 * p + 1)) (hl : gv_01 l) (hr : gv_01 r)
    (hJ : ∀ l' r', gv_01 l' → gv_01 r' → gv_Inv G n (gv_TX l' r') 1000 → post (nI n, L, R, D, l', r')) : wpX_decideSums post (nI n, L, R, D, l, r) :=
  ⟨n + 1, gv_x2 hn hg hL hR hJ n 0 l r (by omega) hl hr gv_Inv_0⟩
end
/-! depthAbove -/
theorem gv_xda_l {post : Int32 → Prop} {n : Nat} {m : Int32} {L R D l r : Nat → Int32} (hn : n ≤ 10) (hp : post (gv_dm D m n)) :
    ∀ d i, i + d = n → wX_depthAbove_4 post m (nI n) L R D l r (d + 1) (gv_dm D m i) (nI i) := by
  intro d
  induction d with
  | zero =>
    intro i hi
    obtain rfl : i = n := by omega
    exact br_t (nI_le (by omega) (by omega)) hp
  | succ d ih =>
    intro i hi
    have h := ih (i + 1) (by omega)
    refine br_f (nI_ge (by omega) (by omega)) (gv_xcont (by omega) (fun hb1 => br_f (by decide) ?_) (fun hb0 => br_t rfl (nm_r (nI_1 i) ?_)))
    · rw [nI_clamp (by omega)]
      refine ⟨vp_in_nI (by omega) (by omega), ?_⟩
      by_cases z : D i + 1 ≤ gv_dm D m i
      · have e : gv_dm D m (i + 1) = gv_dm D m i := if_neg (fun w => absurd z (Int32.not_le.mpr w.2))
        rw [e] at h
        exact br_t z (nm_r (nI_1 i) h)
      · have e : gv_dm D m (i + 1) = D i + 1 := if_pos ⟨hb1, Int32.not_le.mp z⟩
        rw [e] at h
        exact br_f z ⟨vp_in_nI (by omega) (by omega), nm_e (nm_r (nI_1 i) h)⟩
    · have e : gv_dm D m (i + 1) = gv_dm D m i := if_neg (fun w => hb0 w.1)
      rw [e] at h
      exact h
theorem gv_xda {post : Int32 → Prop} {n : Nat} {m : Int32} {L R D l r : Nat → Int32} (hn : n ≤ 10) (hp : post (gv_dm D m n)) : wpX_depthAbove post (nI n, L, R, D, l, r) m :=
  ⟨n + 1, gv_xda_l hn hp n 0 (by omega)⟩
