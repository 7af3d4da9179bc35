/-! bits of masks -/
theorem gv_b1 : ∀ i, i < 32 → bt 1 i = decide (i = 0) := by decide +kernel
theorem gv_bit (m : Int32) {x : Nat} (hx : x < 32) : (m >>> (nI x &&& 31)) &&& 1 = if bt m x = true then 1 else 0 := by
  apply b_ext
  intro i hi
  rw [b_and, b_sshr x hx m hi, gv_b1 i hi]
  rcases Nat.eq_zero_or_pos i with h | h
  · subst h
    rw [Nat.add_zero, if_pos hx]
    cases bt m x
    · rw [if_neg (by decide), b_0]; rfl
    · rw [if_pos rfl, gv_b1 0 hi]; rfl
  · have e : decide (i = 0) = false := decide_eq_false (by omega)
    rw [e, Bool.and_false]
    cases bt m x
    · rw [if_neg (by decide), b_0]
    · rw [if_pos rfl, gv_b1 i hi, e]
theorem gv_bit0 (m : Int32) {x : Nat} (hx : x < 32) : (m >>> (nI x &&& 31)) &&& 1 = 0 ↔ ¬ bt m x = true := by
  rw [gv_bit m hx]
  cases bt m x
  · exact ⟨fun _ => by decide, fun _ => by decide⟩
  · exact ⟨fun h => absurd h (by decide), fun h => absurd rfl h⟩
theorem gv_bit1 (m : Int32) {x : Nat} (hx : x < 32) : (m >>> (nI x &&& 31)) &&& 1 = 1 ↔ bt m x = true := by
  rw [gv_bit m hx]
  cases bt m x
  · exact ⟨fun h => absurd h (by decide), fun h => absurd h (by decide)⟩
  · exact ⟨fun _ => rfl, fun _ => by decide⟩
theorem gv_put (m : Int32) {x i : Nat} (hx : x < 32) (hi : i < 32) : bt (m ||| ((1 : Int32) <<< (nI x &&& 31))) i = (bt m i || decide (i = x)) := by
  rw [b_or, b_shl x hx 1 hi, gv_b1 (i - x) (by omega)]
  congr 1
  rcases Nat.lt_or_ge i x with h | h
  · rw [decide_eq_false (by omega), decide_eq_false (p := i = x) (by omega)]; rfl
  · rw [decide_eq_true h, Bool.true_and]
    by_cases e : i = x
    · rw [decide_eq_true e, decide_eq_true (by omega)]
    · rw [decide_eq_false e, decide_eq_false (by omega)]
theorem gv_mask : ∀ n, n < 11 → ∀ i, i < 32 → bt ((((1 : Int32) <<< (nI n &&& 31)) - 1) ^^^ (-1)) i = decide (n ≤ i) := by decide +kernel
theorem gv_and0 {x m : Int32} : x &&& m = 0 ↔ ∀ i, i < 32 → (bt x i && bt m i) = false :=
  ⟨fun h i _ => by rw [← b_and, h, b_0], fun h => b_ext fun i hi => by rw [b_and, h i hi, b_0]⟩
theorem gv_orand {l r m : Int32} : (l ||| r) &&& m = 0 ↔ l &&& m = 0 ∧ r &&& m = 0 := by
  rw [gv_and0, gv_and0, gv_and0]
  constructor
  · intro h
    refine ⟨fun i hi => ?_, fun i hi => ?_⟩
    · have z := h i hi
      rw [b_or] at z
      revert z
      cases bt l i <;> cases bt r i <;> cases bt m i <;> decide
    · have z := h i hi
      rw [b_or] at z
      revert z
      cases bt l i <;> cases bt r i <;> cases bt m i <;> decide
  · intro h i hi
    have z1 := h.1 i hi
    have z2 := h.2 i hi
    rw [b_or]
    revert z1 z2
    cases bt l i <;> cases bt r i <;> cases bt m i <;> decide
theorem gv_below {x : Int32} {n : Nat} (hn : n < 11) (h : x &&& ((((1 : Int32) <<< (nI n &&& 31)) - 1) ^^^ (-1)) = 0) {i : Nat} (hi : bt x i = true) : i < n := by
  rcases Nat.lt_or_ge i 32 with h2 | h2
  · have z := gv_and0.mp h i h2
    rw [gv_mask n hn i h2, hi, Bool.true_and] at z
    have := of_decide_eq_false z
    omega
  · rw [b_big h2] at hi
    exact absurd hi (by decide)
/-! the rule of the tables: T k s, k the code 100 a + 10 b + c of a sum, s the side that moves first -/
def gv_Good (G : Nat → Int32) (n : Nat) : Prop := ∀ p s x, p < n → s < 2 → bt (G (2 * p + s)) x = true → x < p
def gv_St (G : Nat → Int32) (T : Nat → Nat → Prop) (a b c s t : Nat) : Prop :=
  (∃ x, bt (G (2 * a + s)) x = true ∧ ¬ T (100 * x + 10 * b + c) t) ∨
  (∃ x, bt (G (2 * b + s)) x = true ∧ ¬ T (100 * a + 10 * x + c) t) ∨
  (∃ x, bt (G (2 * c + t)) x = true ∧ ¬ T (100 * a + 10 * b + x) t)
def gv_Inv (G : Nat → Int32) (n : Nat) (T : Nat → Nat → Prop) (k : Nat) : Prop :=
  ∀ a b c s t, a < n → b < n → c < n → s + t = 1 → 100 * a + 10 * b + c < k → (T (100 * a + 10 * b + c) s ↔ gv_St G T a b c s t)
theorem gv_St_mono {G : Nat → Int32} {T T' : Nat → Nat → Prop} {n a b c s t : Nat} (hg : gv_Good G n) (ha : a < n) (hb : b < n) (hc : c < n) (hs : s + t = 1)
    (hT : ∀ x y z, x < n → y < n → z < n → 100 * x + 10 * y + z < 100 * a + 10 * b + c → T' (100 * x + 10 * y + z) t → T (100 * x + 10 * y + z) t)
    (h : gv_St G T a b c s t) : gv_St G T' a b c s t := by
  rcases h with ⟨x, hx, h⟩ | ⟨x, hx, h⟩ | ⟨x, hx, h⟩
  · have := hg a s x ha (by omega) hx
    exact Or.inl ⟨x, hx, fun z => h (hT _ _ _ (by omega) (by omega) (by omega) (by omega) z)⟩
  · have := hg b s x hb (by omega) hx
    exact Or.inr (Or.inl ⟨x, hx, fun z => h (hT _ _ _ (by omega) (by omega) (by omega) (by omega) z)⟩)
  · have := hg c t x hc (by omega) hx
    exact Or.inr (Or.inr ⟨x, hx, fun z => h (hT _ _ _ (by omega) (by omega) (by omega) (by omega) z)⟩)
theorem gv_St_iff {G : Nat → Int32} {T T' : Nat → Nat → Prop} {n a b c s t : Nat} (hg : gv_Good G n) (ha : a < n) (hb : b < n) (hc : c < n) (hs : s + t = 1)
    (hT : ∀ x y z, x < n → y < n → z < n → 100 * x + 10 * y + z < 100 * a + 10 * b + c → (T (100 * x + 10 * y + z) t ↔ T' (100 * x + 10 * y + z) t)) :
    gv_St G T a b c s t ↔ gv_St G T' a b c s t :=
  ⟨gv_St_mono hg ha hb hc hs (fun x y z h1 h2 h3 h4 => (hT x y z h1 h2 h3 h4).mpr), gv_St_mono hg ha hb hc hs (fun x y z h1 h2 h3 h4 => (hT x y z h1 h2 h3 h4).mp)⟩
theorem gv_Inv_step {G : Nat → Int32} {T T' : Nat → Nat → Prop} {n k a b c : Nat} (hn : n ≤ 10) (hg : gv_Good G n) (ha : a < n) (hb : b < n) (hc : c < n) (hk : k = 100 * a + 10 * b + c)
    (hT : ∀ j t, j < k → t < 2 → (T' j t ↔ T j t)) (hv : ∀ s t, s + t = 1 → (T' k s ↔ gv_St G T a b c s t)) (h : gv_Inv G n T k) : gv_Inv G n T' (k + 1) := by
  intro a' b' c' s t ha' hb' hc' hs hlt
  rcases Nat.lt_or_ge (100 * a' + 10 * b' + c') k with h1 | h1
  · rw [hT _ _ h1 (by omega), h a' b' c' s t ha' hb' hc' hs h1]
    exact gv_St_iff hg ha' hb' hc' hs (fun x y z _ _ _ hj => (hT _ t (by omega) (by omega)).symm)
  · obtain ⟨e1, e2, e3⟩ : a' = a ∧ b' = b ∧ c' = c := by omega
    subst e1 e2 e3
    rw [← hk, hv s t hs]
    exact gv_St_iff hg ha hb hc hs (fun x y z _ _ _ hj => (hT _ t (by omega) (by omega)).symm)
theorem gv_Inv_skip {G : Nat → Int32} {T : Nat → Nat → Prop} {n k k' : Nat} (hs : ∀ a b c, a < n → b < n → c < n → k ≤ 100 * a + 10 * b + c → k' ≤ 100 * a + 10 * b + c) (h : gv_Inv G n T k) : gv_Inv G n T k' := by
  intro a b c s t ha hb hc hst hlt
  rcases Nat.lt_or_ge (100 * a + 10 * b + c) k with h1 | h1
  · exact h a b c s t ha hb hc hst h1
  · have := hs a b c ha hb hc h1
    omega
theorem gv_Inv_0 {G : Nat → Int32} {T : Nat → Nat → Prop} {n : Nat} : gv_Inv G n T 0 := fun _ _ _ _ _ _ _ _ _ h => absurd h (Nat.not_lt_zero _)
theorem gv_Inv_le {G : Nat → Int32} {T : Nat → Nat → Prop} {n n' k : Nat} (hn : n' ≤ n) (h : gv_Inv G n T k) : gv_Inv G n' T k :=
  fun a b c s t ha hb hc hst hlt => h a b c s t (Nat.lt_of_lt_of_le ha hn) (Nat.lt_of_lt_of_le hb hn) (Nat.lt_of_lt_of_le hc hn) hst hlt
theorem gv_Good_le {G : Nat → Int32} {n n' : Nat} (hn : n' ≤ n) (h : gv_Good G n) : gv_Good G n' := fun p s x hp hs hx => h p s x (Nat.lt_of_lt_of_le hp hn) hs hx
theorem gv_uniq {G : Nat → Int32} {T T' : Nat → Nat → Prop} {n : Nat} (hn : n ≤ 10) (hg : gv_Good G n) (h : gv_Inv G n T 1000) (h' : gv_Inv G n T' 1000) :
    ∀ k a b c s, a < n → b < n → c < n → s < 2 → 100 * a + 10 * b + c < k → (T (100 * a + 10 * b + c) s ↔ T' (100 * a + 10 * b + c) s) := by
  intro k
  induction k with
  | zero => intro a b c s _ _ _ _ hlt; exact absurd hlt (Nat.not_lt_zero _)
  | succ k ih =>
    intro a b c s ha hb hc hs hlt
    rw [h a b c s (1 - s) ha hb hc (by omega) (by omega), h' a b c s (1 - s) ha hb hc (by omega) (by omega)]
    exact gv_St_iff hg ha hb hc (by omega) (fun x y z hx hy hz hj => ih x y z (1 - s) hx hy hz (by omega) (by omega))
/-! turning over -/
theorem gv_sym {G : Nat → Int32} {T : Nat → Nat → Prop} {n : Nat} (hn : n ≤ 10) (hg : gv_Good G n) (h : gv_Inv G n T 1000) :
    ∀ k a c s t, a + c < k → a < n → c < n → s + t = 1 → T (100 * a + 10 * 0 + c) s → T (100 * c + 10 * 0 + a) t := by
  intro k
  induction k with
  | zero => intro a c s t hlt; exact absurd hlt (Nat.not_lt_zero _)
  | succ k ih =>
    intro a c s t hlt ha hc hs hT
    rw [h c 0 a t s hc (by omega) ha (by omega) (by omega)]
    rcases (h a 0 c s t ha (by omega) hc hs (by omega)).mp hT with ⟨x, hx, z⟩ | ⟨x, hx, z⟩ | ⟨x, hx, z⟩
    · have := hg a s x ha (by omega) hx
      exact Or.inr (Or.inr ⟨x, hx, fun w => z (ih c x s t (by omega) hc (by omega) hs w)⟩)
    · have := hg 0 s x (by omega) (by omega) hx
      omega
    · have := hg c t x hc (by omega) hx
      exact Or.inl ⟨x, hx, fun w => z (ih x a s t (by omega) (by omega) ha hs w)⟩
theorem gv_mir {G : Nat → Int32} {T : Nat → Nat → Prop} {n : Nat} (hn : n ≤ 10) (hg : gv_Good G n) (h : gv_Inv G n T 1000) :
    ∀ k p s t, p < k → p < n → s + t = 1 → ¬ T (100 * p + 10 * 0 + p) s := by
  intro k
  induction k with
  | zero => intro p s t hlt; exact absurd hlt (Nat.not_lt_zero _)
  | succ k ih =>
    intro p s t hlt hp hs hT
    rcases (h p 0 p s t hp (by omega) hp hs (by omega)).mp hT with ⟨x, hx, z⟩ | ⟨x, hx, z⟩ | ⟨x, hx, z⟩
    · have := hg p s x hp (by omega) hx
      exact z ((h x 0 p t s (by omega) (by omega) hp (by omega) (by omega)).mpr (Or.inr (Or.inr ⟨x, hx, ih x s t (by omega) (by omega) hs⟩)))
    · have := hg 0 s x (by omega) (by omega) hx
      omega
    · have := hg p t x hp (by omega) hx
      exact z ((h p 0 x t s hp (by omega) (by omega) (by omega) (by omega)).mpr (Or.inl ⟨x, hx, ih x s t (by omega) (by omega) hs⟩))
/-! the two tables -/
def gv_01 (f : Nat → Int32) : Prop := ∀ j, f j = 0 ∨ f j = 1
def gv_TX (l r : Nat → Int32) (k s : Nat) : Prop := ¬ (if s = 0 then l k else r k) = 0
def gv_TY (w : Nat → Int32) (k s : Nat) : Prop := ¬ w (2 * k + s) = 0
theorem gv_01u {f : Nat → Int32} {k : Nat} {x : Int32} (h : gv_01 f) (hx : x = 0 ∨ x = 1) : gv_01 (upd f k x) := by
  intro j
  by_cases e : j = k
  · subst e; rw [pk_us]; exact hx
  · rw [pk_un e]; exact h j
theorem gv_010 : gv_01 (fun _ => 0) := fun _ => Or.inl rfl
theorem gv_01eq {x y : Int32} (hx : x = 0 ∨ x = 1) (hy : y = 0 ∨ y = 1) (h : ¬ x = 0 ↔ ¬ y = 0) : x = y := by
  rcases hx with rfl | rfl <;> rcases hy with rfl | rfl
  · rfl
  · exact absurd rfl (h.mpr (by decide))
  · exact absurd rfl (h.mp (by decide))
  · rfl
theorem gv_01n {x : Int32} (h : x = 0 ∨ x = 1) (hx : ¬ x = 0) : x = 1 := h.resolve_left hx
/-- what the reference's table holds where the class's holds l and r -/
def gv_Agr (n : Nat) (l r w : Nat → Int32) : Prop :=
  ∀ a b c, a < n → b < n → c < n → w (2 * (100 * a + 10 * b + c)) = l (100 * a + 10 * b + c) ∧ w (2 * (100 * a + 10 * b + c) + 1) = r (100 * a + 10 * b + c)
theorem gv_agr {G l r w : Nat → Int32} {n : Nat} (hn : n ≤ 10) (hg : gv_Good G n) (hl : gv_01 l) (hr : gv_01 r) (hw : gv_01 w) (h : gv_Inv G n (gv_TX l r) 1000) (h' : gv_Inv G n (gv_TY w) 1000) : gv_Agr n l r w := by
  intro a b c ha hb hc
  have h0 := gv_uniq hn hg h h' 1000 a b c 0 ha hb hc (by omega) (by omega)
  have h1 := gv_uniq hn hg h h' 1000 a b c 1 ha hb hc (by omega) (by omega)
  exact ⟨(gv_01eq (hl _) (hw _) h0).symm, (gv_01eq (hr _) (hw _) h1).symm⟩
theorem gv_turn {G l r : Nat → Int32} {n : Nat} (hn : n ≤ 10) (hg : gv_Good G n) (hl : gv_01 l) (hr : gv_01 r) (h : gv_Inv G n (gv_TX l r) 1000) {a c : Nat} (ha : a < n) (hc : c < n) : l (100 * a + 10 * 0 + c) = r (100 * c + 10 * 0 + a) :=
  gv_01eq (hl _) (hr _) ⟨fun z => gv_sym hn hg h 20 a c 0 1 (by omega) ha hc rfl z, fun z => gv_sym hn hg h 20 c a 1 0 (by omega) hc ha rfl z⟩
theorem gv_self {G l r : Nat → Int32} {n : Nat} (hn : n ≤ 10) (hg : gv_Good G n) (h : gv_Inv G n (gv_TX l r) 1000) {p : Nat} (hp : p < n) : l (100 * p + 10 * 0 + p) = 0 ∧ r (100 * p + 10 * 0 + p) = 0 :=
  ⟨Classical.not_not.mp (gv_mir hn hg h 10 p 0 1 (by omega) hp rfl), Classical.not_not.mp (gv_mir hn hg h 10 p 1 0 (by omega) hp rfl)⟩
/-! depths -/
def gv_dm (f : Nat → Int32) (m : Int32) : Nat → Int32
  | 0 => 0
  | x + 1 => if bt m x = true ∧ gv_dm f m x < f x + 1 then f x + 1 else gv_dm f m x
theorem gv_dm_c {f f' : Nat → Int32} {m : Int32} : ∀ k, (∀ x, x < k → f x = f' x) → gv_dm f m k = gv_dm f' m k := by
  intro k
  induction k with
  | zero => intro _; rfl
  | succ k ih =>
    intro h
    show (if bt m k = true ∧ gv_dm f m k < f k + 1 then f k + 1 else gv_dm f m k) = (if bt m k = true ∧ gv_dm f' m k < f' k + 1 then f' k + 1 else gv_dm f' m k)
    rw [ih (fun x hx => h x (by omega)), h k (by omega)]
def gv_Dp (G d : Nat → Int32) (n : Nat) : Prop := ∀ p, p < n → d p = gv_dm d (G (2 * p) ||| G (2 * p + 1)) p
theorem gv_Dp_le {G d : Nat → Int32} {n n' : Nat} (hn : n' ≤ n) (h : gv_Dp G d n) : gv_Dp G d n' := fun p hp => h p (Nat.lt_of_lt_of_le hp hn)
theorem gv_Dp_u {G d d' : Nat → Int32} {n : Nat} (h : gv_Dp G d n) (h' : gv_Dp G d' n) : ∀ k p, p < k → p < n → d p = d' p := by
  intro k
  induction k with
  | zero => intro p hlt; exact absurd hlt (Nat.not_lt_zero _)
  | succ k ih =>
    intro p hlt hp
    rw [h p hp, h' p hp]
    exact gv_dm_c p (fun x hx => ih x (by omega) (by omega))
