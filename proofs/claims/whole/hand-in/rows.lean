section
theorem pk_us {f : Nat → Int32} {k : Nat} {x : Int32} : upd f k x k = x := if_pos rfl
theorem pk_un {f : Nat → Int32} {k j : Nat} {x : Int32} (h : j ≠ k) : upd f k x j = f j := if_neg h
theorem pk_sub {a b : Nat} (h : b ≤ a) : nI a - nI b = nI (a - b) := by
  obtain ⟨c, rfl⟩ : ∃ c, a = c + b := ⟨a - b, by omega⟩
  rw [← nI_add, Int32.add_sub_cancel, Nat.add_sub_cancel]
theorem pk_m1 (n : Nat) : nI (n + 1) + (-1) = nI n := by
  rw [← nI_1, Int32.add_assoc, show (1 : Int32) + (-1) = 0 from rfl, Int32.add_zero]
theorem pk_mul (a b : Nat) : nI a * nI b = nI (a * b) := (Int32.ofNat_mul a b).symm
theorem pk_div {a d : Nat} (ha : a < 2 ^ 31) (h0 : 0 < d) (hd : d < 2 ^ 31) : nI a / nI d = nI (a / d) := by
  apply Int32.toInt_inj.mp
  rw [lg_idiv_nonneg (by rw [nI_toInt ha]; omega) (by rw [nI_toInt hd]; omega), nI_toInt ha, nI_toInt hd, nI_toInt (Nat.lt_of_le_of_lt (Nat.div_le_self a d) ha)]
  first | rfl | exact (Int.natCast_ediv _ _).symm
theorem pk_rem {a d : Nat} (ha : a < 2 ^ 31) (h0 : 0 < d) (hd : d < 2 ^ 31) : nI a - nI a / nI d * nI d = nI (a % d) := by
  rw [pk_div ha h0 hd, pk_mul, pk_sub (Nat.div_mul_le_self a d)]
  exact congrArg nI (by have := Nat.div_add_mod' a d; omega)
theorem pk_ix (x : Int32) {n : Nat} (hn : n < 2 ^ 31) : x < 0 ∨ nI n ≤ x ∨ ∃ j : Nat, j < n ∧ x = nI j := by
  by_cases h : x < 0
  · exact Or.inl h
  · obtain ⟨j, hj, rfl⟩ := nI_of h
    by_cases h2 : j < n
    · exact Or.inr (Or.inr ⟨j, h2, rfl⟩)
    · exact Or.inr (Or.inl (nI_le (by omega) hj))
theorem pk_le {x y : Int32} {A B : Prop} (a b : Nat) (f : a ≤ b → A) (g : b < a → B) (hx : x = nI a := by rfl) (hy : y = nI b := by rfl) (ha : a < 2 ^ 31 := by omega) (hb : b < 2 ^ 31 := by omega) : (x ≤ y → A) ∧ (¬ x ≤ y → B) := by
  subst hx hy
  rw [nI_leI ha hb]
  exact ⟨f, fun z => g (by omega)⟩
theorem pk_lt {x y : Int32} {A B : Prop} (a b : Nat) (f : a < b → A) (g : b ≤ a → B) (hx : x = nI a := by rfl) (hy : y = nI b := by rfl) (ha : a < 2 ^ 31 := by omega) (hb : b < 2 ^ 31 := by omega) : (x < y → A) ∧ (¬ x < y → B) := by
  subst hx hy
  rw [nI_ltI ha hb]
  exact ⟨f, fun z => g (by omega)⟩
theorem pk_eq {x y : Int32} {A B : Prop} (a b : Nat) (f : a = b → A) (g : a ≠ b → B) (hx : x = nI a := by rfl) (hy : y = nI b := by rfl) (ha : a < 2 ^ 31 := by omega) (hb : b < 2 ^ 31 := by omega) : (x = y → A) ∧ (¬ x = y → B) := by
  subst hx hy
  rw [nI_eq ha hb]
  exact ⟨f, g⟩
theorem pk_in {x : Int32} (n N : Nat) (h : n < N) (hx : x = nI n := by rfl) (hN : N < 2 ^ 31 := by omega) : vp_in x N := by
  subst hx
  exact vp_in_nI h hN
theorem pk_cl {x : Int32} (n : Nat) (hx : x = nI n := by rfl) (h : n < 2 ^ 31 := by omega) : x.toNatClampNeg = n := by
  subst hx
  exact nI_clamp h
theorem pk_tn {n : Nat} (h : n < 2 ^ 32) : (nI n).toBitVec.toNat = n := Nat.mod_eq_of_lt h
theorem pk_loop {σ : Type} (W : Nat → Nat → σ → Prop) (I : Nat → σ → Prop) (e i0 : Nat) (s : σ) (hi : i0 ≤ e) (h0 : I i0 s) (hx : ∀ n s, I e s → W (n + 1) e s)
    (hs : ∀ n i s, i < e → I i s → (∀ s', I (i + 1) s' → W n (i + 1) s') → W (n + 1) i s) : ∃ n, W n i0 s :=
  ⟨e + 1, loop_i W I e hx hs (e + 1) i0 s hi (by omega) h0⟩
theorem lp1 {A1 : Type} (W : Nat → A1 → Prop) (I : A1 → Prop) (μ : A1 → Nat) (hs : ∀ (n : Nat) (a1 : A1), I a1 → (∀ (b1 : A1), I b1 → μ b1 < μ a1 → W n b1) → W (n + 1) a1) (a1 : A1) (h : I a1) : ∃ n, W n a1 :=
  loop_m (σ := A1) (fun n s => W n s) (fun s => I s) (fun s => μ s) (fun n s hI hk => hs n s hI (fun b1 h9 hm => hk b1 h9 hm)) a1 h
theorem lp2 {A1 A2 : Type} (W : Nat → A1 → A2 → Prop) (I : A1 → A2 → Prop) (μ : A1 → A2 → Nat) (hs : ∀ (n : Nat) (a1 : A1) (a2 : A2), I a1 a2 → (∀ (b1 : A1) (b2 : A2), I b1 b2 → μ b1 b2 < μ a1 a2 → W n b1 b2) → W (n + 1) a1 a2) (a1 : A1) (a2 : A2) (h : I a1 a2) : ∃ n, W n a1 a2 :=
  loop_m (σ := A1 × A2) (fun n s => W n s.1 s.2) (fun s => I s.1 s.2) (fun s => μ s.1 s.2) (fun n s hI hk => hs n s.1 s.2 hI (fun b1 b2 h9 hm => hk (b1, b2) h9 hm)) (a1, a2) h
theorem lp3 {A1 A2 A3 : Type} (W : Nat → A1 → A2 → A3 → Prop) (I : A1 → A2 → A3 → Prop) (μ : A1 → A2 → A3 → Nat) (hs : ∀ (n : Nat) (a1 : A1) (a2 : A2) (a3 : A3), I a1 a2 a3 → (∀ (b1 : A1) (b2 : A2) (b3 : A3), I b1 b2 b3 → μ b1 b2 b3 < μ a1 a2 a3 → W n b1 b2 b3) → W (n + 1) a1 a2 a3) (a1 : A1) (a2 : A2) (a3 : A3) (h : I a1 a2 a3) : ∃ n, W n a1 a2 a3 :=
  loop_m (σ := A1 × A2 × A3) (fun n s => W n s.1 s.2.1 s.2.2) (fun s => I s.1 s.2.1 s.2.2) (fun s => μ s.1 s.2.1 s.2.2) (fun n s hI hk => hs n s.1 s.2.1 s.2.2 hI (fun b1 b2 b3 h9 hm => hk (b1, b2, b3) h9 hm)) (a1, a2, a3) h
theorem lp4 {A1 A2 A3 A4 : Type} (W : Nat → A1 → A2 → A3 → A4 → Prop) (I : A1 → A2 → A3 → A4 → Prop) (μ : A1 → A2 → A3 → A4 → Nat) (hs : ∀ (n : Nat) (a1 : A1) (a2 : A2) (a3 : A3) (a4 : A4), I a1 a2 a3 a4 → (∀ (b1 : A1) (b2 : A2) (b3 : A3) (b4 : A4), I b1 b2 b3 b4 → μ b1 b2 b3 b4 < μ a1 a2 a3 a4 → W n b1 b2 b3 b4) → W (n + 1) a1 a2 a3 a4) (a1 : A1) (a2 : A2) (a3 : A3) (a4 : A4) (h : I a1 a2 a3 a4) : ∃ n, W n a1 a2 a3 a4 :=
  loop_m (σ := A1 × A2 × A3 × A4) (fun n s => W n s.1 s.2.1 s.2.2.1 s.2.2.2) (fun s => I s.1 s.2.1 s.2.2.1 s.2.2.2) (fun s => μ s.1 s.2.1 s.2.2.1 s.2.2.2) (fun n s hI hk => hs n s.1 s.2.1 s.2.2.1 s.2.2.2 hI (fun b1 b2 b3 b4 h9 hm => hk (b1, b2, b3, b4) h9 hm)) (a1, a2, a3, a4) h
theorem ek_if {c d A B : Prop} (e : c ↔ d) (f : d → A) (g : ¬ d → B) : (c → A) ∧ (¬ c → B) :=
  ⟨fun z => f (e.mp z), fun z => g (fun y => z (e.mpr y))⟩
theorem ek_v {α : Sort _} {P : α → Prop} {a b : α} (e : a = b) (h : P b) : P a := e ▸ h
def bt (x : Int32) (i : Nat) : Bool := x.toBitVec.getLsbD i
theorem b_ext {x y : Int32} (h : ∀ i, i < 32 → bt x i = bt y i) : x = y := Int32.toBitVec_inj.mp (BitVec.eq_of_getLsbD_eq (fun i hi => h i hi))
theorem b_or (x y : Int32) (i : Nat) : bt (x ||| y) i = (bt x i || bt y i) := by unfold bt; rw [Int32.toBitVec_or, BitVec.getLsbD_or]
theorem b_and (x y : Int32) (i : Nat) : bt (x &&& y) i = (bt x i && bt y i) := by unfold bt; rw [Int32.toBitVec_and, BitVec.getLsbD_and]
theorem b_xor (x y : Int32) (i : Nat) : bt (x ^^^ y) i = (bt x i ^^ bt y i) := by unfold bt; rw [Int32.toBitVec_xor, BitVec.getLsbD_xor]
theorem b_big {x : Int32} {i : Nat} (h : 32 ≤ i) : bt x i = false := BitVec.getLsbD_of_ge _ _ h
theorem b_m1 : ∀ i, i < 32 → bt (-1) i = true := by decide +kernel
theorem b_0 (i : Nat) : bt 0 i = false := BitVec.getLsbD_zero
theorem s_l : ∀ n, n < 32 → ((nI n &&& 31).toBitVec.smod 32).toNat = n := by decide +kernel
theorem s_u : ∀ n, n < 32 → (((nI n).toUInt32 &&& Int32.toUInt32 31).toBitVec % 32).toNat = n := by decide +kernel
theorem b_shl (n : Nat) (hn : n < 32) (x : Int32) {i : Nat} (hi : i < 32) : bt (x <<< (nI n &&& 31)) i = (decide (n ≤ i) && bt x (i - n)) := by
  unfold bt
  rw [Int32.toBitVec_shiftLeft]
  show (x.toBitVec <<< ((nI n &&& 31).toBitVec.smod 32).toNat).getLsbD i = _
  rw [s_l n hn, BitVec.getLsbD_shiftLeft]
  rcases Nat.lt_or_ge i n with h | h
  · simp [h, Nat.not_le.mpr h]
  · simp [hi, h, Nat.not_lt.mpr h]
theorem b_ushr (n : Nat) (hn : n < 32) (x : Int32) (i : Nat) : bt ((x.toUInt32 >>> ((nI n).toUInt32 &&& Int32.toUInt32 31)).toInt32) i = bt x (n + i) := by
  show (x.toUInt32 >>> ((nI n).toUInt32 &&& Int32.toUInt32 31)).toBitVec.getLsbD i = x.toUInt32.toBitVec.getLsbD (n + i)
  rw [UInt32.toBitVec_shiftRight]
  show (x.toUInt32.toBitVec >>> (((nI n).toUInt32 &&& Int32.toUInt32 31).toBitVec % 32).toNat).getLsbD i = _
  rw [s_u n hn, BitVec.getLsbD_ushiftRight]
theorem b_sshr (n : Nat) (hn : n < 32) (x : Int32) {i : Nat} (hi : i < 32) : bt (x >>> (nI n &&& 31)) i = if n + i < 32 then bt x (n + i) else bt x 31 := by
  unfold bt
  rw [Int32.toBitVec_shiftRight]
  show (x.toBitVec.sshiftRight ((nI n &&& 31).toBitVec.smod 32).toNat).getLsbD i = _
  rw [s_l n hn, BitVec.getLsbD_sshiftRight, BitVec.msb_eq_getLsbD_last]
  simp [hi]
end
section
/-! bits of masks -/
theorem gv_b1 : ∀ i, i < 32 → bt 1 i = decide (i = 0) := by decide +kernel
theorem gv_bit (m : Int32) {x : Nat} (hx : x < 32) : (m >>> (nI x &&& 31)) &&& 1 = if bt m x = true then 1 else 0 := by
  apply b_ext
  intro i hi
  rw [b_and, b_sshr x hx m hi, gv_b1 i hi]
  rcases Nat.eq_zero_or_pos i with h | h
  · subst h
    rw [Nat.add_zero, if_pos hx]
    cases bt m x
    · rw [if_neg (by decide), b_0]; rfl
    · rw [if_pos rfl, gv_b1 0 hi]; rfl
  · have e : decide (i = 0) = false := decide_eq_false (by omega)
    rw [e, Bool.and_false]
    cases bt m x
    · rw [if_neg (by decide), b_0]
    · rw [if_pos rfl, gv_b1 i hi, e]
theorem gv_bit0 (m : Int32) {x : Nat} (hx : x < 32) : (m >>> (nI x &&& 31)) &&& 1 = 0 ↔ ¬ bt m x = true := by
  rw [gv_bit m hx]
  cases bt m x
  · exact ⟨fun _ => by decide, fun _ => by decide⟩
  · exact ⟨fun h => absurd h (by decide), fun h => absurd rfl h⟩
theorem gv_bit1 (m : Int32) {x : Nat} (hx : x < 32) : (m >>> (nI x &&& 31)) &&& 1 = 1 ↔ bt m x = true := by
  rw [gv_bit m hx]
  cases bt m x
  · exact ⟨fun h => absurd h (by decide), fun h => absurd h (by decide)⟩
  · exact ⟨fun _ => rfl, fun _ => by decide⟩
theorem gv_put (m : Int32) {x i : Nat} (hx : x < 32) (hi : i < 32) : bt (m ||| ((1 : Int32) <<< (nI x &&& 31))) i = (bt m i || decide (i = x)) := by
  rw [b_or, b_shl x hx 1 hi, gv_b1 (i - x) (by omega)]
  congr 1
  rcases Nat.lt_or_ge i x with h | h
  · rw [decide_eq_false (by omega), decide_eq_false (p := i = x) (by omega)]; rfl
  · rw [decide_eq_true h, Bool.true_and]
    by_cases e : i = x
    · rw [decide_eq_true e, decide_eq_true (by omega)]
    · rw [decide_eq_false e, decide_eq_false (by omega)]
theorem gv_mask : ∀ n, n < 11 → ∀ i, i < 32 → bt ((((1 : Int32) <<< (nI n &&& 31)) - 1) ^^^ (-1)) i = decide (n ≤ i) := by decide +kernel
theorem gv_and0 {x m : Int32} : x &&& m = 0 ↔ ∀ i, i < 32 → (bt x i && bt m i) = false :=
  ⟨fun h i _ => by rw [← b_and, h, b_0], fun h => b_ext fun i hi => by rw [b_and, h i hi, b_0]⟩
theorem gv_orand {l r m : Int32} : (l ||| r) &&& m = 0 ↔ l &&& m = 0 ∧ r &&& m = 0 := by
  rw [gv_and0, gv_and0, gv_and0]
  constructor
  · intro h
    refine ⟨fun i hi => ?_, fun i hi => ?_⟩
    · have z := h i hi
      rw [b_or] at z
      revert z
      cases bt l i <;> cases bt r i <;> cases bt m i <;> decide
    · have z := h i hi
      rw [b_or] at z
      revert z
      cases bt l i <;> cases bt r i <;> cases bt m i <;> decide
  · intro h i hi
    have z1 := h.1 i hi
    have z2 := h.2 i hi
    rw [b_or]
    revert z1 z2
    cases bt l i <;> cases bt r i <;> cases bt m i <;> decide
theorem gv_below {x : Int32} {n : Nat} (hn : n < 11) (h : x &&& ((((1 : Int32) <<< (nI n &&& 31)) - 1) ^^^ (-1)) = 0) {i : Nat} (hi : bt x i = true) : i < n := by
  rcases Nat.lt_or_ge i 32 with h2 | h2
  · have z := gv_and0.mp h i h2
    rw [gv_mask n hn i h2, hi, Bool.true_and] at z
    have := of_decide_eq_false z
    omega
  · rw [b_big h2] at hi
    exact absurd hi (by decide)
/-! the rule of the tables: T k s, k the code 100 a + 10 b + c of a sum, s the side that moves first -/
def gv_Good (G : Nat → Int32) (n : Nat) : Prop := ∀ p s x, p < n → s < 2 → bt (G (2 * p + s)) x = true → x < p
def gv_St (G : Nat → Int32) (T : Nat → Nat → Prop) (a b c s t : Nat) : Prop :=
  (∃ x, bt (G (2 * a + s)) x = true ∧ ¬ T (100 * x + 10 * b + c) t) ∨
  (∃ x, bt (G (2 * b + s)) x = true ∧ ¬ T (100 * a + 10 * x + c) t) ∨
  (∃ x, bt (G (2 * c + t)) x = true ∧ ¬ T (100 * a + 10 * b + x) t)
def gv_Inv (G : Nat → Int32) (n : Nat) (T : Nat → Nat → Prop) (k : Nat) : Prop :=
  ∀ a b c s t, a < n → b < n → c < n → s + t = 1 → 100 * a + 10 * b + c < k → (T (100 * a + 10 * b + c) s ↔ gv_St G T a b c s t)
theorem gv_St_mono {G : Nat → Int32} {T T' : Nat → Nat → Prop} {n a b c s t : Nat} (hg : gv_Good G n) (ha : a < n) (hb : b < n) (hc : c < n) (hs : s + t = 1)
    (hT : ∀ x y z, x < n → y < n → z < n → 100 * x + 10 * y + z < 100 * a + 10 * b + c → T' (100 * x + 10 * y + z) t → T (100 * x + 10 * y + z) t)
    (h : gv_St G T a b c s t) : gv_St G T' a b c s t := by
  rcases h with ⟨x, hx, h⟩ | ⟨x, hx, h⟩ | ⟨x, hx, h⟩
  · have := hg a s x ha (by omega) hx
    exact Or.inl ⟨x, hx, fun z => h (hT _ _ _ (by omega) (by omega) (by omega) (by omega) z)⟩
  · have := hg b s x hb (by omega) hx
    exact Or.inr (Or.inl ⟨x, hx, fun z => h (hT _ _ _ (by omega) (by omega) (by omega) (by omega) z)⟩)
  · have := hg c t x hc (by omega) hx
    exact Or.inr (Or.inr ⟨x, hx, fun z => h (hT _ _ _ (by omega) (by omega) (by omega) (by omega) z)⟩)
theorem gv_St_iff {G : Nat → Int32} {T T' : Nat → Nat → Prop} {n a b c s t : Nat} (hg : gv_Good G n) (ha : a < n) (hb : b < n) (hc : c < n) (hs : s + t = 1)
    (hT : ∀ x y z, x < n → y < n → z < n → 100 * x + 10 * y + z < 100 * a + 10 * b + c → (T (100 * x + 10 * y + z) t ↔ T' (100 * x + 10 * y + z) t)) :
    gv_St G T a b c s t ↔ gv_St G T' a b c s t :=
  ⟨gv_St_mono hg ha hb hc hs (fun x y z h1 h2 h3 h4 => (hT x y z h1 h2 h3 h4).mpr), gv_St_mono hg ha hb hc hs (fun x y z h1 h2 h3 h4 => (hT x y z h1 h2 h3 h4).mp)⟩
theorem gv_Inv_step {G : Nat → Int32} {T T' : Nat → Nat → Prop} {n k a b c : Nat} (hn : n ≤ 10) (hg : gv_Good G n) (ha : a < n) (hb : b < n) (hc : c < n) (hk : k = 100 * a + 10 * b + c)
    (hT : ∀ j t, j < k → t < 2 → (T' j t ↔ T j t)) (hv : ∀ s t, s + t = 1 → (T' k s ↔ gv_St G T a b c s t)) (h : gv_Inv G n T k) : gv_Inv G n T' (k + 1) := by
  intro a' b' c' s t ha' hb' hc' hs hlt
  rcases Nat.lt_or_ge (100 * a' + 10 * b' + c') k with h1 | h1
  · rw [hT _ _ h1 (by omega), h a' b' c' s t ha' hb' hc' hs h1]
    exact gv_St_iff hg ha' hb' hc' hs (fun x y z _ _ _ hj => (hT _ t (by omega) (by omega)).symm)
  · obtain ⟨e1, e2, e3⟩ : a' = a ∧ b' = b ∧ c' = c := by omega
    subst e1 e2 e3
    rw [← hk, hv s t hs]
    exact gv_St_iff hg ha hb hc hs (fun x y z _ _ _ hj => (hT _ t (by omega) (by omega)).symm)
theorem gv_Inv_skip {G : Nat → Int32} {T : Nat → Nat → Prop} {n k k' : Nat} (hs : ∀ a b c, a < n → b < n → c < n → k ≤ 100 * a + 10 * b + c → k' ≤ 100 * a + 10 * b + c) (h : gv_Inv G n T k) : gv_Inv G n T k' := by
  intro a b c s t ha hb hc hst hlt
  rcases Nat.lt_or_ge (100 * a + 10 * b + c) k with h1 | h1
  · exact h a b c s t ha hb hc hst h1
  · have := hs a b c ha hb hc h1
    omega
theorem gv_Inv_0 {G : Nat → Int32} {T : Nat → Nat → Prop} {n : Nat} : gv_Inv G n T 0 := fun _ _ _ _ _ _ _ _ _ h => absurd h (Nat.not_lt_zero _)
theorem gv_Inv_le {G : Nat → Int32} {T : Nat → Nat → Prop} {n n' k : Nat} (hn : n' ≤ n) (h : gv_Inv G n T k) : gv_Inv G n' T k :=
  fun a b c s t ha hb hc hst hlt => h a b c s t (Nat.lt_of_lt_of_le ha hn) (Nat.lt_of_lt_of_le hb hn) (Nat.lt_of_lt_of_le hc hn) hst hlt
theorem gv_Good_le {G : Nat → Int32} {n n' : Nat} (hn : n' ≤ n) (h : gv_Good G n) : gv_Good G n' := fun p s x hp hs hx => h p s x (Nat.lt_of_lt_of_le hp hn) hs hx
theorem gv_uniq {G : Nat → Int32} {T T' : Nat → Nat → Prop} {n : Nat} (hn : n ≤ 10) (hg : gv_Good G n) (h : gv_Inv G n T 1000) (h' : gv_Inv G n T' 1000) :
    ∀ k a b c s, a < n → b < n → c < n → s < 2 → 100 * a + 10 * b + c < k → (T (100 * a + 10 * b + c) s ↔ T' (100 * a + 10 * b + c) s) := by
  intro k
  induction k with
  | zero => intro a b c s _ _ _ _ hlt; exact absurd hlt (Nat.not_lt_zero _)
  | succ k ih =>
    intro a b c s ha hb hc hs hlt
    rw [h a b c s (1 - s) ha hb hc (by omega) (by omega), h' a b c s (1 - s) ha hb hc (by omega) (by omega)]
    exact gv_St_iff hg ha hb hc (by omega) (fun x y z hx hy hz hj => ih x y z (1 - s) hx hy hz (by omega) (by omega))
/-! turning over -/
theorem gv_sym {G : Nat → Int32} {T : Nat → Nat → Prop} {n : Nat} (hn : n ≤ 10) (hg : gv_Good G n) (h : gv_Inv G n T 1000) :
    ∀ k a c s t, a + c < k → a < n → c < n → s + t = 1 → T (100 * a + 10 * 0 + c) s → T (100 * c + 10 * 0 + a) t := by
  intro k
  induction k with
  | zero => intro a c s t hlt; exact absurd hlt (Nat.not_lt_zero _)
  | succ k ih =>
    intro a c s t hlt ha hc hs hT
    rw [h c 0 a t s hc (by omega) ha (by omega) (by omega)]
    rcases (h a 0 c s t ha (by omega) hc hs (by omega)).mp hT with ⟨x, hx, z⟩ | ⟨x, hx, z⟩ | ⟨x, hx, z⟩
    · have := hg a s x ha (by omega) hx
      exact Or.inr (Or.inr ⟨x, hx, fun w => z (ih c x s t (by omega) hc (by omega) hs w)⟩)
    · have := hg 0 s x (by omega) (by omega) hx
      omega
    · have := hg c t x hc (by omega) hx
      exact Or.inl ⟨x, hx, fun w => z (ih x a s t (by omega) (by omega) ha hs w)⟩
theorem gv_mir {G : Nat → Int32} {T : Nat → Nat → Prop} {n : Nat} (hn : n ≤ 10) (hg : gv_Good G n) (h : gv_Inv G n T 1000) :
    ∀ k p s t, p < k → p < n → s + t = 1 → ¬ T (100 * p + 10 * 0 + p) s := by
  intro k
  induction k with
  | zero => intro p s t hlt; exact absurd hlt (Nat.not_lt_zero _)
  | succ k ih =>
    intro p s t hlt hp hs hT
    rcases (h p 0 p s t hp (by omega) hp hs (by omega)).mp hT with ⟨x, hx, z⟩ | ⟨x, hx, z⟩ | ⟨x, hx, z⟩
    · have := hg p s x hp (by omega) hx
      exact z ((h x 0 p t s (by omega) (by omega) hp (by omega) (by omega)).mpr (Or.inr (Or.inr ⟨x, hx, ih x s t (by omega) (by omega) hs⟩)))
    · have := hg 0 s x (by omega) (by omega) hx
      omega
    · have := hg p t x hp (by omega) hx
      exact z ((h p 0 x t s hp (by omega) (by omega) (by omega) (by omega)).mpr (Or.inl ⟨x, hx, ih x s t (by omega) (by omega) hs⟩))
/-! the two tables -/
def gv_01 (f : Nat → Int32) : Prop := ∀ j, f j = 0 ∨ f j = 1
def gv_TX (l r : Nat → Int32) (k s : Nat) : Prop := ¬ (if s = 0 then l k else r k) = 0
def gv_TY (w : Nat → Int32) (k s : Nat) : Prop := ¬ w (2 * k + s) = 0
theorem gv_01u {f : Nat → Int32} {k : Nat} {x : Int32} (h : gv_01 f) (hx : x = 0 ∨ x = 1) : gv_01 (upd f k x) := by
  intro j
  by_cases e : j = k
  · subst e; rw [pk_us]; exact hx
  · rw [pk_un e]; exact h j
theorem gv_010 : gv_01 (fun _ => 0) := fun _ => Or.inl rfl
theorem gv_01eq {x y : Int32} (hx : x = 0 ∨ x = 1) (hy : y = 0 ∨ y = 1) (h : ¬ x = 0 ↔ ¬ y = 0) : x = y := by
  rcases hx with rfl | rfl <;> rcases hy with rfl | rfl
  · rfl
  · exact absurd rfl (h.mpr (by decide))
  · exact absurd rfl (h.mp (by decide))
  · rfl
theorem gv_01n {x : Int32} (h : x = 0 ∨ x = 1) (hx : ¬ x = 0) : x = 1 := h.resolve_left hx
/-- what the reference's table holds where the class's holds l and r -/
def gv_Agr (n : Nat) (l r w : Nat → Int32) : Prop :=
  ∀ a b c, a < n → b < n → c < n → w (2 * (100 * a + 10 * b + c)) = l (100 * a + 10 * b + c) ∧ w (2 * (100 * a + 10 * b + c) + 1) = r (100 * a + 10 * b + c)
theorem gv_agr {G l r w : Nat → Int32} {n : Nat} (hn : n ≤ 10) (hg : gv_Good G n) (hl : gv_01 l) (hr : gv_01 r) (hw : gv_01 w) (h : gv_Inv G n (gv_TX l r) 1000) (h' : gv_Inv G n (gv_TY w) 1000) : gv_Agr n l r w := by
  intro a b c ha hb hc
  have h0 := gv_uniq hn hg h h' 1000 a b c 0 ha hb hc (by omega) (by omega)
  have h1 := gv_uniq hn hg h h' 1000 a b c 1 ha hb hc (by omega) (by omega)
  exact ⟨(gv_01eq (hl _) (hw _) h0).symm, (gv_01eq (hr _) (hw _) h1).symm⟩
theorem gv_turn {G l r : Nat → Int32} {n : Nat} (hn : n ≤ 10) (hg : gv_Good G n) (hl : gv_01 l) (hr : gv_01 r) (h : gv_Inv G n (gv_TX l r) 1000) {a c : Nat} (ha : a < n) (hc : c < n) : l (100 * a + 10 * 0 + c) = r (100 * c + 10 * 0 + a) :=
  gv_01eq (hl _) (hr _) ⟨fun z => gv_sym hn hg h 20 a c 0 1 (by omega) ha hc rfl z, fun z => gv_sym hn hg h 20 c a 1 0 (by omega) hc ha rfl z⟩
theorem gv_self {G l r : Nat → Int32} {n : Nat} (hn : n ≤ 10) (hg : gv_Good G n) (h : gv_Inv G n (gv_TX l r) 1000) {p : Nat} (hp : p < n) : l (100 * p + 10 * 0 + p) = 0 ∧ r (100 * p + 10 * 0 + p) = 0 :=
  ⟨Classical.not_not.mp (gv_mir hn hg h 10 p 0 1 (by omega) hp rfl), Classical.not_not.mp (gv_mir hn hg h 10 p 1 0 (by omega) hp rfl)⟩
/-! depths -/
def gv_dm (f : Nat → Int32) (m : Int32) : Nat → Int32
  | 0 => 0
  | x + 1 => if bt m x = true ∧ gv_dm f m x < f x + 1 then f x + 1 else gv_dm f m x
theorem gv_dm_c {f f' : Nat → Int32} {m : Int32} : ∀ k, (∀ x, x < k → f x = f' x) → gv_dm f m k = gv_dm f' m k := by
  intro k
  induction k with
  | zero => intro _; rfl
  | succ k ih =>
    intro h
    show (if bt m k = true ∧ gv_dm f m k < f k + 1 then f k + 1 else gv_dm f m k) = (if bt m k = true ∧ gv_dm f' m k < f' k + 1 then f' k + 1 else gv_dm f' m k)
    rw [ih (fun x hx => h x (by omega)), h k (by omega)]
def gv_Dp (G d : Nat → Int32) (n : Nat) : Prop := ∀ p, p < n → d p = gv_dm d (G (2 * p) ||| G (2 * p + 1)) p
theorem gv_Dp_le {G d : Nat → Int32} {n n' : Nat} (hn : n' ≤ n) (h : gv_Dp G d n) : gv_Dp G d n' := fun p hp => h p (Nat.lt_of_lt_of_le hp hn)
theorem gv_Dp_u {G d d' : Nat → Int32} {n : Nat} (h : gv_Dp G d n) (h' : gv_Dp G d' n) : ∀ k p, p < k → p < n → d p = d' p := by
  intro k
  induction k with
  | zero => intro p hlt; exact absurd hlt (Nat.not_lt_zero _)
  | succ k ih =>
    intro p hlt hp
    rw [h p hp, h' p hp]
    exact gv_dm_c p (fun x hx => ih x (by omega) (by omega))
end
section
/-! the class: sums' indexes, contains, canLeaveLost (a print for each table) -/
theorem gv_sum (a b c : Nat) : ((nI a * 100) + (nI b * 10)) + (nI c * 1) = nI (100 * a + 10 * b + c) := by
  have h : ((nI a * nI 100) + (nI b * nI 10)) + (nI c * nI 1) = nI (100 * a + 10 * b + c) := by
    rw [pk_mul, pk_mul, pk_mul, nI_add, nI_add]
    exact congrArg nI (by omega)
  exact h
theorem gv_ix (rest x st : Nat) : nI rest + nI x * nI st = nI (rest + x * st) := by rw [pk_mul, nI_add]
theorem gv_vb0 : vp_nar .boolean 0 = 0 := by decide
theorem gv_vb1 : vp_nar .boolean 1 = 1 := by decide
theorem gv_vb {z : Int32} (h : z = 0 ∨ z = 1) : vp_nar .boolean z = z := by
  rcases h with rfl | rfl
  · exact gv_vb0
  · exact gv_vb1
theorem gv_nb {z : Int32} (h : z = 0 ∨ z = 1) : narrow .boolean (.int z) = .int z := by
  rcases h with rfl | rfl
  · rfl
  · rfl
theorem gv_xcont {post : Int32 → Prop} {m : Int32} {x : Nat} (hx : x < 32) (h1 : bt m x = true → post 1) (h0 : ¬ bt m x = true → post 0) : wpX_contains post m (nI x) :=
  ek_if (gv_bit0 m hx) h0 (fun z => h1 (Classical.not_not.mp z))
theorem gv_xcr_l {post : Int32 → Prop} {n rest st : Nat} {m : Int32} {L R D l r : Nat → Int32} (hn : n ≤ 10) (hb : ∀ x, bt m x = true → rest + x * st < 1000)
    (hp : ∀ y : Int32, (y = 0 ∨ y = 1) → (¬ y = 0 ↔ ∃ x, x < n ∧ bt m x = true ∧ r (rest + x * st) = 0) → post y) :
    ∀ d i, i + d = n → (∀ x, x < i → ¬ (bt m x = true ∧ r (rest + x * st) = 0)) → wX_canLeaveLost__rightWins_3 post m (nI rest) (nI st) (nI n) L R D l r (d + 1) (nI i) := by
  intro d
  induction d with
  | zero =>
    intro i hi hx
    exact br_t (nI_le (by omega) (by omega)) (hp 0 (Or.inl rfl) ⟨fun w => absurd rfl w, fun ⟨x, hx1, hx2⟩ => absurd hx2 (hx x (by omega))⟩)
  | succ d ih =>
    intro i hi hx
    have e := gv_ix rest i st
    refine br_f (nI_ge (by omega) (by omega)) (gv_xcont (by omega) (fun hb1 => br_f (by decide) ?_) (fun hb0 => br_t rfl (nm_r (nI_1 i) (ih (i + 1) (by omega) (lt_s hx (fun w => hb0 w.1))))))
    have hlt := hb i hb1
    rw [e, nI_clamp (by omega)]
    refine ⟨vp_in_nI hlt (by omega), ?_⟩
    by_cases z : r (rest + i * st) = 0
    · exact br_t z (hp 1 (Or.inr rfl) ⟨fun _ => ⟨i, by omega, hb1, z⟩, fun _ => by decide⟩)
    · exact br_f z (nm_r (nI_1 i) (ih (i + 1) (by omega) (lt_s hx (fun w => z w.2))))
theorem gv_xcr {post : Int32 → Prop} {n rest st : Nat} {m : Int32} {L R D l r : Nat → Int32} (hn : n ≤ 10) (hb : ∀ x, bt m x = true → rest + x * st < 1000)
    (hp : ∀ y : Int32, (y = 0 ∨ y = 1) → (¬ y = 0 ↔ ∃ x, x < n ∧ bt m x = true ∧ r (rest + x * st) = 0) → post y) :
    wpX_canLeaveLost__rightWins post (nI n, L, R, D, l, r) m (nI rest) (nI st) :=
  ⟨n + 1, gv_xcr_l hn hb hp n 0 (by omega) (fun x h => absurd h (Nat.not_lt_zero x))⟩
theorem gv_xcl_l {post : Int32 → Prop} {n rest st : Nat} {m : Int32} {L R D l r : Nat → Int32} (hn : n ≤ 10) (hb : ∀ x, bt m x = true → rest + x * st < 1000)
    (hp : ∀ y : Int32, (y = 0 ∨ y = 1) → (¬ y = 0 ↔ ∃ x, x < n ∧ bt m x = true ∧ l (rest + x * st) = 0) → post y) :
    ∀ d i, i + d = n → (∀ x, x < i → ¬ (bt m x = true ∧ l (rest + x * st) = 0)) → wX_canLeaveLost__leftWins_3 post m (nI rest) (nI st) (nI n) L R D l r (d + 1) (nI i) := by
  intro d
  induction d with
  | zero =>
    intro i hi hx
    exact br_t (nI_le (by omega) (by omega)) (hp 0 (Or.inl rfl) ⟨fun w => absurd rfl w, fun ⟨x, hx1, hx2⟩ => absurd hx2 (hx x (by omega))⟩)
  | succ d ih =>
    intro i hi hx
    have e := gv_ix rest i st
    refine br_f (nI_ge (by omega) (by omega)) (gv_xcont (by omega) (fun hb1 => br_f (by decide) ?_) (fun hb0 => br_t rfl (nm_r (nI_1 i) (ih (i + 1) (by omega) (lt_s hx (fun w => hb0 w.1))))))
    have hlt := hb i hb1
    rw [e, nI_clamp (by omega)]
    refine ⟨vp_in_nI hlt (by omega), ?_⟩
    by_cases z : l (rest + i * st) = 0
    · exact br_t z (hp 1 (Or.inr rfl) ⟨fun _ => ⟨i, by omega, hb1, z⟩, fun _ => by decide⟩)
    · exact br_f z (nm_r (nI_1 i) (ih (i + 1) (by omega) (lt_s hx (fun w => z w.2))))
theorem gv_xcl {post : Int32 → Prop} {n rest st : Nat} {m : Int32} {L R D l r : Nat → Int32} (hn : n ≤ 10) (hb : ∀ x, bt m x = true → rest + x * st < 1000)
    (hp : ∀ y : Int32, (y = 0 ∨ y = 1) → (¬ y = 0 ↔ ∃ x, x < n ∧ bt m x = true ∧ l (rest + x * st) = 0) → post y) :
    wpX_canLeaveLost__leftWins post (nI n, L, R, D, l, r) m (nI rest) (nI st) :=
  ⟨n + 1, gv_xcl_l hn hb hp n 0 (by omega) (fun x h => absurd h (Nat.not_lt_zero x))⟩
theorem gv_ex {m m' : Int32} {f : Nat → Int32} {n p st rest : Nat} {T : Nat → Prop} (hm : m = m') (hx : ∀ x, bt m' x = true → x < p) (hp : p ≤ n) (hT : ∀ x, x < p → (T x ↔ ¬ f (rest + x * st) = 0)) :
    (∃ x, x < n ∧ bt m x = true ∧ f (rest + x * st) = 0) ↔ (∃ x, bt m' x = true ∧ ¬ T x) := by
  subst hm
  constructor
  · intro ⟨x, _, h2, h3⟩
    exact ⟨x, h2, fun w => (hT x (hx x h2)).mp w h3⟩
  · intro ⟨x, h2, h3⟩
    have h4 := hx x h2
    exact ⟨x, by omega, h2, Classical.not_not.mp (fun w => h3 ((hT x h4).mpr w))⟩
/-- one of three found -/
theorem gv_or3a {y : Int32} {P A B C : Prop} (hv : ¬ y = 0 ↔ P) (e : P ↔ A) (hy : ¬ y = 0) : ¬ (1 : Int32) = 0 ↔ A ∨ B ∨ C := ⟨fun _ => Or.inl (e.mp (hv.mp hy)), fun _ => by decide⟩
theorem gv_or3b {y : Int32} {P A B C : Prop} (hv : ¬ y = 0 ↔ P) (e : P ↔ B) (hy : ¬ y = 0) : ¬ (1 : Int32) = 0 ↔ A ∨ B ∨ C := ⟨fun _ => Or.inr (Or.inl (e.mp (hv.mp hy))), fun _ => by decide⟩
theorem gv_or3c {y : Int32} {P A B C : Prop} (hv : ¬ y = 0 ↔ P) (e : P ↔ C) (hy : ¬ y = 0) : ¬ (1 : Int32) = 0 ↔ A ∨ B ∨ C := ⟨fun _ => Or.inr (Or.inr (e.mp (hv.mp hy))), fun _ => by decide⟩
theorem gv_or3n {x y z : Int32} {P Q R A B C : Prop} (h1 : ¬ x = 0 ↔ P) (e1 : P ↔ A) (h2 : ¬ y = 0 ↔ Q) (e2 : Q ↔ B) (h3 : ¬ z = 0 ↔ R) (e3 : R ↔ C) (hx : x = 0) (hy : y = 0) (hz : z = 0) : ¬ (0 : Int32) = 0 ↔ A ∨ B ∨ C :=
  ⟨fun w => absurd rfl w, fun w => by
    rcases w with w | w | w
    · exact absurd hx (h1.mpr (e1.mpr w))
    · exact absurd hy (h2.mpr (e2.mpr w))
    · exact absurd hz (h3.mpr (e3.mpr w))⟩
theorem gv_TXu {l r : Nat → Int32} {k j t : Nat} {x y : Int32} (h : j < k) : gv_TX (upd l k x) (upd r k y) j t ↔ gv_TX l r j t := by
  unfold gv_TX
  rw [pk_un (by omega), pk_un (by omega)]
section
variable {post : SX → Prop} {n a b c : Nat} {G L R D l r : Nat → Int32} {z : Int32}
theorem gv_x105 (hn : n ≤ 10) (hg : gv_Good G n) (hL : ∀ p, p < n → L p = G (2 * p)) (hR : ∀ p, p < n → R p = G (2 * p + 1)) (ha : a < n) (hb : b < n) (hc : c < n) (hl : gv_01 l) (hr : gv_01 r)
    (hI : gv_Inv G n (gv_TX l r) (100 * a + 10 * b + c)) (hz : z = 0 ∨ z = 1) (hv : ¬ z = 0 ↔ gv_St G (gv_TX l r) a b c 0 1)
    (hp : ∀ l' r', gv_01 l' → gv_01 r' → gv_Inv G n (gv_TX l' r') (100 * a + 10 * b + c + 1) → post (nI n, L, R, D, l', r')) :
    wX_decideSum_105 post (nI a) (nI b) (nI c) (nI (100 * a + 10 * b + c)) (nI (100 * 0 + 10 * b + c)) (nI (100 * a + 10 * 0 + c)) (nI (100 * a + 10 * b + 0)) z (nI (100 * a + 10 * b + c)) (nI n) L R D l r := by
  have F : ∀ y : Int32, (y = 0 ∨ y = 1) → (¬ y = 0 ↔ gv_St G (gv_TX l r) a b c 1 0) → post (nI n, L, R, D, upd l (100 * a + 10 * b + c) z, upd r (100 * a + 10 * b + c) y) := by
    intro y hy hw
    refine hp _ _ (gv_01u hl hz) (gv_01u hr hy) (gv_Inv_step hn hg ha hb hc rfl (fun j t h _ => gv_TXu h) ?_ hI)
    intro s t hs
    obtain ⟨rfl, rfl⟩ | ⟨rfl, rfl⟩ : (s = 0 ∧ t = 1) ∨ (s = 1 ∧ t = 0) := by omega
    · show ¬ upd l (100 * a + 10 * b + c) z (100 * a + 10 * b + c) = 0 ↔ _
      rw [pk_us]
      exact hv
    · show ¬ upd r (100 * a + 10 * b + c) y (100 * a + 10 * b + c) = 0 ↔ _
      rw [pk_us]
      exact hw
  have ea : (nI a).toNatClampNeg = a := nI_clamp (by omega)
  have eb : (nI b).toNatClampNeg = b := nI_clamp (by omega)
  have ec : (nI c).toNatClampNeg = c := nI_clamp (by omega)
  have ek : (nI (100 * a + 10 * b + c)).toNatClampNeg = 100 * a + 10 * b + c := nI_clamp (by omega)
  have vk : vp_in (nI (100 * a + 10 * b + c)) 1000 := vp_in_nI (by omega) (by omega)
  have ga : ∀ x, bt (R a) x = true → x < a := fun x hx => hg a 1 x ha (by omega) (by rw [← hR a ha]; exact hx)
  have gb : ∀ x, bt (R b) x = true → x < b := fun x hx => hg b 1 x hb (by omega) (by rw [← hR b hb]; exact hx)
  have gc : ∀ x, bt (L c) x = true → x < c := fun x hx => hg c 0 x hc (by omega) (by rw [Nat.add_zero, ← hL c hc]; exact hx)
  have E1 : (∃ x, x < n ∧ bt (R a) x = true ∧ upd l (100 * a + 10 * b + c) z (100 * 0 + 10 * b + c + x * 100) = 0) ↔ (∃ x, bt (G (2 * a + 1)) x = true ∧ ¬ gv_TX l r (100 * x + 10 * b + c) 0) := by
    refine gv_ex (p := a) (hR a ha) (fun x hx => hg a 1 x ha (by omega) hx) (by omega) (fun x hx => ?_)
    rw [pk_un (by omega), show 100 * 0 + 10 * b + c + x * 100 = 100 * x + 10 * b + c by omega]
    exact Iff.rfl
  have E2 : (∃ x, x < n ∧ bt (R b) x = true ∧ upd l (100 * a + 10 * b + c) z (100 * a + 10 * 0 + c + x * 10) = 0) ↔ (∃ x, bt (G (2 * b + 1)) x = true ∧ ¬ gv_TX l r (100 * a + 10 * x + c) 0) := by
    refine gv_ex (p := b) (hR b hb) (fun x hx => hg b 1 x hb (by omega) hx) (by omega) (fun x hx => ?_)
    rw [pk_un (by omega), show 100 * a + 10 * 0 + c + x * 10 = 100 * a + 10 * x + c by omega]
    exact Iff.rfl
  have E3 : (∃ x, x < n ∧ bt (L c) x = true ∧ upd l (100 * a + 10 * b + c) z (100 * a + 10 * b + 0 + x * 1) = 0) ↔ (∃ x, bt (G (2 * c + 0)) x = true ∧ ¬ gv_TX l r (100 * a + 10 * b + x) 0) := by
    refine gv_ex (p := c) (hL c hc) (fun x hx => hg c 0 x hc (by omega) hx) (by omega) (fun x hx => ?_)
    rw [pk_un (by omega), show 100 * a + 10 * b + 0 + x * 1 = 100 * a + 10 * b + x by omega]
    exact Iff.rfl
  unfold wX_decideSum_105
  rw [ek, ea, eb, ec, gv_vb hz, gv_vb0, gv_vb1]
  refine ⟨vk, nm_e ⟨vp_in_nI (by omega) (by omega), gv_xcl (st := 100) hn (fun x hx => by have := ga x hx; omega) (fun y1 hy1 hv1 => br_c (fun z1 => ?_) (fun z1 => ⟨vk, nm_e (F 1 (Or.inr rfl) (gv_or3a hv1 E1 z1))⟩))⟩⟩
  refine ⟨vp_in_nI (by omega) (by omega), gv_xcl (st := 10) hn (fun x hx => by have := gb x hx; omega) (fun y2 hy2 hv2 => br_c (fun z2 => ?_) (fun z2 => ⟨vk, nm_e (F 1 (Or.inr rfl) (gv_or3b hv2 E2 z2))⟩))⟩
  refine ⟨vp_in_nI (by omega) (by omega), gv_xcl (st := 1) hn (fun x hx => by have := gc x hx; omega) (fun y3 hy3 hv3 => br_c (fun z3 => ?_) (fun z3 => ⟨vk, nm_e (F 1 (Or.inr rfl) (gv_or3c hv3 E3 z3))⟩))⟩
  exact ⟨vk, nm_e (F 0 (Or.inl rfl) (gv_or3n hv1 E1 hv2 E2 hv3 E3 z1 z2 z3))⟩
theorem gv_xds (hn : n ≤ 10) (hg : gv_Good G n) (hL : ∀ p, p < n → L p = G (2 * p)) (hR : ∀ p, p < n → R p = G (2 * p + 1)) (ha : a < n) (hb : b < n) (hc : c < n) (hl : gv_01 l) (hr : gv_01 r)
    (hI : gv_Inv G n (gv_TX l r) (100 * a + 10 * b + c))
    (hp : ∀ l' r', gv_01 l' → gv_01 r' → gv_Inv G n (gv_TX l' r') (100 * a + 10 * b + c + 1) → post (nI n, L, R, D, l', r')) :
    wpX_decideSum post (nI n, L, R, D, l, r) (nI a) (nI b) (nI c) := by
  have F : ∀ z : Int32, (z = 0 ∨ z = 1) → (¬ z = 0 ↔ gv_St G (gv_TX l r) a b c 0 1) → wX_decideSum_105 post (nI a) (nI b) (nI c) (nI (100 * a + 10 * b + c)) (nI (100 * 0 + 10 * b + c)) (nI (100 * a + 10 * 0 + c)) (nI (100 * a + 10 * b + 0)) z (nI (100 * a + 10 * b + c)) (nI n) L R D l r :=
    fun z hz hv => gv_x105 hn hg hL hR ha hb hc hl hr hI hz hv hp
  have ea : (nI a).toNatClampNeg = a := nI_clamp (by omega)
  have eb : (nI b).toNatClampNeg = b := nI_clamp (by omega)
  have ec : (nI c).toNatClampNeg = c := nI_clamp (by omega)
  have ga : ∀ x, bt (L a) x = true → x < a := fun x hx => hg a 0 x ha (by omega) (by rw [Nat.add_zero, ← hL a ha]; exact hx)
  have gb : ∀ x, bt (L b) x = true → x < b := fun x hx => hg b 0 x hb (by omega) (by rw [Nat.add_zero, ← hL b hb]; exact hx)
  have gc : ∀ x, bt (R c) x = true → x < c := fun x hx => hg c 1 x hc (by omega) (by rw [← hR c hc]; exact hx)
  have E1 : (∃ x, x < n ∧ bt (L a) x = true ∧ r (100 * 0 + 10 * b + c + x * 100) = 0) ↔ (∃ x, bt (G (2 * a + 0)) x = true ∧ ¬ gv_TX l r (100 * x + 10 * b + c) 1) := by
    refine gv_ex (p := a) (hL a ha) (fun x hx => hg a 0 x ha (by omega) hx) (by omega) (fun x hx => ?_)
    rw [show 100 * 0 + 10 * b + c + x * 100 = 100 * x + 10 * b + c by omega]
    exact Iff.rfl
  have E2 : (∃ x, x < n ∧ bt (L b) x = true ∧ r (100 * a + 10 * 0 + c + x * 10) = 0) ↔ (∃ x, bt (G (2 * b + 0)) x = true ∧ ¬ gv_TX l r (100 * a + 10 * x + c) 1) := by
    refine gv_ex (p := b) (hL b hb) (fun x hx => hg b 0 x hb (by omega) hx) (by omega) (fun x hx => ?_)
    rw [show 100 * a + 10 * 0 + c + x * 10 = 100 * a + 10 * x + c by omega]
    exact Iff.rfl
  have E3 : (∃ x, x < n ∧ bt (R c) x = true ∧ r (100 * a + 10 * b + 0 + x * 1) = 0) ↔ (∃ x, bt (G (2 * c + 1)) x = true ∧ ¬ gv_TX l r (100 * a + 10 * b + x) 1) := by
    refine gv_ex (p := c) (hR c hc) (fun x hx => hg c 1 x hc (by omega) hx) (by omega) (fun x hx => ?_)
    rw [show 100 * a + 10 * b + 0 + x * 1 = 100 * a + 10 * b + x by omega]
    exact Iff.rfl
  have s1 := gv_sum a b c
  have s2 := gv_sum 0 b c
  have s3 := gv_sum a 0 c
  have s4 := gv_sum a b 0
  rw [nI_0] at s2 s3 s4
  unfold wpX_decideSum
  simp only [wpX_sumIndex]
  rw [s1, s2, s3, s4, ea, eb, ec]
  refine ⟨vp_in_nI (by omega) (by omega), gv_xcr (st := 100) hn (fun x hx => by have := ga x hx; omega) (fun y1 hy1 hv1 => br_c (fun z1 => ?_) (fun z1 => F 1 (Or.inr rfl) (gv_or3a hv1 E1 z1)))⟩
  refine ⟨vp_in_nI (by omega) (by omega), gv_xcr (st := 10) hn (fun x hx => by have := gb x hx; omega) (fun y2 hy2 hv2 => br_c (fun z2 => ?_) (fun z2 => F 1 (Or.inr rfl) (gv_or3b hv2 E2 z2)))⟩
  refine ⟨vp_in_nI (by omega) (by omega), gv_xcr (st := 1) hn (fun x hx => by have := gc x hx; omega) (fun y3 hy3 hv3 => br_c (fun z3 => ?_) (fun z3 => F 1 (Or.inr rfl) (gv_or3c hv3 E3 z3)))⟩
  exact F 0 (Or.inl rfl) (gv_or3n hv1 E1 hv2 E2 hv3 E3 z1 z2 z3)
/-! the loops of decideSums -/
theorem gv_x22 {J2 J12 : Int32 → Int32 → (Nat → Int32) → (Nat → Int32) → (Nat → Int32) → (Nat → Int32) → (Nat → Int32) → Prop} (hn : n ≤ 10) (hg : gv_Good G n) (hL : ∀ p, p < n → L p = G (2 * p)) (hR : ∀ p, p < n → R p = G (2 * p + 1)) (ha : a < n) (hb : b < n)
    (hJ : ∀ l' r', gv_01 l' → gv_01 r' → gv_Inv G n (gv_TX l' r') (100 * a + 10 * b + n) → J12 (nI (b + 1)) (nI n) L R D l' r') :
    ∀ d i l r, i + d = n → gv_01 l → gv_01 r → gv_Inv G n (gv_TX l r) (100 * a + 10 * b + i) → wX_decideSums_22 post J2 J12 (nI a) (nI b) (d + 1) (nI i) (nI n) L R D l r := by
  intro d
  induction d with
  | zero =>
    intro i l r hi hl hr hI
    obtain rfl : i = n := by omega
    exact br_t (nI_le (by omega) (by omega)) (nm_r (nI_1 b) (hJ l r hl hr hI))
  | succ d ih =>
    intro i l r hi hl hr hI
    exact br_f (nI_ge (by omega) (by omega)) (gv_xds hn hg hL hR ha hb (by omega) hl hr hI (fun l' r' h1 h2 h3 => nm_r (nI_1 i) (ih (i + 1) l' r' (by omega) h1 h2 h3)))
theorem gv_x12 {J2 : Int32 → Int32 → (Nat → Int32) → (Nat → Int32) → (Nat → Int32) → (Nat → Int32) → (Nat → Int32) → Prop} (hn : n ≤ 10) (hg : gv_Good G n) (hL : ∀ p, p < n → L p = G (2 * p)) (hR : ∀ p, p < n → R p = G (2 * p + 1)) (ha : a < n)
    (hJ : ∀ l' r', gv_01 l' → gv_01 r' → gv_Inv G n (gv_TX l' r') (100 * a + 10 * n) → J2 (nI (a + 1)) (nI n) L R D l' r') :
    ∀ d i l r, i + d = n → gv_01 l → gv_01 r → gv_Inv G n (gv_TX l r) (100 * a + 10 * i) → wX_decideSums_12 post J2 (nI a) (d + 1) (nI i) (nI n) L R D l r := by
  intro d
  induction d with
  | zero =>
    intro i l r hi hl hr hI
    obtain rfl : i = n := by omega
    exact br_t (nI_le (by omega) (by omega)) (nm_r (nI_1 a) (hJ l r hl hr hI))
  | succ d ih =>
    intro i l r hi hl hr hI
    refine br_f (nI_ge (by omega) (by omega)) ⟨n + 1, gv_x22 hn hg hL hR ha (by omega) (fun l' r' h1 h2 h3 => ?_) n 0 l r (by omega) hl hr hI⟩
    exact ih (i + 1) l' r' (by omega) h1 h2 (gv_Inv_skip (fun x y w hx hy hw h => by omega) h3)
theorem gv_x2 (hn : n ≤ 10) (hg : gv_Good G n) (hL : ∀ p, p < n → L p = G (2 * p)) (hR : ∀ p, p < n → R p = G (2 * p + 1))
    (hJ : ∀ l' r', gv_01 l' → gv_01 r' → gv_Inv G n (gv_TX l' r') 1000 → post (nI n, L, R, D, l', r')) :
    ∀ d i l r, i + d = n → gv_01 l → gv_01 r → gv_Inv G n (gv_TX l r) (100 * i) → wX_decideSums_2 post (d + 1) (nI i) (nI n) L R D l r := by
  intro d
  induction d with
  | zero =>
    intro i l r hi hl hr hI
    obtain rfl : i = n := by omega
    exact br_t (nI_le (by omega) (by omega)) (hJ l r hl hr (gv_Inv_skip (fun x y w hx hy hw h => by omega) hI))
  | succ d ih =>
    intro i l r hi hl hr hI
    refine br_f (nI_ge (by omega) (by omega)) ⟨n + 1, gv_x12 hn hg hL hR (by omega) (fun l' r' h1 h2 h3 => ?_) n 0 l r (by omega) hl hr hI⟩
    exact ih (i + 1) l' r' (by omega) h1 h2 (gv_Inv_skip (fun x y w hx hy hw h => by omega) h3)
theorem gv_xdec (hn : n ≤ 10) (hg : gv_Good G n) (hL : ∀ p, p < n → L p = G (2 * p)) (hR : ∀ p, p < n → R p = G (2 * p + 1)) (hl : gv_01 l) (hr : gv_01 r)
    (hJ : ∀ l' r', gv_01 l' → gv_01 r' → gv_Inv G n (gv_TX l' r') 1000 → post (nI n, L, R, D, l', r')) : wpX_decideSums post (nI n, L, R, D, l, r) :=
  ⟨n + 1, gv_x2 hn hg hL hR hJ n 0 l r (by omega) hl hr gv_Inv_0⟩
end
/-! depthAbove -/
theorem gv_xda_l {post : Int32 → Prop} {n : Nat} {m : Int32} {L R D l r : Nat → Int32} (hn : n ≤ 10) (hp : post (gv_dm D m n)) :
    ∀ d i, i + d = n → wX_depthAbove_4 post m (nI n) L R D l r (d + 1) (gv_dm D m i) (nI i) := by
  intro d
  induction d with
  | zero =>
    intro i hi
    obtain rfl : i = n := by omega
    exact br_t (nI_le (by omega) (by omega)) hp
  | succ d ih =>
    intro i hi
    have h := ih (i + 1) (by omega)
    refine br_f (nI_ge (by omega) (by omega)) (gv_xcont (by omega) (fun hb1 => br_f (by decide) ?_) (fun hb0 => br_t rfl (nm_r (nI_1 i) ?_)))
    · rw [nI_clamp (by omega)]
      refine ⟨vp_in_nI (by omega) (by omega), ?_⟩
      by_cases z : D i + 1 ≤ gv_dm D m i
      · have e : gv_dm D m (i + 1) = gv_dm D m i := if_neg (fun w => absurd z (Int32.not_le.mpr w.2))
        rw [e] at h
        exact br_t z (nm_r (nI_1 i) h)
      · have e : gv_dm D m (i + 1) = D i + 1 := if_pos ⟨hb1, Int32.not_le.mp z⟩
        rw [e] at h
        exact br_f z ⟨vp_in_nI (by omega) (by omega), nm_e (nm_r (nI_1 i) h)⟩
    · have e : gv_dm D m (i + 1) = gv_dm D m i := if_neg (fun w => hb0 w.1)
      rw [e] at h
      exact h
theorem gv_xda {post : Int32 → Prop} {n : Nat} {m : Int32} {L R D l r : Nat → Int32} (hn : n ≤ 10) (hp : post (gv_dm D m n)) : wpX_depthAbove post (nI n, L, R, D, l, r) m :=
  ⟨n + 1, gv_xda_l hn hp n 0 (by omega)⟩
end
section
/-! the reference: cell, canWin, work -/
theorem gv_cellE (a b c s : Nat) : (((200 * nI a) + (20 * nI b)) + (2 * nI c)) + nI s = nI (2 * (100 * a + 10 * b + c) + s) := by
  have h : (((nI 200 * nI a) + (nI 20 * nI b)) + (nI 2 * nI c)) + nI s = nI (2 * (100 * a + 10 * b + c) + s) := by
    rw [pk_mul, pk_mul, pk_mul, nI_add, nI_add, nI_add]
    exact congrArg nI (by omega)
  exact h
theorem gv_dbl (a s : Nat) : (2 * nI a) + nI s = nI (2 * a + s) := by
  have h : (nI 2 * nI a) + nI s = nI (2 * a + s) := by rw [pk_mul, nI_add]
  exact h
theorem gv_dbl0 (a : Nat) : 2 * nI a = nI (2 * a) := by
  have h : nI 2 * nI a = nI (2 * a) := by rw [pk_mul]
  exact h
theorem gv_dblt {s t : Nat} (a : Nat) (h : s + t = 1) : ((2 * nI a) + 1) - nI s = nI (2 * a + t) := by
  have h2 : ((nI 2 * nI a) + nI 1) - nI s = nI (2 * a + t) := by
    rw [pk_mul, nI_add, pk_sub (by omega)]
    exact congrArg nI (by omega)
  exact h2
theorem gv_oth {s t : Nat} (h : s + t = 1) : (1 : Int32) - nI s = nI t := by
  have h2 : nI 1 - nI s = nI t := by
    rw [pk_sub (by omega)]
    exact congrArg nI (by omega)
  exact h2
theorem gv_ycell {post : Int32 → Prop} {z : Int32} {g w d : Nat → Int32} {a b c s : Nat} (h : post (nI (2 * (100 * a + 10 * b + c) + s))) : wpY_cell post (z, g, w, d) (nI a) (nI b) (nI c) (nI s) := by
  unfold wpY_cell
  dsimp only
  rw [gv_cellE]
  exact h
/-- what canWin asks of the option x -/
def gv_C (w : Nat → Int32) (m5 m6 m7 : Int32) (a b c t x : Nat) : Prop :=
  (bt m5 x = true ∧ w (2 * (100 * x + 10 * b + c) + t) = 0) ∨ (bt m6 x = true ∧ w (2 * (100 * a + 10 * x + c) + t) = 0) ∨ (bt m7 x = true ∧ w (2 * (100 * a + 10 * b + x) + t) = 0)
section
variable {post : Int32 → Prop} {n a b c s t i : Nat} {m5 m6 m7 : Int32} {G w dd : Nat → Int32}
theorem gv_y121 {J : Int32 → Int32 → Prop} (ha : a < 10) (hb : b < 10) (hi : i < 10) (hs : s + t = 1)
    (h5 : ¬ (bt m5 i = true ∧ w (2 * (100 * i + 10 * b + c) + t) = 0)) (h6 : ¬ (bt m6 i = true ∧ w (2 * (100 * a + 10 * i + c) + t) = 0))
    (h1 : gv_C w m5 m6 m7 a b c t i → J 1 (nI (i + 1))) (h0 : ¬ gv_C w m5 m6 m7 a b c t i → J 0 (nI (i + 1))) :
    wY_canWin_121 post J (nI a) (nI b) (nI c) (nI s) m5 m6 m7 (nI i) (nI n) G w dd := by
  have e1 := gv_oth hs
  have ei := nI_1 i
  have ek : (nI (2 * (100 * a + 10 * b + i) + t)).toNatClampNeg = 2 * (100 * a + 10 * b + i) + t := nI_clamp (by omega)
  unfold wY_canWin_121
  rw [e1]
  refine ek_if (gv_bit1 m7 (by omega)) (fun hb7 => gv_ycell ⟨vp_in_nI (by omega) (by omega), ?_⟩) (fun nb7 => nm_r ei (h0 ?_))
  · rw [ek]
    refine br_c (fun z => nm_r ei (h1 (Or.inr (Or.inr ⟨hb7, z⟩)))) (fun z => nm_r ei (h0 ?_))
    rintro (q | q | q)
    · exact h5 q
    · exact h6 q
    · exact z q.2
  · rintro (q | q | q)
    · exact h5 q
    · exact h6 q
    · exact nb7 q.1
theorem gv_y90 {J : Int32 → Int32 → Prop} (ha : a < 10) (hb : b < 10) (hc : c < 10) (hi : i < 10) (hs : s + t = 1)
    (h5 : ¬ (bt m5 i = true ∧ w (2 * (100 * i + 10 * b + c) + t) = 0))
    (h1 : gv_C w m5 m6 m7 a b c t i → J 1 (nI (i + 1))) (h0 : ¬ gv_C w m5 m6 m7 a b c t i → J 0 (nI (i + 1))) :
    wY_canWin_90 post J (nI a) (nI b) (nI c) (nI s) m5 m6 m7 (nI i) (nI n) G w dd := by
  have e1 := gv_oth hs
  have ei := nI_1 i
  have ek : (nI (2 * (100 * a + 10 * i + c) + t)).toNatClampNeg = 2 * (100 * a + 10 * i + c) + t := nI_clamp (by omega)
  unfold wY_canWin_90
  rw [e1]
  refine ek_if (gv_bit1 m6 (by omega)) (fun hb6 => gv_ycell ⟨vp_in_nI (by omega) (by omega), ?_⟩) (fun nb6 => gv_y121 ha hb hi hs h5 (fun q => nb6 q.1) h1 h0)
  rw [ek]
  exact br_c (fun z => nm_r ei (h1 (Or.inr (Or.inl ⟨hb6, z⟩)))) (fun z => gv_y121 ha hb hi hs h5 (fun q => z q.2) h1 h0)
theorem gv_y47 (ha : a < 10) (hb : b < 10) (hc : c < 10) (hs : s + t = 1)
    (hp : ∀ y : Int32, (y = 0 ∨ y = 1) → (¬ y = 0 ↔ ∃ x, x < 10 ∧ gv_C w m5 m6 m7 a b c t x) → post y) :
    ∀ d i y, i + d = 10 → (y = 0 ∨ y = 1) → (¬ y = 0 ↔ ∃ x, x < i ∧ gv_C w m5 m6 m7 a b c t x) → wY_canWin_47 post (nI a) (nI b) (nI c) (nI s) m5 m6 m7 (nI n) G w dd (d + 1) y (nI i) := by
  intro d
  induction d with
  | zero =>
    intro i y hi hy hv
    obtain rfl : i = 10 := by omega
    exact br_t (nI_le (a := 10) (b := 10) (by omega) (by omega)) ⟨gv_nb hy, hp y hy hv⟩
  | succ d ih =>
    intro i y hi hy hv
    have e1 := gv_oth hs
    have ei := nI_1 i
    have ek : (nI (2 * (100 * i + 10 * b + c) + t)).toNatClampNeg = 2 * (100 * i + 10 * b + c) + t := nI_clamp (by omega)
    refine br_f (nI_ge (b := 10) (by omega) (by omega)) (br_c (fun z => ?_) (fun z => nm_r ei ?_))
    · have h1 : gv_C w m5 m6 m7 a b c t i → wY_canWin_47 post (nI a) (nI b) (nI c) (nI s) m5 m6 m7 (nI n) G w dd (d + 1) 1 (nI (i + 1)) :=
        fun q => ih (i + 1) 1 (by omega) (Or.inr rfl) ⟨fun _ => ⟨i, by omega, q⟩, fun _ => by decide⟩
      have h0 : ¬ gv_C w m5 m6 m7 a b c t i → wY_canWin_47 post (nI a) (nI b) (nI c) (nI s) m5 m6 m7 (nI n) G w dd (d + 1) 0 (nI (i + 1)) := by
        intro q
        refine ih (i + 1) 0 (by omega) (Or.inl rfl) ⟨fun w => absurd rfl w, fun ⟨x, hx, hq⟩ => ?_⟩
        rcases Nat.lt_or_ge x i with h | h
        · exact absurd z (hv.mpr ⟨x, h, hq⟩)
        · obtain rfl : x = i := by omega
          exact absurd hq q
      rw [e1]
      refine ek_if (gv_bit1 m5 (by omega)) (fun hb5 => gv_ycell ⟨vp_in_nI (by omega) (by omega), ?_⟩) (fun nb5 => gv_y90 ha hb hc (by omega) hs (fun q => nb5 q.1) h1 h0)
      rw [ek]
      exact br_c (fun z => nm_r ei (h1 (Or.inl ⟨hb5, z⟩))) (fun z => gv_y90 ha hb hc (by omega) hs (fun q => z q.2) h1 h0)
    · refine ih (i + 1) 1 (by omega) (Or.inr rfl) ⟨fun _ => ?_, fun _ => by decide⟩
      obtain ⟨x, hx, hq⟩ := hv.mp z
      exact ⟨x, by omega, hq⟩
theorem gv_ycw (hn : n ≤ 10) (hg : gv_Good G n) (ha : a < n) (hb : b < n) (hc : c < n) (hs : s + t = 1)
    (hp : ∀ y : Int32, (y = 0 ∨ y = 1) → (¬ y = 0 ↔ gv_St G (gv_TY w) a b c s t) → post y) : wpY_canWin post (nI n, G, w, dd) (nI a) (nI b) (nI c) (nI s) := by
  unfold wpY_canWin
  dsimp only
  rw [gv_dbl, gv_dbl, gv_dblt c hs, nI_clamp (n := 2 * a + s) (by omega), nI_clamp (n := 2 * b + s) (by omega), nI_clamp (n := 2 * c + t) (by omega)]
  refine ⟨vp_in_nI (by omega) (by omega), nm_e ⟨vp_in_nI (by omega) (by omega), nm_e ⟨vp_in_nI (by omega) (by omega), nm_e ⟨11, ?_⟩⟩⟩⟩
  refine gv_y47 (by omega) (by omega) (by omega) hs (fun y hy hv => hp y hy (hv.trans ?_)) 10 0 0 rfl (Or.inl rfl) ⟨fun z => absurd rfl z, fun ⟨x, hx, _⟩ => absurd hx (Nat.not_lt_zero x)⟩
  constructor
  · rintro ⟨x, hx, q | q | q⟩
    · exact Or.inl ⟨x, q.1, fun z => z q.2⟩
    · exact Or.inr (Or.inl ⟨x, q.1, fun z => z q.2⟩)
    · exact Or.inr (Or.inr ⟨x, q.1, fun z => z q.2⟩)
  · rintro (⟨x, hx, q⟩ | ⟨x, hx, q⟩ | ⟨x, hx, q⟩)
    · have := hg a s x ha (by omega) hx
      exact ⟨x, by omega, Or.inl ⟨hx, Classical.not_not.mp q⟩⟩
    · have := hg b s x hb (by omega) hx
      exact ⟨x, by omega, Or.inr (Or.inl ⟨hx, Classical.not_not.mp q⟩)⟩
    · have := hg c t x hc (by omega) hx
      exact ⟨x, by omega, Or.inr (Or.inr ⟨hx, Classical.not_not.mp q⟩)⟩
end
theorem gv_code {a b c x y z k : Nat} (hk : k = 100 * a + 10 * b + c) (hb : b < 10) (hc : c < 10) (hy : y < 10) (hz : z < 10) (h : k ≤ 100 * x + 10 * y + z) (hne : x = a → y = b → z = c → False) : k + 1 ≤ 100 * x + 10 * y + z := by
  rcases Nat.lt_or_ge k (100 * x + 10 * y + z) with q | q
  · exact q
  · exfalso
    have e : 100 * x + 10 * y + z = 100 * a + 10 * b + c := by omega
    have h1 : x = a := by omega
    have h2 : y = b := by omega
    exact hne h1 h2 (by omega)
section
variable {post : SY → Prop} {n : Nat} {G dd : Nat → Int32}
theorem gv_yw2 (hn : n ≤ 10) (hg : gv_Good G n) (hp : ∀ w', gv_01 w' → gv_Inv G n (gv_TY w') 1000 → post (nI n, G, w', dd)) :
    ∀ d k w, k + d = 1000 → gv_01 w → gv_Inv G n (gv_TY w) k → wY_work_2 post (nI n) (d + 1) (nI k) G w dd := by
  intro d
  induction d with
  | zero =>
    intro k w hk hw hI
    obtain rfl : k = 1000 := by omega
    exact br_t (nI_le (a := 1000) (b := 1000) (by omega) (by omega)) (hp w hw hI)
  | succ d ih =>
    intro k w hk hw hI
    obtain ⟨a, b, c, ek, hb9, hc9, ea, eb, ec⟩ : ∃ a b c, k = 100 * a + 10 * b + c ∧ b < 10 ∧ c < 10 ∧ k / 100 = a ∧ k / 10 % 10 = b ∧ k % 10 = c := ⟨k / 100, k / 10 % 10, k % 10, by omega, by omega, by omega, rfl, rfl, rfl⟩
    have e2 : nI k / 100 = nI a := by
      rw [← ea]
      exact pk_div (d := 100) (by omega) (by omega) (by omega)
    have e3 : nI k / 10 - nI k / 10 / 10 * 10 = nI b := by
      have h : nI k / 10 = nI (k / 10) := pk_div (d := 10) (by omega) (by omega) (by omega)
      rw [h, ← eb]
      exact pk_rem (d := 10) (by omega) (by omega) (by omega)
    have e4 : nI k - nI k / 10 * 10 = nI c := by
      rw [← ec]
      exact pk_rem (d := 10) (by omega) (by omega) (by omega)
    clear ea eb ec
    have ei := nI_1 k
    refine br_f (nI_ge (b := 1000) (by omega) (by omega)) ⟨by decide, nm_r e2 ⟨by decide, by decide, nm_r e3 ⟨by decide, nm_r e4 ?_⟩⟩⟩
    refine pk_le n a (fun h => nm_r ei (ih (k + 1) w (by omega) hw (gv_Inv_skip (fun x y z hx hy hz h' => gv_code ek hb9 hc9 (by omega) (by omega) h' (by omega)) hI))) (fun ha => ?_)
    refine pk_le n b (fun h => nm_r ei (ih (k + 1) w (by omega) hw (gv_Inv_skip (fun x y z hx hy hz h' => gv_code ek hb9 hc9 (by omega) (by omega) h' (by omega)) hI))) (fun hb => ?_)
    refine pk_le n c (fun h => nm_r ei (ih (k + 1) w (by omega) hw (gv_Inv_skip (fun x y z hx hy hz h' => gv_code ek hb9 hc9 (by omega) (by omega) h' (by omega)) hI))) (fun hc => ?_)
    have c0 : (nI (2 * (100 * a + 10 * b + c) + 0)).toNatClampNeg = 2 * k + 0 := by rw [nI_clamp (by omega), ← ek]
    have c1 : (nI (2 * (100 * a + 10 * b + c) + 1)).toNatClampNeg = 2 * k + 1 := by rw [nI_clamp (by omega), ← ek]
    refine gv_ycell (s := 0) (gv_ycw (s := 0) (t := 1) hn hg ha hb hc rfl (fun y0 hy0 hv0 => ⟨vp_in_nI (by omega) (by omega), nm_r (e' := upd w (2 * k + 0) y0) (by rw [c0, gv_vb hy0]) ?_⟩))
    refine gv_ycell (s := 1) (gv_ycw (s := 1) (t := 0) hn hg ha hb hc rfl (fun y1 hy1 hv1 => ⟨vp_in_nI (by omega) (by omega), nm_r (e' := upd (upd w (2 * k + 0) y0) (2 * k + 1) y1) (by rw [c1, gv_vb hy1]) (nm_r ei ?_)⟩))
    refine ih (k + 1) _ (by omega) (gv_01u (gv_01u hw hy0) hy1) (gv_Inv_step hn hg ha hb hc ek (fun j u hj hu => ?_) (fun s t hs => ?_) hI)
    · unfold gv_TY
      rw [pk_un (by omega), pk_un (by omega)]
    · obtain ⟨rfl, rfl⟩ | ⟨rfl, rfl⟩ : (s = 0 ∧ t = 1) ∨ (s = 1 ∧ t = 0) := by omega
      · show ¬ upd (upd w (2 * k + 0) y0) (2 * k + 1) y1 (2 * k + 0) = 0 ↔ _
        rw [pk_un (by omega), pk_us]
        exact hv0
      · show ¬ upd (upd w (2 * k + 0) y0) (2 * k + 1) y1 (2 * k + 1) = 0 ↔ _
        rw [pk_us, hv1]
        refine gv_St_iff hg ha hb hc rfl (fun x y z _ _ _ hj => ?_)
        unfold gv_TY
        rw [pk_un (by omega)]
theorem gv_ywork_0 {w : Nat → Int32} (hn : n ≤ 10) (hg : gv_Good G n) (hw : gv_01 w) (hp : ∀ w', gv_01 w' → gv_Inv G n (gv_TY w') 1000 → post (nI n, G, w', dd)) : wpY_work post (nI n, G, w, dd) :=
  ⟨1001, gv_yw2 hn hg hp 1000 0 w rfl hw gv_Inv_0⟩
end
/-! depth -/
theorem gv_uu {f : Nat → Int32} {k : Nat} {x y : Int32} : upd (upd f k x) k y = upd f k y := by
  funext j
  by_cases e : j = k
  · subst e
    rw [pk_us, pk_us]
  · rw [pk_un e, pk_un e, pk_un e]
section
variable {post : Int32 → SY → Prop} {x1 : Int32} {n : Nat} {G w : Nat → Int32}
theorem gv_y19 {J2 : Int32 → (Nat → Int32) → (Nat → Int32) → (Nat → Int32) → Prop} {fs : Int32} {dd : Nat → Int32} {q : Nat} (hq : q < 10) (hJ : J2 (nI (q + 1)) G w (upd dd q (gv_dm dd (G (2 * q) ||| G (2 * q + 1)) q))) :
    ∀ d i, i + d = q → wY_depth_19 post J2 x1 (nI q) fs (d + 1) (nI i) G w (upd dd q (gv_dm dd (G (2 * q) ||| G (2 * q + 1)) i)) := by
  intro d
  induction d with
  | zero =>
    intro i hi
    obtain rfl : i = q := by omega
    exact br_t (nI_le (by omega) (by omega)) (nm_r (nI_1 i) hJ)
  | succ d ih =>
    intro i hi
    have h := ih (i + 1) (by omega)
    have ei := nI_1 i
    have eq : (nI q).toNatClampNeg = q := nI_clamp (by omega)
    have ej : (nI i).toNatClampNeg = i := nI_clamp (by omega)
    have vq : vp_in (nI q) 10 := vp_in_nI (by omega) (by omega)
    have vi : vp_in (nI i) 10 := vp_in_nI (by omega) (by omega)
    have ne : i ≠ q := by omega
    refine br_f (nI_ge (by omega) (by omega)) ?_
    rw [gv_dbl0, nI_1 (2 * q), nI_clamp (n := 2 * q) (by omega), nI_clamp (n := 2 * q + 1) (by omega)]
    refine ⟨vp_in_nI (by omega) (by omega), vp_in_nI (by omega) (by omega), ek_if (gv_bit1 _ (by omega)) (fun hb => ?_) (fun nb => ?_)⟩
    · unfold wY_depth_56
      rw [eq, ej, pk_us, pk_un ne]
      refine br_f (by decide) ⟨vi, vq, ?_⟩
      by_cases z : dd i + 1 ≤ gv_dm dd (G (2 * q) ||| G (2 * q + 1)) i
      · have e : gv_dm dd (G (2 * q) ||| G (2 * q + 1)) (i + 1) = gv_dm dd (G (2 * q) ||| G (2 * q + 1)) i := if_neg (fun w => absurd z (Int32.not_le.mpr w.2))
        rw [e] at h
        exact br_t z ⟨vq, vq, nm_r gv_uu (nm_r ei h)⟩
      · have e : gv_dm dd (G (2 * q) ||| G (2 * q + 1)) (i + 1) = dd i + 1 := if_pos ⟨hb, Int32.not_le.mp z⟩
        rw [e] at h
        exact br_f z ⟨vi, vq, nm_r gv_uu (nm_r ei h)⟩
    · have e : gv_dm dd (G (2 * q) ||| G (2 * q + 1)) (i + 1) = gv_dm dd (G (2 * q) ||| G (2 * q + 1)) i := if_neg (fun w => nb w.1)
      rw [e] at h
      unfold wY_depth_56
      rw [eq, ej, pk_us, pk_un ne]
      exact br_t rfl ⟨vq, vq, nm_r gv_uu (nm_r ei h)⟩
theorem gv_y2 (hn : n ≤ 10) (hp : ∀ dd', gv_Dp G dd' n → wpY_is (fun r_2 => ((r_2 = 0 → post (-1) (nI n, G, w, dd')) ∧ (¬ r_2 = 0 → (vp_in x1 10 ∧ post (dd' x1.toNatClampNeg) (nI n, G, w, dd'))))) (nI n, G, w, dd') x1) :
    ∀ d q dd, q + d = n → gv_Dp G dd q → wY_depth_2 post x1 (nI n) (d + 1) (nI q) G w dd := by
  intro d
  induction d with
  | zero =>
    intro q dd hq hD
    obtain rfl : q = n := by omega
    exact br_t (nI_le (by omega) (by omega)) (hp dd hD)
  | succ d ih =>
    intro q dd hq hD
    have eq : (nI q).toNatClampNeg = q := nI_clamp (by omega)
    refine br_f (nI_ge (by omega) (by omega)) ⟨vp_in_nI (by omega) (by omega), nm_r (e' := upd dd q (gv_dm dd (G (2 * q) ||| G (2 * q + 1)) 0)) (by rw [eq]; rfl) ⟨q + 1, gv_y19 (by omega) (ih (q + 1) _ (by omega) ?_) q 0 (by omega)⟩⟩
    intro p hp'
    rcases Nat.lt_or_ge p q with h | h
    · rw [pk_un (by omega), hD p h]
      exact gv_dm_c p (fun x hx => (pk_un (by omega)).symm)
    · obtain rfl : p = q := by omega
      rw [pk_us]
      exact gv_dm_c p (fun x hx => (pk_un (by omega)).symm)
theorem gv_ydep {dd : Nat → Int32} (hn : n ≤ 10) (hp : ∀ dd', gv_Dp G dd' n → wpY_is (fun r_2 => ((r_2 = 0 → post (-1) (nI n, G, w, dd')) ∧ (¬ r_2 = 0 → (vp_in x1 10 ∧ post (dd' x1.toNatClampNeg) (nI n, G, w, dd'))))) (nI n, G, w, dd') x1) : wpY_depth post (nI n, G, w, dd) x1 :=
  ⟨n + 1, gv_y2 hn hp n 0 dd (by omega) (fun p h => absurd h (Nat.not_lt_zero p))⟩
end
end
section
/-! where the two meet -/
def gv_R (n : Nat) (L R D l r G w : Nat → Int32) : Prop :=
  1 ≤ n ∧ n ≤ 10 ∧ gv_Good G n ∧ (∀ p, p < n → L p = G (2 * p)) ∧ (∀ p, p < n → R p = G (2 * p + 1)) ∧ gv_01 l ∧ gv_01 r ∧ gv_Inv G n (gv_TX l r) 1000 ∧ gv_Dp G D n ∧ gv_01 w
def gv_Out (n : Nat) (p : Int32) : Prop := p < 0 ∨ nI n ≤ p
theorem gv_cases (p : Int32) {n : Nat} (hn : n ≤ 10) : gv_Out n p ∨ ∃ j, j < n ∧ p = nI j := by
  rcases pk_ix p (n := n) (by omega) with h | h | h
  · exact Or.inl (Or.inl h)
  · exact Or.inl (Or.inr h)
  · exact Or.inr h
theorem gv_side (s : Int32) : (¬ s = 0 ∧ ¬ s = 1) ∨ s = 0 ∨ s = 1 := by
  by_cases h0 : s = 0
  · exact Or.inr (Or.inl h0)
  · by_cases h1 : s = 1
    · exact Or.inr (Or.inr h1)
    · exact Or.inl ⟨h0, h1⟩
section
variable {post : Int32 → Prop} {n : Nat} {L R D l r G w dd : Nat → Int32}
theorem gv_xis1 {j : Nat} (hn : n ≤ 10) (hj : j < n) (h : post 1) : wpX_isThere post (nI n, L, R, D, l, r) (nI j) := br_f (nI_pos (by omega)) (br_f (nI_ge hj (by omega)) h)
theorem gv_xis0 {p : Int32} (hp : gv_Out n p) (h : post 0) : wpX_isThere post (nI n, L, R, D, l, r) p := br_c (fun _ => h) (fun z => br_t (hp.resolve_left z) h)
theorem gv_yis1 {j : Nat} (hn : n ≤ 10) (hj : j < n) (h : post 1) : wpY_is post (nI n, G, w, dd) (nI j) := br_f (nI_pos (by omega)) (br_f (nI_ge hj (by omega)) h)
theorem gv_yis0 {p : Int32} (hp : gv_Out n p) (h : post 0) : wpY_is post (nI n, G, w, dd) p := br_c (fun _ => h) (fun z => br_t (hp.resolve_left z) h)
theorem gv_xsd {s : Int32} (hs : s = 0 ∨ s = 1) (h : post 1) : wpX_isSide post s := br_c (fun _ => h) (fun z => br_t (hs.resolve_left z) h)
theorem gv_xsd0 {s : Int32} (h0 : ¬ s = 0) (h1 : ¬ s = 1) (h : post 0) : wpX_isSide post s := br_f h0 (br_f h1 h)
/-- how the sum with the code k stands -/
def gv_sd (l r : Nat → Int32) (k : Nat) : Int32 := if r k = 0 then (if l k = 0 then 0 else 1) else (if l k = 0 then 2 else 3)
theorem gv_sd0 {l r : Nat → Int32} {k : Nat} (hr : r k = 0) (hl : l k = 0) : gv_sd l r k = 0 := by unfold gv_sd; rw [if_pos hr, if_pos hl]
theorem gv_sd1 {l r : Nat → Int32} {k : Nat} (hr : r k = 0) (hl : ¬ l k = 0) : gv_sd l r k = 1 := by unfold gv_sd; rw [if_pos hr, if_neg hl]
theorem gv_sd2 {l r : Nat → Int32} {k : Nat} (hr : ¬ r k = 0) (hl : l k = 0) : gv_sd l r k = 2 := by unfold gv_sd; rw [if_neg hr, if_pos hl]
theorem gv_sd3 {l r : Nat → Int32} {k : Nat} (hr : ¬ r k = 0) (hl : ¬ l k = 0) : gv_sd l r k = 3 := by unfold gv_sd; rw [if_neg hr, if_neg hl]
theorem gv_xst {a b c : Nat} (hk : 100 * a + 10 * b + c < 1000) (h : post (gv_sd l r (100 * a + 10 * b + c))) : wpX_standing post (nI n, L, R, D, l, r) (nI a) (nI b) (nI c) := by
  have ec : (nI (100 * a + 10 * b + c)).toNatClampNeg = 100 * a + 10 * b + c := nI_clamp (by omega)
  have vk : vp_in (nI (100 * a + 10 * b + c)) 1000 := vp_in_nI hk (by omega)
  unfold wpX_standing
  simp only [wpX_sumIndex]
  rw [gv_sum, ec]
  refine ⟨vk, br_c (fun z => ?_) (fun z => ?_)⟩
  · unfold wX_standing_23
    rw [ec]
    refine ⟨vk, br_c (fun y => ?_) (fun y => ?_)⟩
    · rw [gv_sd0 z y] at h
      exact br_f (by decide) (br_f (by decide) h)
    · rw [gv_sd1 z y] at h
      exact br_f (by decide) (br_t rfl h)
  · unfold wX_standing_23
    rw [ec]
    refine ⟨vk, br_c (fun y => ?_) (fun y => ?_)⟩
    · rw [gv_sd2 z y] at h
      exact br_t rfl (br_f (by decide) h)
    · rw [gv_sd3 z y] at h
      exact br_t rfl (br_t rfl h)
theorem gv_yle {p q : Nat} (hn : n ≤ 10) (hp : p < n) (hq : q < n) (hA : gv_Agr n l r w) (h1 : r (100 * p + 10 * 0 + q) = 0 → post 1) (h0 : ¬ r (100 * p + 10 * 0 + q) = 0 → post 0) : wpY_least post (nI n, G, w, dd) (nI p) (nI q) := by
  unfold wpY_least
  dsimp only
  refine gv_ycell (b := 0) (s := 1) ⟨vp_in_nI (by omega) (by omega), ?_⟩
  rw [nI_clamp (by omega), (hA p 0 q hp (by omega) hq).2]
  exact br_c h1 h0
theorem gv_yst0 {z : Int32} (h : post 0) : wpY_stands post (z, G, w, dd) 1 1 := br_f (by decide) (br_f (by decide) h)
theorem gv_yst1 {z : Int32} (h : post 1) : wpY_stands post (z, G, w, dd) 1 0 := br_f (by decide) (br_t rfl (br_f (by decide) h))
theorem gv_yst2 {z : Int32} (h : post 2) : wpY_stands post (z, G, w, dd) 0 1 := br_t rfl (br_t rfl (br_f (by decide) h))
theorem gv_yst3 {z : Int32} (h : post 3) : wpY_stands post (z, G, w, dd) 0 0 := br_t rfl (br_t rfl (br_t rfl h))
end
section
variable {n : Nat} {L R D l r G w dd : Nat → Int32}
theorem gv_ywork {post : SY → Prop} (h : gv_R n L R D l r G w) (hp : ∀ w', gv_R n L R D l r G w' → gv_Agr n l r w' → post (nI n, G, w', dd)) : wpY_work post (nI n, G, w, dd) := by
  obtain ⟨h1, hn, hg, hL, hR, hl, hr, hI, hD, hw⟩ := h
  exact gv_ywork_0 hn hg hw (fun w' hw' hI' => hp w' ⟨h1, hn, hg, hL, hR, hl, hr, hI, hD, hw'⟩ (gv_agr hn hg hl hr hw' hI hI'))
theorem gv_tn (h : gv_R n L R D l r G w) {a c : Nat} (ha : a < n) (hc : c < n) : l (100 * a + 10 * 0 + c) = r (100 * c + 10 * 0 + a) := by
  obtain ⟨h1, hn, hg, hL, hR, hl, hr, hI, hD, hw⟩ := h
  exact gv_turn hn hg hl hr hI ha hc
theorem gv_ycmp {post : Int32 → SY → Prop} {p q : Nat} (h : gv_R n L R D l r G w) (hp : p < n) (hq : q < n) (hk : ∀ w', gv_R n L R D l r G w' → post (gv_sd l r (100 * p + 10 * 0 + q)) (nI n, G, w', dd)) : wpY_compare post (nI n, G, w, dd) (nI p) (nI q) := by
  have hn := h.2.1
  have ht := gv_tn h hp hq
  unfold wpY_compare
  dsimp only
  refine gv_ywork h (fun w' h' hA => ?_)
  have hk := hk w' h'
  dsimp only
  refine gv_yis1 hn hp (br_f (by decide) (gv_yis1 hn hq (br_f (by decide) ?_)))
  refine gv_yle hn hp hq hA (fun z1 => gv_yle hn hq hp hA (fun z2 => ?_) (fun z2 => ?_)) (fun z1 => gv_yle hn hq hp hA (fun z2 => ?_) (fun z2 => ?_))
  · rw [gv_sd0 z1 (ht.trans z2)] at hk
    exact gv_yst0 hk
  · rw [gv_sd1 z1 (fun z => z2 (ht.symm.trans z))] at hk
    exact gv_yst1 hk
  · rw [gv_sd2 z1 (ht.trans z2)] at hk
    exact gv_yst2 hk
  · rw [gv_sd3 z1 (fun z => z2 (ht.symm.trans z))] at hk
    exact gv_yst3 hk
/-! first and values, in lockstep -/
theorem gv_fst_l {p : Nat} (hp : p < n) (hn : n ≤ 10) (hz : gv_sd l r (100 * p + 10 * 0 + p) = 0) : ∀ d i, i + d = p → ∃ r0 : Int32,
    (∀ post : Int32 → Prop, post r0 → wX_leastEqual_2 post (nI p) (nI n) L R D l r (d + 1) (nI i)) ∧
    (∀ (w dd : Nat → Int32) (post : Int32 → SY → Prop), gv_R n L R D l r G w → (∀ w', gv_R n L R D l r G w' → post r0 (nI n, G, w', dd)) → wY_first_2 post (nI p) (d + 1) (nI i) (nI n) G w dd) := by
  intro d
  induction d with
  | zero =>
    intro i hi
    obtain rfl : i = p := by omega
    refine ⟨nI i, fun post h => br_t (nI_le (by omega) (by omega)) h, fun w dd post h hk => ?_⟩
    refine br_f (nI_ge hp (by omega)) (gv_yis1 hn hp (br_f (by decide) (gv_ycmp h hp hp (fun w' h' => ?_))))
    rw [hz]
    exact br_t rfl (hk w' h')
  | succ d ih =>
    intro i hi
    by_cases z : gv_sd l r (100 * p + 10 * 0 + i) = 0
    · refine ⟨nI i, fun post h => br_f (nI_ge (by omega) (by omega)) (gv_xst (b := 0) (by omega) (br_t z h)), fun w dd post h hk => ?_⟩
      exact br_f (nI_ge (by omega) (by omega)) (gv_yis1 hn hp (br_f (by decide) (gv_ycmp h hp (by omega) (fun w' h' => br_t z (hk w' h')))))
    · obtain ⟨r0, hX, hY⟩ := ih (i + 1) (by omega)
      refine ⟨r0, fun post h => br_f (nI_ge (by omega) (by omega)) (gv_xst (b := 0) (by omega) (br_f z (nm_r (nI_1 i) (hX post h)))), fun w dd post h hk => ?_⟩
      exact br_f (nI_ge (by omega) (by omega)) (gv_yis1 hn hp (br_f (by decide) (gv_ycmp h hp (by omega) (fun w' h' => br_f z (nm_r (nI_1 i) (hY w' dd post h' hk))))))
theorem gv_fst {p : Nat} (h : gv_R n L R D l r G w) (hp : p < n) : ∃ r0 : Int32,
    (∀ post : Int32 → Prop, post r0 → wpX_leastEqual post (nI n, L, R, D, l, r) (nI p)) ∧
    (∀ (w dd : Nat → Int32) (post : Int32 → SY → Prop), gv_R n L R D l r G w → (∀ w', gv_R n L R D l r G w' → post r0 (nI n, G, w', dd)) → wpY_first post (nI n, G, w, dd) (nI p)) := by
  have hz : gv_sd l r (100 * p + 10 * 0 + p) = 0 := by
    obtain ⟨h1, hn, hg, hL, hR, hl, hr, hI, hD, hw⟩ := h
    obtain ⟨z1, z2⟩ := gv_self hn hg hI hp
    exact gv_sd0 z2 z1
  obtain ⟨r0, hX, hY⟩ := gv_fst_l (L := L) (R := R) (D := D) (G := G) hp h.2.1 hz p 0 (by omega)
  exact ⟨r0, fun post h => ⟨p + 1, hX post h⟩, fun w dd post h hk => ⟨p + 1, hY w dd post h hk⟩⟩
theorem gv_val_l (h0 : gv_R n L R D l r G w) : ∀ d i x, i + d = n → ∃ r0 : Int32,
    (∀ post : Int32 → Prop, post r0 → wX_values_4 post (nI n) L R D l r (d + 1) x (nI i)) ∧
    (∀ (w dd : Nat → Int32) (post : Int32 → SY → Prop), gv_R n L R D l r G w → (∀ w', gv_R n L R D l r G w' → post r0 (nI n, G, w', dd)) → wY_values_4 post (d + 1) x (nI i) (nI n) G w dd) := by
  have hn := h0.2.1
  intro d
  induction d with
  | zero =>
    intro i x hi
    exact ⟨x, fun post h => br_t (nI_le (by omega) (by omega)) h, fun w dd post h hk => br_t (nI_le (by omega) (by omega)) (hk w h)⟩
  | succ d ih =>
    intro i x hi
    obtain ⟨q, hX, hY⟩ := gv_fst h0 (p := i) (by omega)
    by_cases z : q = nI i
    · obtain ⟨r0, hX', hY'⟩ := ih (i + 1) (x + 1) (by omega)
      refine ⟨r0, fun post h => br_f (nI_ge (by omega) (by omega)) (hX _ (br_t z (nm_e (nm_r (nI_1 i) (hX' post h))))), fun w dd post h hk => ?_⟩
      exact br_f (nI_ge (by omega) (by omega)) (hY w dd _ h (fun w' h' => br_t z (nm_e (nm_r (nI_1 i) (hY' w' dd post h' hk)))))
    · obtain ⟨r0, hX', hY'⟩ := ih (i + 1) x (by omega)
      refine ⟨r0, fun post h => br_f (nI_ge (by omega) (by omega)) (hX _ (br_f z (nm_r (nI_1 i) (hX' post h)))), fun w dd post h hk => ?_⟩
      exact br_f (nI_ge (by omega) (by omega)) (hY w dd _ h (fun w' h' => br_f z (nm_r (nI_1 i) (hY' w' dd post h' hk))))
/-! above, in lockstep -/
theorem gv_xal {post : Int32 → Prop} {a c : Nat} (hk : 100 * a + 10 * 0 + c < 1000) (h1 : r (100 * a + 10 * 0 + c) = 0 → post 1) (h0 : ¬ r (100 * a + 10 * 0 + c) = 0 → post 0) : wpX_isAtLeast post (nI n, L, R, D, l, r) (nI a) (nI c) := by
  have s := gv_sum a 0 c
  rw [nI_0] at s
  unfold wpX_isAtLeast
  simp only [wpX_sumIndex]
  rw [s, nI_clamp (by omega)]
  exact ⟨vp_in_nI hk (by omega), br_c h1 h0⟩
theorem gv_abv_l {p : Nat} (hn : n ≤ 10) (hp : p < n) : ∀ d i x, i + d = n → ∃ r0 : Int32,
    (∀ post : Int32 → Prop, post r0 → wX_above_14 post (nI p) (nI n) L R D l r (d + 1) x (nI i)) ∧
    (∀ (w dd : Nat → Int32) (post : Int32 → SY → Prop), gv_Agr n l r w → post r0 (nI n, G, w, dd) → wY_above_8 post (nI p) (nI n) G w dd (d + 1) x (nI i)) := by
  intro d
  induction d with
  | zero =>
    intro i x hi
    exact ⟨x, fun post h => br_t (nI_le (by omega) (by omega)) h, fun w dd post hA h => br_t (nI_le (by omega) (by omega)) (gv_yis1 hn hp (br_f (by decide) h))⟩
  | succ d ih =>
    intro i x hi
    by_cases z : r (100 * i + 10 * 0 + p) = 0
    · obtain ⟨r0, hX, hY⟩ := ih (i + 1) (x ||| ((1 : Int32) <<< (nI i &&& 31))) (by omega)
      refine ⟨r0, fun post h => br_f (nI_ge (by omega) (by omega)) (gv_xal (by omega) (fun _ => br_f (by decide) (nm_e (nm_r (nI_1 i) (hX post h)))) (fun y => absurd z y)), fun w dd post hA h => ?_⟩
      exact br_f (nI_ge (by omega) (by omega)) (gv_yis1 hn hp (br_f (by decide) (gv_yle hn (by omega) hp hA (fun _ => br_f (by decide) (nm_e (nm_r (nI_1 i) (hY w dd post hA h)))) (fun y => absurd z y))))
    · obtain ⟨r0, hX, hY⟩ := ih (i + 1) x (by omega)
      refine ⟨r0, fun post h => br_f (nI_ge (by omega) (by omega)) (gv_xal (by omega) (fun y => absurd y z) (fun _ => br_t rfl (nm_r (nI_1 i) (hX post h)))), fun w dd post hA h => ?_⟩
      exact br_f (nI_ge (by omega) (by omega)) (gv_yis1 hn hp (br_f (by decide) (gv_yle hn (by omega) hp hA (fun y => absurd y z) (fun _ => br_t rfl (nm_r (nI_1 i) (hY w dd post hA h))))))
end
end
section
/-! dominated: a move to x is no better for the side s than one to y -/
def gv_NB (l r : Nat → Int32) (x y : Nat) (s : Int32) : Prop :=
  (s = 0 → l (100 * x + 10 * 0 + y) = 0 ∧ (r (100 * x + 10 * 0 + y) = 0 → y < x)) ∧ (¬ s = 0 → r (100 * x + 10 * 0 + y) = 0 ∧ (l (100 * x + 10 * 0 + y) = 0 → y < x))
section
variable {n : Nat} {L R D l r G w dd : Nat → Int32} {m s : Int32}
theorem gv_NBe {x y : Nat} (hl : l (100 * x + 10 * 0 + y) = 0) (hr : r (100 * x + 10 * 0 + y) = 0) : gv_NB l r x y s ↔ y < x := by
  constructor
  · intro q
    by_cases e : s = 0
    · exact (q.1 e).2 hr
    · exact (q.2 e).2 hl
  · intro h
    exact ⟨fun _ => ⟨hl, fun _ => h⟩, fun _ => ⟨hr, fun _ => h⟩⟩
theorem gv_xnb {post : Int32 → Prop} {x y : Nat} (hx : x < 10) (hy : y < 10) (h1 : gv_NB l r x y s → post 1) (h0 : ¬ gv_NB l r x y s → post 0) : wpX_isNoBetter post (nI n, L, R, D, l, r) (nI x) (nI y) s := by
  unfold wpX_isNoBetter
  dsimp only
  refine gv_xst (b := 0) (by omega) ?_
  by_cases zr : r (100 * x + 10 * 0 + y) = 0
  · by_cases zl : l (100 * x + 10 * 0 + y) = 0
    · rw [gv_sd0 zr zl]
      exact br_t rfl (pk_le x y (fun h => h0 (fun q => by have := (gv_NBe zl zr).mp q; omega)) (fun h => h1 ((gv_NBe zl zr).mpr h)))
    · rw [gv_sd1 zr zl]
      exact br_f (by decide) (br_c (fun e => br_f (by decide) (h0 (fun q => zl (q.1 e).1))) (fun e => br_t rfl (h1 ⟨fun e' => absurd e' e, fun _ => ⟨zr, fun z => absurd z zl⟩⟩)))
  · by_cases zl : l (100 * x + 10 * 0 + y) = 0
    · rw [gv_sd2 zr zl]
      exact br_f (by decide) (br_c (fun e => br_t rfl (h1 ⟨fun _ => ⟨zl, fun z => absurd z zr⟩, fun e' => absurd e e'⟩)) (fun e => br_f (by decide) (h0 (fun q => zr (q.2 e).1))))
    · rw [gv_sd3 zr zl]
      exact br_f (by decide) (br_c (fun e => br_f (by decide) (h0 (fun q => zl (q.1 e).1))) (fun e => br_f (by decide) (h0 (fun q => zr (q.2 e).1))))
theorem gv_ynb {post : Int32 → Prop} {x y : Nat} (hn : n ≤ 10) (hx : x < n) (hy : y < n) (hA : gv_Agr n l r w) (ht : l (100 * x + 10 * 0 + y) = r (100 * y + 10 * 0 + x)) (h1 : gv_NB l r x y s → post 1) (h0 : ¬ gv_NB l r x y s → post 0) : wpY_noBetter post (nI n, G, w, dd) (nI x) (nI y) s := by
  unfold wpY_noBetter
  dsimp only
  refine br_c (fun e => ?_) (fun e => ?_)
  · refine gv_yle hn hy hx hA (fun z1 => br_t e ?_) (fun z1 => br_t e ?_)
    · have zl := ht.trans z1
      refine gv_yle hn hx hy hA (fun zr => br_f (by decide) (br_f (by decide) ?_)) (fun zr => br_f (by decide) (br_t rfl (h1 ⟨fun _ => ⟨zl, fun z => absurd z zr⟩, fun e' => absurd e e'⟩)))
      exact pk_le x y (fun h => h0 (fun q => by have := (gv_NBe zl zr).mp q; omega)) (fun h => h1 ((gv_NBe zl zr).mpr h))
    · have q0 : ¬ gv_NB l r x y s := fun q => z1 (ht.symm.trans (q.1 e).1)
      exact gv_yle hn hx hy hA (fun _ => br_t rfl (h0 q0)) (fun _ => br_t rfl (h0 q0))
  · refine gv_yle hn hx hy hA (fun zr => br_f e ?_) (fun zr => br_f e ?_)
    · refine gv_yle hn hy hx hA (fun z2 => br_f (by decide) (br_f (by decide) ?_)) (fun z2 => br_f (by decide) (br_t rfl (h1 ⟨fun e' => absurd e' e, fun _ => ⟨zr, fun z => absurd (ht.symm.trans z) z2⟩⟩)))
      have zl := ht.trans z2
      exact pk_le x y (fun h => h0 (fun q => by have := (gv_NBe zl zr).mp q; omega)) (fun h => h1 ((gv_NBe zl zr).mpr h))
    · have q0 : ¬ gv_NB l r x y s := fun q => zr (q.2 e).1
      exact gv_yle hn hy hx hA (fun _ => br_t rfl (h0 q0)) (fun _ => br_t rfl (h0 q0))
/-- y does away with x -/
def gv_P (l r : Nat → Int32) (m s : Int32) (x y : Nat) : Prop := x ≠ y ∧ bt m x = true ∧ bt m y = true ∧ gv_NB l r x y s
theorem gv_xdm_l {post : Int32 → Prop} {x : Nat} (hn : n ≤ 10) (hx : x < n) (hbx : bt m x = true) (h1 : (∃ y, y < n ∧ gv_P l r m s x y) → post 1) (h0 : (¬ ∃ y, y < n ∧ gv_P l r m s x y) → post 0) :
    ∀ d i, i + d = n → (∀ y, y < i → ¬ gv_P l r m s x y) → wX_isDominated_3 post (nI x) m s (nI n) L R D l r (d + 1) (nI i) := by
  intro d
  induction d with
  | zero =>
    intro i hi hq
    exact br_t (nI_le (by omega) (by omega)) (h0 (fun ⟨y, hy, q⟩ => hq y (by omega) q))
  | succ d ih =>
    intro i hi hq
    have go : ¬ gv_P l r m s x i → wX_isDominated_3 post (nI x) m s (nI n) L R D l r (d + 1) (nI (i + 1)) := fun q => ih (i + 1) (by omega) (lt_s hq q)
    have ei := nI_1 i
    refine br_f (nI_ge (by omega) (by omega)) (pk_eq i x (fun e => nm_r ei (go (fun q => q.1 e.symm))) (fun ne => ?_))
    refine gv_xcont (by omega) (fun hb => br_f (by decide) ?_) (fun nb => br_t rfl (nm_r ei (go (fun q => nb q.2.2.1))))
    exact gv_xnb (by omega) (by omega) (fun q => br_f (by decide) (h1 ⟨i, by omega, fun e => ne e.symm, hbx, hb, q⟩)) (fun nq => br_t rfl (nm_r ei (go (fun q => nq q.2.2.2))))
theorem gv_xdm {post : Int32 → Prop} {x : Nat} (hn : n ≤ 10) (hx : x < n) (hbx : bt m x = true) (h1 : (∃ y, y < n ∧ gv_P l r m s x y) → post 1) (h0 : (¬ ∃ y, y < n ∧ gv_P l r m s x y) → post 0) : wpX_isDominated post (nI n, L, R, D, l, r) (nI x) m s :=
  ⟨n + 1, gv_xdm_l hn hx hbx h1 h0 n 0 (by omega) (fun y h => absurd h (Nat.not_lt_zero y))⟩
/-- the set f holds just the x below i that some y below n does away with -/
def gv_FX (l r : Nat → Int32) (m s : Int32) (n i : Nat) (f : Int32) : Prop := ∀ j, j < 32 → (bt f j = true ↔ j < i ∧ ∃ y, y < n ∧ gv_P l r m s j y)
theorem gv_FX_no {i : Nat} {f : Int32} (h : gv_FX l r m s n i f) (hq : ¬ ∃ y, y < n ∧ gv_P l r m s i y) : gv_FX l r m s n (i + 1) f := by
  intro j hj
  rw [h j hj]
  constructor
  · intro ⟨a, b⟩
    exact ⟨by omega, b⟩
  · intro ⟨a, b⟩
    rcases Nat.lt_or_ge j i with c | c
    · exact ⟨c, b⟩
    · obtain rfl : j = i := by omega
      exact absurd b hq
theorem gv_FX_put {i : Nat} {f : Int32} (hi : i < 32) (h : gv_FX l r m s n i f) (hq : ∃ y, y < n ∧ gv_P l r m s i y) : gv_FX l r m s n (i + 1) (f ||| ((1 : Int32) <<< (nI i &&& 31))) := by
  intro j hj
  rw [gv_put f hi hj, Bool.or_eq_true, decide_eq_true_eq, h j hj]
  constructor
  · intro q
    rcases q with ⟨a, b⟩ | e
    · exact ⟨by omega, b⟩
    · subst e
      exact ⟨by omega, hq⟩
  · intro ⟨a, b⟩
    rcases Nat.lt_or_ge j i with c | c
    · exact Or.inl ⟨c, b⟩
    · exact Or.inr (by omega)
theorem gv_x43 {post : Int32 → Prop} (hn : n ≤ 10) (hp : ∀ f, gv_FX l r m s n n f → post f) :
    ∀ d i f, i + d = n → gv_FX l r m s n i f → wX_dominated_43 post s m (nI n) L R D l r (d + 1) f (nI i) := by
  intro d
  induction d with
  | zero =>
    intro i f hi hf
    obtain rfl : i = n := by omega
    exact br_t (nI_le (by omega) (by omega)) (hp f hf)
  | succ d ih =>
    intro i f hi hf
    have ei := nI_1 i
    refine br_f (nI_ge (by omega) (by omega)) (gv_xcont (by omega) (fun hb => br_f (by decide) ?_) (fun nb => br_t rfl (nm_r ei (ih (i + 1) f (by omega) (gv_FX_no hf (fun ⟨y, _, q⟩ => nb q.2.1))))))
    exact gv_xdm hn (by omega) hb (fun q => br_f (by decide) (nm_e (nm_r ei (ih (i + 1) _ (by omega) (gv_FX_put (by omega) hf q))))) (fun q => br_t rfl (nm_r ei (ih (i + 1) f (by omega) (gv_FX_no hf q))))
theorem gv_FX_0 : gv_FX l r m s n 0 0 := by
  intro j hj
  rw [b_0]
  exact ⟨fun e => absurd e (by decide), fun e => absurd e.1 (Nat.not_lt_zero j)⟩
/-- the same by the reference's count k -/
def gv_FY (l r : Nat → Int32) (m s : Int32) (k : Nat) (f : Int32) : Prop := ∀ j, j < 32 → (bt f j = true ↔ ∃ y, y < 10 ∧ 10 * j + y < k ∧ gv_P l r m s j y)
theorem gv_FY_0 : gv_FY l r m s 0 0 := by
  intro j hj
  rw [b_0]
  exact ⟨fun e => absurd e (by decide), fun ⟨y, _, e, _⟩ => absurd e (Nat.not_lt_zero _)⟩
theorem gv_FY_no {k a b : Nat} {f : Int32} (hk : k = 10 * a + b) (hb : b < 10) (h : gv_FY l r m s k f) (hq : ¬ gv_P l r m s a b) : gv_FY l r m s (k + 1) f := by
  intro j hj
  rw [h j hj]
  constructor
  · intro ⟨y, e1, e2, e3⟩
    exact ⟨y, e1, by omega, e3⟩
  · intro ⟨y, e1, e2, e3⟩
    rcases Nat.lt_or_ge (10 * j + y) k with c | c
    · exact ⟨y, e1, c, e3⟩
    · obtain rfl : j = a := by omega
      obtain rfl : y = b := by omega
      exact absurd e3 hq
theorem gv_FY_put {k a b : Nat} {f : Int32} (hk : k = 10 * a + b) (ha : a < 32) (hb : b < 10) (h : gv_FY l r m s k f) (hq : gv_P l r m s a b) : gv_FY l r m s (k + 1) (f ||| ((1 : Int32) <<< (nI a &&& 31))) := by
  intro j hj
  rw [gv_put f ha hj, Bool.or_eq_true, decide_eq_true_eq, h j hj]
  constructor
  · intro q
    rcases q with ⟨y, e1, e2, e3⟩ | e
    · exact ⟨y, e1, by omega, e3⟩
    · subst e
      exact ⟨b, hb, by omega, hq⟩
  · intro ⟨y, e1, e2, e3⟩
    rcases Nat.lt_or_ge (10 * j + y) k with c | c
    · exact Or.inl ⟨y, e1, c, e3⟩
    · exact Or.inr (by omega)
theorem gv_y40 {post : Int32 → SY → Prop} (hn : n ≤ 10) (hm : ∀ x, bt m x = true → x < n) (hA : gv_Agr n l r w) (ht : ∀ x y, x < n → y < n → l (100 * x + 10 * 0 + y) = r (100 * y + 10 * 0 + x)) (hp : ∀ f, gv_FY l r m s 100 f → post f (nI n, G, w, dd)) :
    ∀ d k f, k + d = 100 → gv_FY l r m s k f → wY_dominated_40 post s m (nI n) G w dd (d + 1) f (nI k) := by
  intro d
  induction d with
  | zero =>
    intro k f hk hf
    obtain rfl : k = 100 := by omega
    exact br_t (nI_le (a := 100) (b := 100) (by omega) (by omega)) (hp f hf)
  | succ d ih =>
    intro k f hk hf
    obtain ⟨a, b, ek, ha, hb, ea, eb⟩ : ∃ a b, k = 10 * a + b ∧ a < 10 ∧ b < 10 ∧ k / 10 = a ∧ k % 10 = b := ⟨k / 10, k % 10, by omega, by omega, by omega, rfl, rfl⟩
    have e2 : nI k / 10 = nI a := by
      rw [← ea]
      exact pk_div (d := 10) (by omega) (by omega) (by omega)
    have e3 : nI k - nI k / 10 * 10 = nI b := by
      rw [← eb]
      exact pk_rem (d := 10) (by omega) (by omega) (by omega)
    have ei := nI_1 k
    have go : ¬ gv_P l r m s a b → wY_dominated_40 post s m (nI n) G w dd (d + 1) f (nI (k + 1)) := fun q => ih (k + 1) f (by omega) (gv_FY_no ek hb hf q)
    refine br_f (nI_ge (b := 100) (by omega) (by omega)) ⟨by decide, nm_r e2 ⟨by decide, nm_r e3 (pk_eq a b (fun e => ?_) (fun ne => ?_))⟩⟩
    · exact br_t rfl (nm_r ei (go (fun q => q.1 e)))
    · refine ek_if (gv_bit1 m (by omega)) (fun ba => ek_if (gv_bit1 m (by omega)) (fun bb => br_f (by decide) ?_) (fun nb => br_t rfl (nm_r ei (go (fun q => nb q.2.2.1))))) (fun na => br_t rfl (nm_r ei (go (fun q => na q.2.1))))
      exact gv_ynb hn (hm a ba) (hm b bb) hA (ht a b (hm a ba) (hm b bb)) (fun q => br_f (by decide) (nm_e (nm_r ei (ih (k + 1) _ (by omega) (gv_FY_put ek (by omega) hb hf ⟨ne, ba, bb, q⟩))))) (fun q => br_t rfl (nm_r ei (go (fun z => q z.2.2.2))))
theorem gv_FXY {f g : Int32} (hn : n ≤ 10) (hm : ∀ x, bt m x = true → x < n) (hf : gv_FX l r m s n n f) (hg : gv_FY l r m s 100 g) : g = f := by
  apply b_ext
  intro j hj
  apply Bool.eq_iff_iff.mpr
  rw [hf j hj, hg j hj]
  constructor
  · intro ⟨y, e1, e2, e3⟩
    exact ⟨hm j e3.2.1, y, hm y e3.2.2.1, e3⟩
  · intro ⟨e1, y, e2, e3⟩
    exact ⟨y, by omega, by omega, e3⟩
end
end
section
/-! the calls of the reference with their refusals, and the class's reads -/
section
variable {n : Nat} {L R D l r G w dd : Nat → Int32}
theorem gv_ycmp0 {post : Int32 → SY → Prop} {p q : Int32} (h : gv_R n L R D l r G w) (hb : gv_Out n p ∨ ((∃ a, a < n ∧ p = nI a) ∧ gv_Out n q)) (hk : ∀ w', gv_R n L R D l r G w' → post (-1) (nI n, G, w', dd)) : wpY_compare post (nI n, G, w, dd) p q := by
  have hn := h.2.1
  unfold wpY_compare
  dsimp only
  refine gv_ywork h (fun w' h' hA => ?_)
  dsimp only
  rcases hb with ho | ⟨⟨a, ha, rfl⟩, ho⟩
  · exact gv_yis0 ho (br_t rfl (hk w' h'))
  · exact gv_yis1 hn ha (br_f (by decide) (gv_yis0 ho (br_t rfl (hk w' h'))))
theorem gv_yws_0 {post : Int32 → SY → Prop} {p q s : Int32} (h : gv_R n L R D l r G w) (hb : gv_Out n p ∨ ((∃ a, a < n ∧ p = nI a) ∧ (gv_Out n q ∨ ((∃ a, a < n ∧ q = nI a) ∧ ¬ s = 0 ∧ ¬ s = 1)))) (hk : ∀ w', gv_R n L R D l r G w' → post 0 (nI n, G, w', dd)) : wpY_winsSum post (nI n, G, w, dd) p q s := by
  have hn := h.2.1
  unfold wpY_winsSum
  dsimp only
  refine gv_ywork h (fun w' h' hA => ?_)
  dsimp only
  rcases hb with ho | ⟨⟨a, ha, rfl⟩, ho | ⟨⟨b, hb, rfl⟩, h0, h1⟩⟩
  · exact gv_yis0 ho (br_t rfl (hk w' h'))
  · exact gv_yis1 hn ha (br_f (by decide) (gv_yis0 ho (br_t rfl (hk w' h'))))
  · exact gv_yis1 hn ha (br_f (by decide) (gv_yis1 hn hb (br_f (by decide) (br_f h0 (br_f h1 (hk w' h'))))))
theorem gv_yws_l {post : Int32 → SY → Prop} {a b : Nat} (h : gv_R n L R D l r G w) (ha : a < n) (hb : b < n) (hk : ∀ w', gv_R n L R D l r G w' → post (l (100 * a + 10 * b + 0)) (nI n, G, w', dd)) : wpY_winsSum post (nI n, G, w, dd) (nI a) (nI b) 0 := by
  have h1 := h.1
  have hn := h.2.1
  have hl : gv_01 l := h.2.2.2.2.2.1
  unfold wpY_winsSum
  dsimp only
  refine gv_ywork h (fun w' h' hA => ?_)
  dsimp only
  have hk := hk w' h'
  refine gv_yis1 hn ha (br_f (by decide) (gv_yis1 hn hb (br_f (by decide) (br_t rfl ?_))))
  unfold wY_winsSum_29
  refine gv_ycell (c := 0) (s := 0) ⟨vp_in_nI (by omega) (by omega), ?_⟩
  rw [nI_clamp (by omega), Nat.add_zero (2 * _), (hA a b 0 ha hb h1).1]
  refine br_c (fun z => ?_) (fun z => ?_)
  · rw [z] at hk
    exact hk
  · rw [gv_01n (hl _) z] at hk
    exact hk
theorem gv_yws_r {post : Int32 → SY → Prop} {a b : Nat} (h : gv_R n L R D l r G w) (ha : a < n) (hb : b < n) (hk : ∀ w', gv_R n L R D l r G w' → post (r (100 * a + 10 * b + 0)) (nI n, G, w', dd)) : wpY_winsSum post (nI n, G, w, dd) (nI a) (nI b) 1 := by
  have h1 := h.1
  have hn := h.2.1
  have hr : gv_01 r := h.2.2.2.2.2.2.1
  unfold wpY_winsSum
  dsimp only
  refine gv_ywork h (fun w' h' hA => ?_)
  dsimp only
  have hk := hk w' h'
  refine gv_yis1 hn ha (br_f (by decide) (gv_yis1 hn hb (br_f (by decide) (br_f (by decide) (br_t rfl ?_)))))
  unfold wY_winsSum_29
  refine gv_ycell (c := 0) (s := 1) ⟨vp_in_nI (by omega) (by omega), ?_⟩
  rw [nI_clamp (by omega), (hA a b 0 ha hb h1).2]
  refine br_c (fun z => ?_) (fun z => ?_)
  · rw [z] at hk
    exact hk
  · rw [gv_01n (hr _) z] at hk
    exact hk
theorem gv_xfw_l {post : Int32 → Prop} {a b : Nat} (hl : gv_01 l) (hk : 100 * a + 10 * b + 0 < 1000) (h : post (l (100 * a + 10 * b + 0))) : wpX_firstWins post (nI n, L, R, D, l, r) (nI a) (nI b) 0 := by
  have s := gv_sum a b 0
  rw [nI_0] at s
  unfold wpX_firstWins
  simp only [wpX_sumIndex]
  rw [s, nI_clamp (by omega)]
  exact br_t (by trivial) ⟨vp_in_nI hk (by omega), gv_nb (hl _), h⟩
theorem gv_xfw_r {post : Int32 → Prop} {a b : Nat} (hr : gv_01 r) (hk : 100 * a + 10 * b + 0 < 1000) (h : post (r (100 * a + 10 * b + 0))) : wpX_firstWins post (nI n, L, R, D, l, r) (nI a) (nI b) 1 := by
  have s := gv_sum a b 0
  rw [nI_0] at s
  unfold wpX_firstWins
  simp only [wpX_sumIndex]
  rw [s, nI_clamp (by omega)]
  exact br_f (by decide) ⟨vp_in_nI hk (by omega), gv_nb (hr _), h⟩
theorem gv_ycs_0 {post : Int32 → SY → Prop} {p q s : Int32} (h : gv_R n L R D l r G w) (hb : gv_Out n p ∨ ((∃ a, a < n ∧ p = nI a) ∧ (gv_Out n q ∨ ((∃ a, a < n ∧ q = nI a) ∧ gv_Out n s)))) (hk : ∀ w', gv_R n L R D l r G w' → post (-1) (nI n, G, w', dd)) : wpY_compareSum post (nI n, G, w, dd) p q s := by
  have hn := h.2.1
  unfold wpY_compareSum
  dsimp only
  refine gv_ywork h (fun w' h' hA => ?_)
  dsimp only
  rcases hb with ho | ⟨⟨a, ha, rfl⟩, ho | ⟨⟨b, hb, rfl⟩, ho⟩⟩
  · exact gv_yis0 ho (br_t rfl (hk w' h'))
  · exact gv_yis1 hn ha (br_f (by decide) (gv_yis0 ho (br_t rfl (hk w' h'))))
  · exact gv_yis1 hn ha (br_f (by decide) (gv_yis1 hn hb (br_f (by decide) (gv_yis0 ho (br_t rfl (hk w' h'))))))
theorem gv_ycs {post : Int32 → SY → Prop} {a b c : Nat} (h : gv_R n L R D l r G w) (ha : a < n) (hb : b < n) (hc : c < n) (hk : ∀ w', gv_R n L R D l r G w' → post (gv_sd l r (100 * a + 10 * b + c)) (nI n, G, w', dd)) : wpY_compareSum post (nI n, G, w, dd) (nI a) (nI b) (nI c) := by
  have hn := h.2.1
  unfold wpY_compareSum
  dsimp only
  refine gv_ywork h (fun w' h' hA => ?_)
  dsimp only
  have hk := hk w' h'
  refine gv_yis1 hn ha (br_f (by decide) (gv_yis1 hn hb (br_f (by decide) (gv_yis1 hn hc (br_f (by decide) ?_)))))
  refine gv_ycell (s := 1) ⟨vp_in_nI (by omega) (by omega), ?_⟩
  rw [nI_clamp (by omega), (hA a b c ha hb hc).2]
  have two : ∀ z0 : Int32, (l (100 * a + 10 * b + c) = 0 → wY_compareSum_71 post 1 z0 (nI n) G w' dd) → (¬ l (100 * a + 10 * b + c) = 0 → wY_compareSum_71 post 0 z0 (nI n) G w' dd) → wY_compareSum_50 post (nI a) (nI b) (nI c) z0 (nI n) G w' dd := by
    intro z0 y1 y0
    unfold wY_compareSum_50
    refine gv_ycell (s := 0) ⟨vp_in_nI (by omega) (by omega), ?_⟩
    rw [nI_clamp (by omega), Nat.add_zero (2 * _), (hA a b c ha hb hc).1]
    exact br_c y1 y0
  refine br_c (fun zr => two 1 (fun zl => ?_) (fun zl => ?_)) (fun zr => two 0 (fun zl => ?_) (fun zl => ?_))
  · rw [gv_sd0 zr zl] at hk
    exact gv_yst0 hk
  · rw [gv_sd1 zr zl] at hk
    exact gv_yst1 hk
  · rw [gv_sd2 zr zl] at hk
    exact gv_yst2 hk
  · rw [gv_sd3 zr zl] at hk
    exact gv_yst3 hk
theorem gv_yop_0 {post : Int32 → SY → Prop} {p q : Int32} (h : gv_R n L R D l r G w) (hb : gv_Out n p ∨ ((∃ a, a < n ∧ p = nI a) ∧ gv_Out n q)) (hk : ∀ w', gv_R n L R D l r G w' → post 0 (nI n, G, w', dd)) : wpY_opposite post (nI n, G, w, dd) p q := by
  have hn := h.2.1
  unfold wpY_opposite
  dsimp only
  refine gv_ywork h (fun w' h' hA => ?_)
  dsimp only
  rcases hb with ho | ⟨⟨a, ha, rfl⟩, ho⟩
  · exact gv_yis0 ho (br_t rfl (hk w' h'))
  · exact gv_yis1 hn ha (br_f (by decide) (gv_yis0 ho (br_t rfl (hk w' h'))))
theorem gv_yop {post : Int32 → SY → Prop} {a b : Nat} (h : gv_R n L R D l r G w) (ha : a < n) (hb : b < n)
    (h1 : r (100 * a + 10 * b + 0) = 0 → l (100 * a + 10 * b + 0) = 0 → ∀ w', gv_R n L R D l r G w' → post 1 (nI n, G, w', dd))
    (h0 : ¬ (r (100 * a + 10 * b + 0) = 0 ∧ l (100 * a + 10 * b + 0) = 0) → ∀ w', gv_R n L R D l r G w' → post 0 (nI n, G, w', dd)) : wpY_opposite post (nI n, G, w, dd) (nI a) (nI b) := by
  have hp := h.1
  have hn := h.2.1
  unfold wpY_opposite
  dsimp only
  refine gv_ywork h (fun w' h' hA => ?_)
  dsimp only
  refine gv_yis1 hn ha (br_f (by decide) (gv_yis1 hn hb (br_f (by decide) ?_)))
  refine gv_ycell (c := 0) (s := 0) ⟨vp_in_nI (by omega) (by omega), ?_⟩
  rw [nI_clamp (by omega), Nat.add_zero (2 * _), (hA a b 0 ha hb hp).1]
  refine br_c (fun zl => ?_) (fun zl => h0 (fun q => zl q.2) w' h')
  refine gv_ycell (c := 0) (s := 1) ⟨vp_in_nI (by omega) (by omega), ?_⟩
  rw [nI_clamp (by omega), (hA a b 0 ha hb hp).2]
  exact br_c (fun zr => h1 zr zl w' h') (fun zr => h0 (fun q => zr q.1) w' h')
theorem gv_ym17 {post : Int32 → Prop} {p t : Nat} (hn : n ≤ 10) (hp : p < n) (ht : t < 2) (h : post (G (2 * p + t))) : wY_moves_17 post (nI p) (nI t) (nI n) G w dd := by
  unfold wY_moves_17
  rw [gv_dbl, nI_clamp (by omega)]
  exact ⟨vp_in_nI (by omega) (by omega), h⟩
theorem gv_yd19 {post : Int32 → SY → Prop} {p t : Nat} (h : gv_R n L R D l r G w) (hp : p < n) (ht : t < 2) (hk : ∀ w' f, gv_R n L R D l r G w' → gv_FY l r (G (2 * p + t)) (nI t) 100 f → post f (nI n, G, w', dd)) : wY_dominated_19 post (nI p) (nI t) (nI n) G w dd := by
  have hn := h.2.1
  have hg := h.2.2.1
  unfold wY_dominated_19
  refine gv_ywork h (fun w' h' hA => ?_)
  dsimp only
  rw [gv_dbl, nI_clamp (by omega)]
  refine ⟨vp_in_nI (by omega) (by omega), nm_e ⟨101, ?_⟩⟩
  refine gv_y40 hn (fun x hx => ?_) hA (fun x y hx hy => gv_tn h hx hy) (fun f hf => hk w' f h' hf) 100 0 0 rfl gv_FY_0
  have := hg p t x hp ht hx
  omega
theorem gv_yab_0 {post : Int32 → SY → Prop} {p : Int32} (h : gv_R n L R D l r G w) (ho : gv_Out n p) (hk : ∀ w', gv_R n L R D l r G w' → post (-1) (nI n, G, w', dd)) : wpY_above post (nI n, G, w, dd) p := by
  have h1 := h.1
  have hn := h.2.1
  unfold wpY_above
  dsimp only
  refine gv_ywork h (fun w' h' hA => ?_)
  dsimp only
  exact ⟨1, br_f (nI_ge (a := 0) (by omega) (by omega)) (gv_yis0 ho (br_t rfl (gv_yis0 ho (br_t rfl (hk w' h')))))⟩
/-! what add makes -/
theorem gv_add {v1 v2 : Int32} {l' r' : Nat → Int32} (h : gv_R n L R D l r G w) (h10 : n < 10) (hg' : gv_Good (upd (upd G (2 * n) v1) (2 * n + 1) v2) (n + 1))
    (hL' : ∀ p, p < n + 1 → upd L n v1 p = upd (upd G (2 * n) v1) (2 * n + 1) v2 (2 * p)) (hR' : ∀ p, p < n + 1 → upd R n v2 p = upd (upd G (2 * n) v1) (2 * n + 1) v2 (2 * p + 1))
    (hl : gv_01 l') (hr : gv_01 r') (hI : gv_Inv (upd (upd G (2 * n) v1) (2 * n + 1) v2) (n + 1) (gv_TX l' r') 1000) :
    gv_R (n + 1) (upd L n v1) (upd R n v2) (upd D n (gv_dm D (v1 ||| v2) n)) l' r' (upd (upd G (2 * n) v1) (2 * n + 1) v2) w := by
  obtain ⟨h1, hn, hg, hL, hR, _, _, _, hD, hw⟩ := h
  refine ⟨by omega, by omega, hg', hL', hR', hl, hr, hI, ?_, hw⟩
  intro p hp
  rw [← hL' p hp, ← hR' p hp]
  rcases Nat.lt_or_ge p n with h | h
  · rw [pk_un (by omega), pk_un (by omega), pk_un (by omega), hL p h, hR p h, hD p h]
    exact gv_dm_c p (fun x hx => (pk_un (by omega)).symm)
  · obtain rfl : p = n := by omega
    rw [pk_us, pk_us, pk_us]
    exact gv_dm_c p (fun x hx => (pk_un (by omega)).symm)
theorem gv_addL {v1 v2 : Int32} (hL : ∀ p, p < n → L p = G (2 * p)) : ∀ p, p < n + 1 → upd L n v1 p = upd (upd G (2 * n) v1) (2 * n + 1) v2 (2 * p) := by
  intro p hp
  rcases Nat.lt_or_ge p n with h | h
  · rw [pk_un (by omega), pk_un (by omega), pk_un (by omega), hL p h]
  · obtain rfl : p = n := by omega
    rw [pk_us, pk_un (by omega), pk_us]
theorem gv_addR {v1 v2 : Int32} (hR : ∀ p, p < n → R p = G (2 * p + 1)) : ∀ p, p < n + 1 → upd R n v2 p = upd (upd G (2 * n) v1) (2 * n + 1) v2 (2 * p + 1) := by
  intro p hp
  rcases Nat.lt_or_ge p n with h | h
  · rw [pk_un (by omega), pk_un (by omega), pk_un (by omega), hR p h]
  · obtain rfl : p = n := by omega
    rw [pk_us, pk_us]
theorem gv_addG {v1 v2 : Int32} (hg : gv_Good G n) (h1 : ∀ i, bt v1 i = true → i < n) (h2 : ∀ i, bt v2 i = true → i < n) : gv_Good (upd (upd G (2 * n) v1) (2 * n + 1) v2) (n + 1) := by
  intro p s x hp hs hx
  rcases Nat.lt_or_ge p n with h | h
  · rw [pk_un (by omega), pk_un (by omega)] at hx
    exact hg p s x h hs hx
  · obtain rfl : p = n := by omega
    obtain rfl | rfl : s = 0 ∨ s = 1 := by omega
    · rw [pk_un (by omega), Nat.add_zero, pk_us] at hx
      exact h1 x hx
    · rw [pk_us] at hx
      exact h2 x hx
theorem gv_less (h : gv_R n L R D l r G w) (h2 : 2 ≤ n) : gv_R (n - 1) L R D l r G w := by
  obtain ⟨h1, hn, hg, hL, hR, hl, hr, hI, hD, hw⟩ := h
  exact ⟨by omega, by omega, gv_Good_le (by omega) hg, fun p hp => hL p (by omega), fun p hp => hR p (by omega), hl, hr, gv_Inv_le (by omega) hI, gv_Dp_le (by omega) hD, hw⟩
theorem gv_new : gv_R 1 (fun _ => 0) (fun _ => 0) (fun _ => 0) (fun _ => 0) (fun _ => 0) (fun _ => 0) (fun _ => 0) := by
  refine ⟨by omega, by omega, ?_, fun _ _ => rfl, fun _ _ => rfl, gv_010, gv_010, ?_, ?_, gv_010⟩
  · intro p s x _ _ hx
    rw [b_0] at hx
    exact absurd hx (by decide)
  · intro a b c s t _ _ _ _ _
    constructor
    · intro z
      refine absurd ?_ z
      by_cases e : s = 0
      · rw [if_pos e]
      · rw [if_neg e]
    · rintro (⟨x, hx, _⟩ | ⟨x, hx, _⟩ | ⟨x, hx, _⟩)
      · rw [b_0] at hx
        exact absurd hx (by decide)
      · rw [b_0] at hx
        exact absurd hx (by decide)
      · rw [b_0] at hx
        exact absurd hx (by decide)
  · intro p hp
    obtain rfl : p = 0 := by omega
    rfl
end
end
section
/-- one n; the same moves on both sides; the class's tables keep the rule of the game, its depths the rule of depths; the reference's tables are free -/
def i_Rel (k : Nat) (u : SX) (v : SY) : Prop := ∃ (n : Nat) (L R D l r G w dd : Nat → Int32), u = (nI n, L, R, D, l, r) ∧ v = (nI n, G, w, dd) ∧ gv_R n L R D l r G w
theorem gv_mk {k n : Nat} {L R D l r G w dd : Nat → Int32} (h : gv_R n L R D l r G w) : i_Rel k (nI n, L, R, D, l, r) (nI n, G, w, dd) := ⟨n, L, R, D, l, r, G, w, dd, rfl, rfl, h⟩
theorem i_up {k : Nat} {u : SX} {v : SY} (h : i_Rel k u v) : i_Rel (k + 4) u v := h
theorem i_vc0 : wpX_init (fun u => wpY_init (fun v => i_Rel 0 u v)) := gv_mk (k := 0) gv_new
theorem i_vc_add {k : Nat} {u : SX} {v : SY} (I : i_Rel k u v) (hk : k + 4 ≤ 2048) (v1 : Int32) (v2 : Int32) : wpX_add (fun r u' => wpY_add (fun r' v' => r' = r ∧ i_Rel (k + 4) u' v') v v1 v2) u v1 v2 := by
  obtain ⟨n, L, R, D, l, r, G, w, dd, rfl, rfl, h⟩ := I
  have hn := h.2.1
  have K : i_Rel (k + 4) (nI n, L, R, D, l, r) (nI n, G, w, dd) := gv_mk h
  have ec : (nI n).toNatClampNeg = n := nI_clamp (by omega)
  unfold wpX_add wpY_add
  dsimp only
  rw [ec]
  intro x3 ex
  by_cases hz : (v1 ||| v2) &&& (x3 ^^^ (-1)) = 0
  · obtain ⟨z1, z2⟩ := gv_orand.mp hz
    refine br_t hz (pk_lt n 10 (fun h10 => ?_) (fun h10 => ?_))
    · obtain ⟨h1, _, hg, hL, hR, hl, hr, hI, hD, hw⟩ := id h
      have vn : vp_in (nI n) 10 := vp_in_nI h10 (by omega)
      have b1 : ∀ i, bt v1 i = true → i < n := fun i hi => gv_below (by omega) (by rw [ex] at z1; exact z1) hi
      have b2 : ∀ i, bt v2 i = true → i < n := fun i hi => gv_below (by omega) (by rw [ex] at z2; exact z2) hi
      have hg' := gv_addG (v1 := v1) (v2 := v2) hg b1 b2
      have hL' := gv_addL (v1 := v1) (v2 := v2) hL
      have hR' := gv_addR (v1 := v1) (v2 := v2) hR
      refine ⟨vn, nm_e ⟨vn, nm_e (gv_xda hn ⟨vn, nm_e (nm_r (nI_1 n) (gv_xdec (by omega) hg' hL' hR' hl hr (fun l' r' hl' hr' hI' => ?_)))⟩)⟩⟩
      dsimp only
      refine nm_r ex.symm (br_t z1 (br_t z2 (br_t (nI_lt (b := 10) h10 (by omega)) ?_)))
      rw [gv_dbl0, nI_1 (2 * n), nI_clamp (n := 2 * n) (by omega), nI_clamp (n := 2 * n + 1) (by omega)]
      exact ⟨vp_in_nI (by omega) (by omega), nm_e ⟨vp_in_nI (by omega) (by omega), nm_e (nm_r (nI_1 n) ⟨nI_pred n, gv_mk (gv_add h h10 hg' hL' hR' hl' hr' hI')⟩)⟩⟩
    · exact nm_r ex.symm (br_t z1 (br_t z2 (br_f (nI_nlt (b := 10) h10 (by omega)) ⟨rfl, K⟩)))
  · refine br_f hz (nm_r ex.symm ?_)
    by_cases z1 : v1 &&& (x3 ^^^ (-1)) = 0
    · exact br_t z1 (br_f (fun z2 => hz (gv_orand.mpr ⟨z1, z2⟩)) ⟨rfl, K⟩)
    · exact br_f z1 ⟨rfl, K⟩
theorem i_vc_drop {k : Nat} {u : SX} {v : SY} (I : i_Rel k u v) (hk : k + 4 ≤ 2048) : wpX_drop (fun r u' => wpY_drop (fun r' v' => r' = r ∧ i_Rel (k + 4) u' v') v) u := by
  obtain ⟨n, L, R, D, l, r, G, w, dd, rfl, rfl, h⟩ := I
  have h1 := h.1
  have hn := h.2.1
  have e : nI n - 1 = nI (n - 1) := pk_sub (b := 1) h1
  refine pk_lt 1 n (fun h2 => nm_r e ?_) (fun h2 => ?_)
  · exact pk_eq n 1 (fun z => by omega) (fun z => nm_r e ⟨rfl, gv_mk (gv_less h (by omega))⟩)
  · exact pk_eq n 1 (fun z => ⟨rfl, gv_mk h⟩) (fun z => by omega)
theorem i_vc_positions {k : Nat} {u : SX} {v : SY} (I : i_Rel k u v) (hk : k + 4 ≤ 2048) : wpX_positions (fun r => wpY_positions (fun r' => r' = r ∧ i_Rel (k + 4) u v) v) u := by
  obtain ⟨n, L, R, D, l, r, G, w, dd, rfl, rfl, h⟩ := I
  exact ⟨rfl, gv_mk h⟩
theorem i_vc_moves {k : Nat} {u : SX} {v : SY} (I : i_Rel k u v) (hk : k + 4 ≤ 2048) (v1 : Int32) (v2 : Int32) : wpX_moves (fun r => wpY_moves (fun r' => r' = r ∧ i_Rel (k + 4) u v) v v1 v2) u v1 v2 := by
  obtain ⟨n, L, R, D, l, r, G, w, dd, rfl, rfl, h⟩ := I
  have hn := h.2.1
  have K : i_Rel (k + 4) (nI n, L, R, D, l, r) (nI n, G, w, dd) := gv_mk h
  unfold wpX_moves wpY_moves
  dsimp only
  rcases gv_cases v1 hn with ho | ⟨p, hp, rfl⟩
  · exact gv_xis0 ho (br_t rfl (gv_yis0 ho (br_t rfl ⟨rfl, K⟩)))
  · have ec : (nI p).toNatClampNeg = p := nI_clamp (by omega)
    have vp : vp_in (nI p) 10 := vp_in_nI (by omega) (by omega)
    rw [ec]
    rcases gv_side v2 with ⟨h0, h1⟩ | rfl | rfl
    · exact gv_xis1 hn hp (br_f (by decide) (gv_xsd0 h0 h1 (br_t rfl (gv_yis1 hn hp (br_f (by decide) (br_f h0 (br_f h1 ⟨rfl, K⟩)))))))
    · exact gv_xis1 hn hp (br_f (by decide) (gv_xsd (Or.inl rfl) (br_f (by decide) (br_t rfl ⟨vp, gv_yis1 hn hp (br_f (by decide) (br_t rfl (gv_ym17 (t := 0) hn hp (by omega) ⟨(h.2.2.2.1 p hp).symm, K⟩)))⟩))))
    · exact gv_xis1 hn hp (br_f (by decide) (gv_xsd (Or.inr rfl) (br_f (by decide) (br_f (by decide) ⟨vp, gv_yis1 hn hp (br_f (by decide) (br_f (by decide) (br_t rfl (gv_ym17 (t := 1) hn hp (by omega) ⟨(h.2.2.2.2.1 p hp).symm, K⟩))))⟩))))
theorem i_vc_compare {k : Nat} {u : SX} {v : SY} (I : i_Rel k u v) (hk : k + 4 ≤ 2048) (v1 : Int32) (v2 : Int32) : wpX_compare (fun r => wpY_compare (fun r' v' => r' = r ∧ i_Rel (k + 4) u v') v v1 v2) u v1 v2 := by
  obtain ⟨n, L, R, D, l, r, G, w, dd, rfl, rfl, h⟩ := I
  have hn := h.2.1
  unfold wpX_compare
  dsimp only
  rcases gv_cases v1 hn with ho | ⟨p, hp, rfl⟩
  · exact gv_xis0 ho (br_t rfl (gv_ycmp0 h (Or.inl ho) (fun w' h' => ⟨rfl, gv_mk h'⟩)))
  · rcases gv_cases v2 hn with ho | ⟨q, hq, rfl⟩
    · exact gv_xis1 hn hp (br_f (by decide) (gv_xis0 ho (br_t rfl (gv_ycmp0 h (Or.inr ⟨⟨p, hp, rfl⟩, ho⟩) (fun w' h' => ⟨rfl, gv_mk h'⟩)))))
    · exact gv_xis1 hn hp (br_f (by decide) (gv_xis1 hn hq (br_f (by decide) (gv_xst (b := 0) (by omega) (gv_ycmp h hp hq (fun w' h' => ⟨rfl, gv_mk h'⟩))))))
theorem i_vc_wins {k : Nat} {u : SX} {v : SY} (I : i_Rel k u v) (hk : k + 4 ≤ 2048) (v1 : Int32) (v2 : Int32) : wpX_wins (fun r => wpY_wins (fun r' v' => r' = r ∧ i_Rel (k + 4) u v') v v1 v2) u v1 v2 := by
  obtain ⟨n, L, R, D, l, r, G, w, dd, rfl, rfl, h⟩ := I
  have h1 := h.1
  have hn := h.2.1
  have hl : gv_01 l := h.2.2.2.2.2.1
  have hr : gv_01 r := h.2.2.2.2.2.2.1
  have h0 : ∃ a, a < n ∧ (0 : Int32) = nI a := ⟨0, h1, rfl⟩
  unfold wpX_wins wpY_wins
  dsimp only
  rcases gv_cases v1 hn with ho | ⟨p, hp, rfl⟩
  · exact gv_xis0 ho (br_t rfl (gv_yws_0 h (Or.inl ho) (fun w' h' => ⟨gv_nb (Or.inl rfl), rfl, gv_mk h'⟩)))
  · rcases gv_side v2 with ⟨s0, s1⟩ | rfl | rfl
    · exact gv_xis1 hn hp (br_f (by decide) (gv_xsd0 s0 s1 (br_t rfl (gv_yws_0 h (Or.inr ⟨⟨p, hp, rfl⟩, Or.inr ⟨h0, s0, s1⟩⟩) (fun w' h' => ⟨gv_nb (Or.inl rfl), rfl, gv_mk h'⟩)))))
    · exact gv_xis1 hn hp (br_f (by decide) (gv_xsd (Or.inl rfl) (br_f (by decide) (gv_xfw_l (b := 0) hl (by omega) ⟨gv_nb (hl _), gv_yws_l (b := 0) h hp h1 (fun w' h' => ⟨gv_nb (hl _), rfl, gv_mk h'⟩)⟩))))
    · exact gv_xis1 hn hp (br_f (by decide) (gv_xsd (Or.inr rfl) (br_f (by decide) (gv_xfw_r (b := 0) hr (by omega) ⟨gv_nb (hr _), gv_yws_r (b := 0) h hp h1 (fun w' h' => ⟨gv_nb (hr _), rfl, gv_mk h'⟩)⟩))))
theorem i_vc_winsSum {k : Nat} {u : SX} {v : SY} (I : i_Rel k u v) (hk : k + 4 ≤ 2048) (v1 : Int32) (v2 : Int32) (v3 : Int32) : wpX_winsSum (fun r => wpY_winsSum (fun r' v' => r' = r ∧ i_Rel (k + 4) u v') v v1 v2 v3) u v1 v2 v3 := by
  obtain ⟨n, L, R, D, l, r, G, w, dd, rfl, rfl, h⟩ := I
  have hn := h.2.1
  have hl : gv_01 l := h.2.2.2.2.2.1
  have hr : gv_01 r := h.2.2.2.2.2.2.1
  unfold wpX_winsSum
  dsimp only
  rcases gv_cases v1 hn with ho | ⟨p, hp, rfl⟩
  · exact gv_xis0 ho (br_t rfl (gv_yws_0 h (Or.inl ho) (fun w' h' => ⟨rfl, gv_mk h'⟩)))
  · rcases gv_cases v2 hn with ho | ⟨q, hq, rfl⟩
    · exact gv_xis1 hn hp (br_f (by decide) (gv_xis0 ho (br_t rfl (gv_yws_0 h (Or.inr ⟨⟨p, hp, rfl⟩, Or.inl ho⟩) (fun w' h' => ⟨rfl, gv_mk h'⟩)))))
    · refine gv_xis1 hn hp (br_f (by decide) (gv_xis1 hn hq (br_f (by decide) ?_)))
      rcases gv_side v3 with ⟨s0, s1⟩ | rfl | rfl
      · exact gv_xsd0 s0 s1 (br_t rfl (gv_yws_0 h (Or.inr ⟨⟨p, hp, rfl⟩, Or.inr ⟨⟨q, hq, rfl⟩, s0, s1⟩⟩) (fun w' h' => ⟨rfl, gv_mk h'⟩)))
      · exact gv_xsd (Or.inl rfl) (br_f (by decide) (gv_xfw_l hl (by omega) ⟨gv_nb (hl _), gv_yws_l h hp hq (fun w' h' => ⟨rfl, gv_mk h'⟩)⟩))
      · exact gv_xsd (Or.inr rfl) (br_f (by decide) (gv_xfw_r hr (by omega) ⟨gv_nb (hr _), gv_yws_r h hp hq (fun w' h' => ⟨rfl, gv_mk h'⟩)⟩))
theorem i_vc_compareSum {k : Nat} {u : SX} {v : SY} (I : i_Rel k u v) (hk : k + 4 ≤ 2048) (v1 : Int32) (v2 : Int32) (v3 : Int32) : wpX_compareSum (fun r => wpY_compareSum (fun r' v' => r' = r ∧ i_Rel (k + 4) u v') v v1 v2 v3) u v1 v2 v3 := by
  obtain ⟨n, L, R, D, l, r, G, w, dd, rfl, rfl, h⟩ := I
  have hn := h.2.1
  unfold wpX_compareSum
  dsimp only
  rcases gv_cases v1 hn with ho | ⟨p, hp, rfl⟩
  · exact gv_xis0 ho (br_t rfl (gv_ycs_0 h (Or.inl ho) (fun w' h' => ⟨rfl, gv_mk h'⟩)))
  · rcases gv_cases v2 hn with ho | ⟨q, hq, rfl⟩
    · exact gv_xis1 hn hp (br_f (by decide) (gv_xis0 ho (br_t rfl (gv_ycs_0 h (Or.inr ⟨⟨p, hp, rfl⟩, Or.inl ho⟩) (fun w' h' => ⟨rfl, gv_mk h'⟩)))))
    · refine gv_xis1 hn hp (br_f (by decide) (gv_xis1 hn hq (br_f (by decide) ?_)))
      rcases gv_cases v3 hn with ho | ⟨c, hc, rfl⟩
      · exact gv_xis0 ho (br_t rfl (gv_ycs_0 h (Or.inr ⟨⟨p, hp, rfl⟩, Or.inr ⟨⟨q, hq, rfl⟩, ho⟩⟩) (fun w' h' => ⟨rfl, gv_mk h'⟩)))
      · exact gv_xis1 hn hc (br_f (by decide) (gv_xst (by omega) (gv_ycs h hp hq hc (fun w' h' => ⟨rfl, gv_mk h'⟩))))
theorem i_vc_dominated {k : Nat} {u : SX} {v : SY} (I : i_Rel k u v) (hk : k + 4 ≤ 2048) (v1 : Int32) (v2 : Int32) : wpX_dominated (fun r => wpY_dominated (fun r' v' => r' = r ∧ i_Rel (k + 4) u v') v v1 v2) u v1 v2 := by
  obtain ⟨n, L, R, D, l, r, G, w, dd, rfl, rfl, h⟩ := I
  have hn := h.2.1
  have hg := h.2.2.1
  have K : i_Rel (k + 4) (nI n, L, R, D, l, r) (nI n, G, w, dd) := gv_mk h
  unfold wpX_dominated wpY_dominated
  dsimp only
  rcases gv_cases v1 hn with ho | ⟨p, hp, rfl⟩
  · exact gv_xis0 ho (br_t rfl (gv_yis0 ho (br_t rfl ⟨rfl, K⟩)))
  · have ec : (nI p).toNatClampNeg = p := nI_clamp (by omega)
    have vp : vp_in (nI p) 10 := vp_in_nI (by omega) (by omega)
    have eL : G (2 * p + 0) = L p := (h.2.2.2.1 p hp).symm
    have eR : G (2 * p + 1) = R p := (h.2.2.2.2.1 p hp).symm
    have mL : ∀ x, bt (L p) x = true → x < n := fun x hx => by
      have := hg p 0 x hp (by omega) (by rw [eL]; exact hx)
      omega
    have mR : ∀ x, bt (R p) x = true → x < n := fun x hx => by
      have := hg p 1 x hp (by omega) (by rw [eR]; exact hx)
      omega
    rw [ec]
    rcases gv_side v2 with ⟨h0, h1⟩ | rfl | rfl
    · exact gv_xis1 hn hp (br_f (by decide) (gv_xsd0 h0 h1 (br_t rfl (gv_yis1 hn hp (br_f (by decide) (br_f h0 (br_f h1 ⟨rfl, K⟩)))))))
    · refine gv_xis1 hn hp (br_f (by decide) (gv_xsd (Or.inl rfl) (br_f (by decide) (br_t rfl ⟨vp, nm_e ⟨n + 1, gv_x43 hn (fun f hf => ?_) n 0 0 (by omega) gv_FX_0⟩⟩))))
      refine gv_yis1 hn hp (br_f (by decide) (br_t rfl (gv_yd19 (t := 0) h hp (by omega) (fun w' f' h' hf' => ⟨?_, gv_mk h'⟩))))
      rw [eL] at hf'
      exact gv_FXY hn mL hf hf'
    · refine gv_xis1 hn hp (br_f (by decide) (gv_xsd (Or.inr rfl) (br_f (by decide) (br_f (by decide) ⟨vp, nm_e ⟨n + 1, gv_x43 hn (fun f hf => ?_) n 0 0 (by omega) gv_FX_0⟩⟩))))
      refine gv_yis1 hn hp (br_f (by decide) (br_f (by decide) (br_t rfl (gv_yd19 (t := 1) h hp (by omega) (fun w' f' h' hf' => ⟨?_, gv_mk h'⟩)))))
      rw [eR] at hf'
      exact gv_FXY hn mR hf hf'
theorem i_vc_first {k : Nat} {u : SX} {v : SY} (I : i_Rel k u v) (hk : k + 4 ≤ 2048) (v1 : Int32) : wpX_first (fun r => wpY_first (fun r' v' => r' = r ∧ i_Rel (k + 4) u v') v v1) u v1 := by
  obtain ⟨n, L, R, D, l, r, G, w, dd, rfl, rfl, h⟩ := I
  have h1 := h.1
  have hn := h.2.1
  unfold wpX_first
  dsimp only
  rcases gv_cases v1 hn with ho | ⟨p, hp, rfl⟩
  · exact gv_xis0 ho (br_t rfl ⟨1, br_f (nI_ge (a := 0) (by omega) (by omega)) (gv_yis0 ho (br_t rfl ⟨rfl, gv_mk h⟩))⟩)
  · obtain ⟨r0, hX, hY⟩ := gv_fst h hp
    exact gv_xis1 hn hp (br_f (by decide) (hX _ (hY w dd _ h (fun w' h' => ⟨rfl, gv_mk h'⟩))))
theorem i_vc_values {k : Nat} {u : SX} {v : SY} (I : i_Rel k u v) (hk : k + 4 ≤ 2048) : wpX_values (fun r => wpY_values (fun r' v' => r' = r ∧ i_Rel (k + 4) u v') v) u := by
  obtain ⟨n, L, R, D, l, r, G, w, dd, rfl, rfl, h⟩ := I
  obtain ⟨r0, hX, hY⟩ := gv_val_l h n 0 0 (by omega)
  exact ⟨n + 1, hX _ ⟨n + 1, hY w dd _ h (fun w' h' => ⟨rfl, gv_mk h'⟩)⟩⟩
theorem i_vc_depth {k : Nat} {u : SX} {v : SY} (I : i_Rel k u v) (hk : k + 4 ≤ 2048) (v1 : Int32) : wpX_depth (fun r => wpY_depth (fun r' v' => r' = r ∧ i_Rel (k + 4) u v') v v1) u v1 := by
  obtain ⟨n, L, R, D, l, r, G, w, dd, rfl, rfl, h⟩ := I
  have hn := h.2.1
  have hD : gv_Dp G D n := h.2.2.2.2.2.2.2.2.1
  unfold wpX_depth
  dsimp only
  rcases gv_cases v1 hn with ho | ⟨p, hp, rfl⟩
  · exact gv_xis0 ho (br_t rfl (gv_ydep hn (fun dd' hD' => gv_yis0 ho (br_t rfl ⟨rfl, gv_mk h⟩))))
  · have ec : (nI p).toNatClampNeg = p := nI_clamp (by omega)
    have vp : vp_in (nI p) 10 := vp_in_nI (by omega) (by omega)
    refine gv_xis1 hn hp (br_f (by decide) ⟨vp, gv_ydep hn (fun dd' hD' => gv_yis1 hn hp (br_f (by decide) ⟨vp, ?_, gv_mk h⟩))⟩)
    rw [ec]
    exact gv_Dp_u hD' hD 10 p (by omega) hp
theorem i_vc_above {k : Nat} {u : SX} {v : SY} (I : i_Rel k u v) (hk : k + 4 ≤ 2048) (v1 : Int32) : wpX_above (fun r => wpY_above (fun r' v' => r' = r ∧ i_Rel (k + 4) u v') v v1) u v1 := by
  obtain ⟨n, L, R, D, l, r, G, w, dd, rfl, rfl, h⟩ := I
  have hn := h.2.1
  unfold wpX_above
  dsimp only
  rcases gv_cases v1 hn with ho | ⟨p, hp, rfl⟩
  · exact gv_xis0 ho (br_t rfl (gv_yab_0 h ho (fun w' h' => ⟨rfl, gv_mk h'⟩)))
  · obtain ⟨r0, hX, hY⟩ := gv_abv_l (L := L) (R := R) (D := D) (l := l) (r := r) (G := G) hn hp n 0 0 (by omega)
    refine gv_xis1 hn hp (br_f (by decide) ⟨n + 1, hX _ ?_⟩)
    unfold wpY_above
    dsimp only
    exact gv_ywork h (fun w' h' hA => ⟨n + 1, hY w' dd _ hA ⟨rfl, gv_mk h'⟩⟩)
theorem i_vc_opposite {k : Nat} {u : SX} {v : SY} (I : i_Rel k u v) (hk : k + 4 ≤ 2048) (v1 : Int32) (v2 : Int32) : wpX_opposite (fun r => wpY_opposite (fun r' v' => r' = r ∧ i_Rel (k + 4) u v') v v1 v2) u v1 v2 := by
  obtain ⟨n, L, R, D, l, r, G, w, dd, rfl, rfl, h⟩ := I
  have hn := h.2.1
  unfold wpX_opposite
  dsimp only
  rcases gv_cases v1 hn with ho | ⟨p, hp, rfl⟩
  · exact gv_xis0 ho (br_t rfl (gv_yop_0 h (Or.inl ho) (fun w' h' => ⟨rfl, gv_mk h'⟩)))
  · rcases gv_cases v2 hn with ho | ⟨q, hq, rfl⟩
    · exact gv_xis1 hn hp (br_f (by decide) (gv_xis0 ho (br_t rfl (gv_yop_0 h (Or.inr ⟨⟨p, hp, rfl⟩, ho⟩) (fun w' h' => ⟨rfl, gv_mk h'⟩)))))
    · refine gv_xis1 hn hp (br_f (by decide) (gv_xis1 hn hq (br_f (by decide) (gv_xst (c := 0) (by omega) ?_))))
      by_cases zr : r (100 * p + 10 * q + 0) = 0
      · by_cases zl : l (100 * p + 10 * q + 0) = 0
        · rw [gv_sd0 zr zl]
          exact br_t rfl (gv_yop h hp hq (fun _ _ w' h' => ⟨rfl, gv_mk h'⟩) (fun z => absurd ⟨zr, zl⟩ z))
        · rw [gv_sd1 zr zl]
          exact br_f (by decide) (gv_yop h hp hq (fun _ z => absurd z zl) (fun _ w' h' => ⟨rfl, gv_mk h'⟩))
      · by_cases zl : l (100 * p + 10 * q + 0) = 0
        · rw [gv_sd2 zr zl]
          exact br_f (by decide) (gv_yop h hp hq (fun z _ => absurd z zr) (fun _ w' h' => ⟨rfl, gv_mk h'⟩))
        · rw [gv_sd3 zr zl]
          exact br_f (by decide) (gv_yop h hp hq (fun z _ => absurd z zr) (fun _ w' h' => ⟨rfl, gv_mk h'⟩))
end
