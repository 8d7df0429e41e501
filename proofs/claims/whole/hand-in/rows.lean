section
theorem pk_us {f : Nat → Int32} {k : Nat} {x : Int32} : upd f k x k = x := if_pos rfl
theorem pk_un {f : Nat → Int32} {k j : Nat} {x : Int32} (h : j ≠ k) : upd f k x j = f j := if_neg h
theorem pk_sub {a b : Nat} (h : b ≤ a) : nI a - nI b = nI (a - b) := by
  obtain ⟨c, rfl⟩ : ∃ c, a = c + b := ⟨a - b, by omega⟩
  rw [← nI_add, Int32.add_sub_cancel, Nat.add_sub_cancel]
theorem pk_m1 (n : Nat) : nI (n + 1) + (-1) = nI n := by
  rw [← nI_1, Int32.add_assoc, show (1 : Int32) + (-1) = 0 from rfl, Int32.add_zero]
theorem pk_mul (a b : Nat) : nI a * nI b = nI (a * b) := (Int32.ofNat_mul a b).symm
theorem pk_div {a d : Nat} (ha : a < 2 ^ 31) (h0 : 0 < d) (hd : d < 2 ^ 31) : nI a / nI d = nI (a / d) := by
  apply Int32.toInt_inj.mp
  rw [lg_idiv_nonneg (by rw [nI_toInt ha]; omega) (by rw [nI_toInt hd]; omega), nI_toInt ha, nI_toInt hd, nI_toInt (Nat.lt_of_le_of_lt (Nat.div_le_self a d) ha)]
  first | rfl | exact (Int.natCast_ediv _ _).symm
theorem pk_rem {a d : Nat} (ha : a < 2 ^ 31) (h0 : 0 < d) (hd : d < 2 ^ 31) : nI a - nI a / nI d * nI d = nI (a % d) := by
  rw [pk_div ha h0 hd, pk_mul, pk_sub (Nat.div_mul_le_self a d)]
  exact congrArg nI (by have := Nat.div_add_mod' a d; omega)
theorem pk_sub_toInt {a b : Nat} (ha : a < 2 ^ 30) (hb : b < 2 ^ 30) : (nI a - nI b).toInt = (a : Int) - b := by
  rw [Int32.toInt_sub, nI_toInt (by omega), nI_toInt (by omega)]
  exact Int.bmod_eq_of_le (by omega) (by omega)
theorem pk_ix (x : Int32) {n : Nat} (hn : n < 2 ^ 31) : x < 0 ∨ nI n ≤ x ∨ ∃ j : Nat, j < n ∧ x = nI j := by
  by_cases h : x < 0
  · exact Or.inl h
  · obtain ⟨j, hj, rfl⟩ := nI_of h
    by_cases h2 : j < n
    · exact Or.inr (Or.inr ⟨j, h2, rfl⟩)
    · exact Or.inr (Or.inl (nI_le (by omega) hj))
theorem pk_le {x y : Int32} {A B : Prop} (a b : Nat) (f : a ≤ b → A) (g : b < a → B) (hx : x = nI a := by rfl) (hy : y = nI b := by rfl) (ha : a < 2 ^ 31 := by omega) (hb : b < 2 ^ 31 := by omega) : (x ≤ y → A) ∧ (¬ x ≤ y → B) := by
  subst hx hy
  rw [nI_leI ha hb]
  exact ⟨f, fun z => g (by omega)⟩
theorem pk_lt {x y : Int32} {A B : Prop} (a b : Nat) (f : a < b → A) (g : b ≤ a → B) (hx : x = nI a := by rfl) (hy : y = nI b := by rfl) (ha : a < 2 ^ 31 := by omega) (hb : b < 2 ^ 31 := by omega) : (x < y → A) ∧ (¬ x < y → B) := by
  subst hx hy
  rw [nI_ltI ha hb]
  exact ⟨f, fun z => g (by omega)⟩
theorem pk_eq {x y : Int32} {A B : Prop} (a b : Nat) (f : a = b → A) (g : a ≠ b → B) (hx : x = nI a := by rfl) (hy : y = nI b := by rfl) (ha : a < 2 ^ 31 := by omega) (hb : b < 2 ^ 31 := by omega) : (x = y → A) ∧ (¬ x = y → B) := by
  subst hx hy
  rw [nI_eq ha hb]
  exact ⟨f, g⟩
theorem pk_in {x : Int32} (n N : Nat) (h : n < N) (hx : x = nI n := by rfl) (hN : N < 2 ^ 31 := by omega) : vp_in x N := by
  subst hx
  exact vp_in_nI h hN
theorem pk_cl {x : Int32} (n : Nat) (hx : x = nI n := by rfl) (h : n < 2 ^ 31 := by omega) : x.toNatClampNeg = n := by
  subst hx
  exact nI_clamp h
theorem pk_tn {n : Nat} (h : n < 2 ^ 32) : (nI n).toBitVec.toNat = n := Nat.mod_eq_of_lt h
theorem pk_and (x : Int32) {m : Int32} (k : Nat) (hm : m.toBitVec.toNat = 2 ^ k - 1) : x &&& m = nI (x.toBitVec.toNat % 2 ^ k) := by
  apply Int32.toBitVec_inj.mp
  apply BitVec.eq_of_toNat_eq
  rw [Int32.toBitVec_and, BitVec.toNat_and, hm, Nat.and_two_pow_sub_one_eq_mod]
  show _ = (BitVec.ofNat 32 _).toNat
  rw [BitVec.toNat_ofNat]
  exact (Nat.mod_eq_of_lt (Nat.lt_of_le_of_lt (Nat.mod_le _ _) x.toBitVec.isLt)).symm
theorem pk_andN {n : Nat} (h : n < 2 ^ 32) {m : Int32} (k : Nat) (hm : m.toBitVec.toNat = 2 ^ k - 1) : nI n &&& m = nI (n % 2 ^ k) := by
  rw [pk_and _ k hm, pk_tn h]
theorem pk_shl (a s : Int32) (k : Nat) (hs : (s.toBitVec.smod 32).toNat = k) : (a <<< s).toBitVec.toNat = a.toBitVec.toNat * 2 ^ k % 2 ^ 32 := by
  show (a.toBitVec <<< (s.toBitVec.smod 32).toNat).toNat = _
  rw [hs, BitVec.toNat_shiftLeft, Nat.shiftLeft_eq]
theorem pk_shlN {n : Nat} (s : Int32) (k : Nat) (hs : (s.toBitVec.smod 32).toNat = k) (h : n * 2 ^ k < 2 ^ 32) : nI n <<< s = nI (n * 2 ^ k) := by
  apply Int32.toBitVec_inj.mp
  apply BitVec.eq_of_toNat_eq
  have hn : n < 2 ^ 32 := Nat.lt_of_le_of_lt (Nat.le_mul_of_pos_right n (Nat.two_pow_pos k)) h
  rw [pk_shl _ _ k hs, pk_tn hn, pk_tn h, Nat.mod_eq_of_lt h]
theorem pk_shr (a s : Int32) (k : Nat) (hs : (s.toBitVec.smod 32).toNat = k) : (a >>> s).toInt = a.toInt >>> k := by
  show (a.toBitVec.sshiftRight (s.toBitVec.smod 32).toNat).toInt = _
  rw [hs, BitVec.toInt_sshiftRight]
  rfl
theorem pk_shrN {n : Nat} (h : n < 2 ^ 31) (s : Int32) (k : Nat) (hs : (s.toBitVec.smod 32).toNat = k) : nI n >>> s = nI (n / 2 ^ k) := by
  apply Int32.toInt_inj.mp
  have h2 : n / 2 ^ k ≤ n := Nat.div_le_self _ _
  rw [pk_shr _ _ k hs, nI_toInt h, nI_toInt (by omega), Int.shiftRight_eq_div_pow]
  rfl
theorem pk_ushr (x s : Int32) (k : Nat) (hs : ((s.toUInt32 &&& Int32.toUInt32 31).toBitVec % 32).toNat = k) : (x.toUInt32 >>> (s.toUInt32 &&& Int32.toUInt32 31)).toInt32.toBitVec.toNat = x.toBitVec.toNat / 2 ^ k := by
  have e : (x.toUInt32 >>> (s.toUInt32 &&& Int32.toUInt32 31)).toInt32.toBitVec = x.toBitVec >>> k := by
    rw [← hs]
    exact UInt32.toBitVec_shiftRight _ _
  rw [e, BitVec.toNat_ushiftRight, Nat.shiftRight_eq_div_pow]
theorem pk_ushrN {n : Nat} (hn : n < 2 ^ 32) (s : Int32) (k : Nat) (hs : ((s.toUInt32 &&& Int32.toUInt32 31).toBitVec % 32).toNat = k) : ((nI n).toUInt32 >>> (s.toUInt32 &&& Int32.toUInt32 31)).toInt32 = nI (n / 2 ^ k) := by
  apply Int32.toBitVec_inj.mp
  apply BitVec.eq_of_toNat_eq
  rw [pk_ushr _ s k hs, pk_tn hn, pk_tn (Nat.lt_of_le_of_lt (Nat.div_le_self _ _) hn)]
theorem pk_loop {σ : Type} (W : Nat → Nat → σ → Prop) (I : Nat → σ → Prop) (e i0 : Nat) (s : σ) (hi : i0 ≤ e) (h0 : I i0 s) (hx : ∀ n s, I e s → W (n + 1) e s)
    (hs : ∀ n i s, i < e → I i s → (∀ s', I (i + 1) s' → W n (i + 1) s') → W (n + 1) i s) : ∃ n, W n i0 s :=
  ⟨e + 1, loop_i W I e hx hs (e + 1) i0 s hi (by omega) h0⟩
theorem lp1 {A1 : Type} (W : Nat → A1 → Prop) (I : A1 → Prop) (μ : A1 → Nat) (hs : ∀ (n : Nat) (a1 : A1), I a1 → (∀ (b1 : A1), I b1 → μ b1 < μ a1 → W n b1) → W (n + 1) a1) (a1 : A1) (h : I a1) : ∃ n, W n a1 :=
  loop_m (σ := A1) (fun n s => W n s) (fun s => I s) (fun s => μ s) (fun n s hI hk => hs n s hI (fun b1 h9 hm => hk b1 h9 hm)) a1 h
theorem lp2 {A1 A2 : Type} (W : Nat → A1 → A2 → Prop) (I : A1 → A2 → Prop) (μ : A1 → A2 → Nat) (hs : ∀ (n : Nat) (a1 : A1) (a2 : A2), I a1 a2 → (∀ (b1 : A1) (b2 : A2), I b1 b2 → μ b1 b2 < μ a1 a2 → W n b1 b2) → W (n + 1) a1 a2) (a1 : A1) (a2 : A2) (h : I a1 a2) : ∃ n, W n a1 a2 :=
  loop_m (σ := A1 × A2) (fun n s => W n s.1 s.2) (fun s => I s.1 s.2) (fun s => μ s.1 s.2) (fun n s hI hk => hs n s.1 s.2 hI (fun b1 b2 h9 hm => hk (b1, b2) h9 hm)) (a1, a2) h
theorem lp3 {A1 A2 A3 : Type} (W : Nat → A1 → A2 → A3 → Prop) (I : A1 → A2 → A3 → Prop) (μ : A1 → A2 → A3 → Nat) (hs : ∀ (n : Nat) (a1 : A1) (a2 : A2) (a3 : A3), I a1 a2 a3 → (∀ (b1 : A1) (b2 : A2) (b3 : A3), I b1 b2 b3 → μ b1 b2 b3 < μ a1 a2 a3 → W n b1 b2 b3) → W (n + 1) a1 a2 a3) (a1 : A1) (a2 : A2) (a3 : A3) (h : I a1 a2 a3) : ∃ n, W n a1 a2 a3 :=
  loop_m (σ := A1 × A2 × A3) (fun n s => W n s.1 s.2.1 s.2.2) (fun s => I s.1 s.2.1 s.2.2) (fun s => μ s.1 s.2.1 s.2.2) (fun n s hI hk => hs n s.1 s.2.1 s.2.2 hI (fun b1 b2 b3 h9 hm => hk (b1, b2, b3) h9 hm)) (a1, a2, a3) h
theorem lp4 {A1 A2 A3 A4 : Type} (W : Nat → A1 → A2 → A3 → A4 → Prop) (I : A1 → A2 → A3 → A4 → Prop) (μ : A1 → A2 → A3 → A4 → Nat) (hs : ∀ (n : Nat) (a1 : A1) (a2 : A2) (a3 : A3) (a4 : A4), I a1 a2 a3 a4 → (∀ (b1 : A1) (b2 : A2) (b3 : A3) (b4 : A4), I b1 b2 b3 b4 → μ b1 b2 b3 b4 < μ a1 a2 a3 a4 → W n b1 b2 b3 b4) → W (n + 1) a1 a2 a3 a4) (a1 : A1) (a2 : A2) (a3 : A3) (a4 : A4) (h : I a1 a2 a3 a4) : ∃ n, W n a1 a2 a3 a4 :=
  loop_m (σ := A1 × A2 × A3 × A4) (fun n s => W n s.1 s.2.1 s.2.2.1 s.2.2.2) (fun s => I s.1 s.2.1 s.2.2.1 s.2.2.2) (fun s => μ s.1 s.2.1 s.2.2.1 s.2.2.2) (fun n s hI hk => hs n s.1 s.2.1 s.2.2.1 s.2.2.2 hI (fun b1 b2 b3 b4 h9 hm => hk (b1, b2, b3, b4) h9 hm)) (a1, a2, a3, a4) h
theorem lp5 {A1 A2 A3 A4 A5 : Type} (W : Nat → A1 → A2 → A3 → A4 → A5 → Prop) (I : A1 → A2 → A3 → A4 → A5 → Prop) (μ : A1 → A2 → A3 → A4 → A5 → Nat) (hs : ∀ (n : Nat) (a1 : A1) (a2 : A2) (a3 : A3) (a4 : A4) (a5 : A5), I a1 a2 a3 a4 a5 → (∀ (b1 : A1) (b2 : A2) (b3 : A3) (b4 : A4) (b5 : A5), I b1 b2 b3 b4 b5 → μ b1 b2 b3 b4 b5 < μ a1 a2 a3 a4 a5 → W n b1 b2 b3 b4 b5) → W (n + 1) a1 a2 a3 a4 a5) (a1 : A1) (a2 : A2) (a3 : A3) (a4 : A4) (a5 : A5) (h : I a1 a2 a3 a4 a5) : ∃ n, W n a1 a2 a3 a4 a5 :=
  loop_m (σ := A1 × A2 × A3 × A4 × A5) (fun n s => W n s.1 s.2.1 s.2.2.1 s.2.2.2.1 s.2.2.2.2) (fun s => I s.1 s.2.1 s.2.2.1 s.2.2.2.1 s.2.2.2.2) (fun s => μ s.1 s.2.1 s.2.2.1 s.2.2.2.1 s.2.2.2.2) (fun n s hI hk => hs n s.1 s.2.1 s.2.2.1 s.2.2.2.1 s.2.2.2.2 hI (fun b1 b2 b3 b4 b5 h9 hm => hk (b1, b2, b3, b4, b5) h9 hm)) (a1, a2, a3, a4, a5) h
theorem lp6 {A1 A2 A3 A4 A5 A6 : Type} (W : Nat → A1 → A2 → A3 → A4 → A5 → A6 → Prop) (I : A1 → A2 → A3 → A4 → A5 → A6 → Prop) (μ : A1 → A2 → A3 → A4 → A5 → A6 → Nat) (hs : ∀ (n : Nat) (a1 : A1) (a2 : A2) (a3 : A3) (a4 : A4) (a5 : A5) (a6 : A6), I a1 a2 a3 a4 a5 a6 → (∀ (b1 : A1) (b2 : A2) (b3 : A3) (b4 : A4) (b5 : A5) (b6 : A6), I b1 b2 b3 b4 b5 b6 → μ b1 b2 b3 b4 b5 b6 < μ a1 a2 a3 a4 a5 a6 → W n b1 b2 b3 b4 b5 b6) → W (n + 1) a1 a2 a3 a4 a5 a6) (a1 : A1) (a2 : A2) (a3 : A3) (a4 : A4) (a5 : A5) (a6 : A6) (h : I a1 a2 a3 a4 a5 a6) : ∃ n, W n a1 a2 a3 a4 a5 a6 :=
  loop_m (σ := A1 × A2 × A3 × A4 × A5 × A6) (fun n s => W n s.1 s.2.1 s.2.2.1 s.2.2.2.1 s.2.2.2.2.1 s.2.2.2.2.2) (fun s => I s.1 s.2.1 s.2.2.1 s.2.2.2.1 s.2.2.2.2.1 s.2.2.2.2.2) (fun s => μ s.1 s.2.1 s.2.2.1 s.2.2.2.1 s.2.2.2.2.1 s.2.2.2.2.2) (fun n s hI hk => hs n s.1 s.2.1 s.2.2.1 s.2.2.2.1 s.2.2.2.2.1 s.2.2.2.2.2 hI (fun b1 b2 b3 b4 b5 b6 h9 hm => hk (b1, b2, b3, b4, b5, b6) h9 hm)) (a1, a2, a3, a4, a5, a6) h
def bt (x : Int32) (i : Nat) : Bool := x.toBitVec.getLsbD i
theorem b_ext {x y : Int32} (h : ∀ i, i < 32 → bt x i = bt y i) : x = y := Int32.toBitVec_inj.mp (BitVec.eq_of_getLsbD_eq (fun i hi => h i hi))
theorem b_or (x y : Int32) (i : Nat) : bt (x ||| y) i = (bt x i || bt y i) := by unfold bt; rw [Int32.toBitVec_or, BitVec.getLsbD_or]
theorem b_and (x y : Int32) (i : Nat) : bt (x &&& y) i = (bt x i && bt y i) := by unfold bt; rw [Int32.toBitVec_and, BitVec.getLsbD_and]
theorem b_xor (x y : Int32) (i : Nat) : bt (x ^^^ y) i = (bt x i ^^ bt y i) := by unfold bt; rw [Int32.toBitVec_xor, BitVec.getLsbD_xor]
theorem b_big {x : Int32} {i : Nat} (h : 32 ≤ i) : bt x i = false := BitVec.getLsbD_of_ge _ _ h
theorem b_0 (i : Nat) : bt 0 i = false := BitVec.getLsbD_zero
theorem s_l : ∀ n, n < 32 → ((nI n &&& 31).toBitVec.smod 32).toNat = n := by decide +kernel
theorem s_u : ∀ n, n < 32 → (((nI n).toUInt32 &&& Int32.toUInt32 31).toBitVec % 32).toNat = n := by decide +kernel
theorem b_shl (n : Nat) (hn : n < 32) (x : Int32) {i : Nat} (hi : i < 32) : bt (x <<< (nI n &&& 31)) i = (decide (n ≤ i) && bt x (i - n)) := by
  unfold bt
  rw [Int32.toBitVec_shiftLeft]
  show (x.toBitVec <<< ((nI n &&& 31).toBitVec.smod 32).toNat).getLsbD i = _
  rw [s_l n hn, BitVec.getLsbD_shiftLeft]
  rcases Nat.lt_or_ge i n with h | h
  · simp [h, Nat.not_le.mpr h]
  · simp [hi, h, Nat.not_lt.mpr h]
theorem b_ushr (n : Nat) (hn : n < 32) (x : Int32) (i : Nat) : bt ((x.toUInt32 >>> ((nI n).toUInt32 &&& Int32.toUInt32 31)).toInt32) i = bt x (n + i) := by
  show (x.toUInt32 >>> ((nI n).toUInt32 &&& Int32.toUInt32 31)).toBitVec.getLsbD i = x.toUInt32.toBitVec.getLsbD (n + i)
  rw [UInt32.toBitVec_shiftRight]
  show (x.toUInt32.toBitVec >>> (((nI n).toUInt32 &&& Int32.toUInt32 31).toBitVec % 32).toNat).getLsbD i = _
  rw [s_u n hn, BitVec.getLsbD_ushiftRight]
theorem nx_and (a b : Nat) : nI a &&& nI b = nI (a &&& b) := by
  apply Int32.toBitVec_inj.1
  show BitVec.ofNat 32 a &&& BitVec.ofNat 32 b = BitVec.ofNat 32 (a &&& b)
  apply BitVec.eq_of_getLsbD_eq
  intro i hi
  simp [hi]
theorem nx_xor (a b : Nat) : nI a ^^^ nI b = nI (a ^^^ b) := by
  apply Int32.toBitVec_inj.1
  show BitVec.ofNat 32 a ^^^ BitVec.ofNat 32 b = BitVec.ofNat 32 (a ^^^ b)
  apply BitVec.eq_of_getLsbD_eq
  intro i hi
  simp [hi]
end
section
/-! the lines: 24 codes, four digits each; the grids: one list for both sides -/
theorem nx_or (a b : Nat) : nI a ||| nI b = nI (a ||| b) := by
  apply Int32.toBitVec_inj.1
  show BitVec.ofNat 32 a ||| BitVec.ofNat 32 b = BitVec.ofNat 32 (a ||| b)
  apply BitVec.eq_of_getLsbD_eq
  intro i hi
  simp [hi]
def sk_code (k : Nat) : Nat := [27, 30, 39, 45, 54, 57, 75, 78, 99, 108, 114, 120, 135, 141, 147, 156, 177, 180, 198, 201, 210, 216, 225, 228].getD k 0
def sk_num (k : Nat) : Nat := [1234, 1243, 1324, 1342, 1423, 1432, 2134, 2143, 2314, 2341, 2413, 2431, 3124, 3142, 3214, 3241, 3412, 3421, 4123, 4132, 4213, 4231, 4312, 4321].getD k 0
def sk_M (k : Nat) : Nat := [13051520, 13310272, 3779712, 3562560, 6873920, 9753472, 13860890, 14893093, 3055666, 1921073, 11055117, 5533710, 7343658, 11537685, 9177784, 4982132, 10748615, 5767627, 117545, 182038, 146028, 79260, 170195, 91363].getD k 0
def sk_ap (a b : Nat) : Bool := (sk_M a).testBit b
def sk_dig (k c : Nat) : Nat := sk_code k / 4 ^ (3 - c) % 4 + 1
def sk_d (j : Nat) : Nat := sk_dig (j / 4) (j % 4)
def sk_seen (m : Nat) : Nat → Nat
  | 0 => 0
  | i + 1 => sk_seen m i ||| 2 ^ (m / 4 ^ i % 4)
def sk_msk (x : Nat) : Nat → Nat
  | 0 => 0
  | i + 1 => sk_msk x i ||| 2 ^ (x / 10 ^ i % 10)
def sk_cx (i : Nat) : Nat := ([27, 30, 39, 45, 54, 57, 75, 78, 99, 108, 114, 120, 135, 141, 147, 156, 177, 180, 198, 201, 210, 216, 225, 228].filter (fun t => decide (t < i))).length
def sk_cy (i : Nat) : Nat := ([1234, 1243, 1324, 1342, 1423, 1432, 2134, 2143, 2314, 2341, 2413, 2431, 3124, 3142, 3214, 3241, 3412, 3421, 4123, 4132, 4213, 4231, 4312, 4321].filter (fun t => decide (t < 1111 + i))).length
theorem sk_seen_lt (m : Nat) : ∀ i, sk_seen m i < 2 ^ 4
  | 0 => Nat.two_pow_pos 4
  | i + 1 => Nat.or_lt_two_pow (sk_seen_lt m i) (Nat.pow_lt_pow_right (by decide) (Nat.mod_lt _ (by decide)))
theorem sk_msk_lt (m : Nat) : ∀ i, sk_msk m i < 2 ^ 10
  | 0 => Nat.two_pow_pos 10
  | i + 1 => Nat.or_lt_two_pow (sk_msk_lt m i) (Nat.pow_lt_pow_right (by decide) (Nat.mod_lt _ (by decide)))
theorem sk_xt : ∀ i, i < 256 → sk_seen i 4 = 15 → sk_cx i < 24 ∧ sk_code (sk_cx i) = i ∧ sk_cx (i + 1) = sk_cx i + 1 := by decide +kernel
theorem sk_xf : ∀ i, i < 256 → ¬ sk_seen i 4 = 15 → sk_cx (i + 1) = sk_cx i := by decide +kernel
theorem sk_xe : sk_cx 256 = 24 := by decide +kernel
theorem sk_yt : ∀ i, i < 3211 → sk_msk (1111 + i) 4 = 30 → sk_num (sk_cy i) = 1111 + i ∧ sk_cy (i + 1) = sk_cy i + 1 := by decide +kernel
theorem sk_yf : ∀ i, i < 3211 → ¬ sk_msk (1111 + i) 4 = 30 → sk_cy (i + 1) = sk_cy i := by decide +kernel
theorem sk_yl : ∀ i, i < 3211 → sk_cy i < 24 := by decide +kernel
theorem sk_ye : sk_cy 3211 = 24 := by decide +kernel
theorem sk_code_lt : ∀ k, k < 24 → sk_code k < 256 := by decide +kernel
theorem sk_nd0 : ∀ k, k < 24 → sk_num k / 1000 = sk_dig k 0 := by decide +kernel
theorem sk_nd1 : ∀ k, k < 24 → sk_num k / 100 % 10 = sk_dig k 1 := by decide +kernel
theorem sk_nd2 : ∀ k, k < 24 → sk_num k / 10 % 10 = sk_dig k 2 := by decide +kernel
theorem sk_nd3 : ∀ k, k < 24 → sk_num k % 10 = sk_dig k 3 := by decide +kernel
/-- X's clash, by the codes -/
theorem sk_apX : ∀ a, a < 24 → ∀ b, b < 24 → (sk_ap a b = true ↔ ((sk_code a ^^^ sk_code b) &&& 3 ≠ 0 ∧ (sk_code a ^^^ sk_code b) &&& 12 ≠ 0 ∧ (sk_code a ^^^ sk_code b) &&& 48 ≠ 0 ∧ (sk_code a ^^^ sk_code b) &&& 192 ≠ 0)) := by decide +kernel
/-- Y's apart, by the digits -/
theorem sk_apY : ∀ a, a < 24 → ∀ b, b < 24 → (sk_ap a b = true ↔ (sk_dig a 0 ≠ sk_dig b 0 ∧ sk_dig a 1 ≠ sk_dig b 1 ∧ sk_dig a 2 ≠ sk_dig b 2 ∧ sk_dig a 3 ≠ sk_dig b 3)) := by decide +kernel
theorem sk_dig_r (k c : Nat) : 1 ≤ sk_dig k c ∧ sk_dig k c ≤ 4 := by
  have h : sk_code k / 4 ^ (3 - c) % 4 < 4 := Nat.mod_lt _ (by decide)
  unfold sk_dig
  omega
/-! the list of all grids, as both constructors make it: the newest first -/
def sk_it {α : Type} (f : Nat → α → α) : Nat → α → α
  | 0, s => s
  | i + 1, s => f i (sk_it f i s)
def sk_pk (a b c d : Nat) : Nat := a + 32 * b + 1024 * c + 32768 * d
def sk_sD (a b c d : Nat) (s : List Nat) : List Nat := if sk_ap a d = true ∧ sk_ap b d = true ∧ sk_ap c d = true ∧ s.length < 576 then sk_pk a b c d :: s else s
def sk_sC (a b c : Nat) (s : List Nat) : List Nat := if sk_ap a c = true ∧ sk_ap b c = true then sk_it (sk_sD a b c) 24 s else s
def sk_sB (a b : Nat) (s : List Nat) : List Nat := if sk_ap a b = true then sk_it (sk_sC a b) 24 s else s
def sk_sA (a : Nat) (s : List Nat) : List Nat := sk_it (sk_sB a) 24 s
def sk_R : List Nat := sk_it sk_sA 24 []
def sk_sm (f : Nat → Nat) : Nat → Nat
  | 0 => 0
  | n + 1 => sk_sm f n + f n
def sk_cD (a b c d : Nat) : Nat := if sk_ap a d = true ∧ sk_ap b d = true ∧ sk_ap c d = true then 1 else 0
def sk_cC (a b c : Nat) : Nat := if sk_ap a c = true ∧ sk_ap b c = true then sk_sm (sk_cD a b c) 24 else 0
def sk_cB (a b : Nat) : Nat := if sk_ap a b = true then sk_sm (sk_cC a b) 24 else 0
def sk_cA (a : Nat) : Nat := sk_sm (sk_cB a) 24
theorem sk_total : sk_sm sk_cA 24 = 576 := by decide +kernel
theorem sk_len (f : Nat → List Nat → List Nat) (g : Nat → Nat) (h : ∀ i s, s.length ≤ 576 → (f i s).length = min 576 (s.length + g i)) (s : List Nat) (hs : s.length ≤ 576) : ∀ n, (sk_it f n s).length = min 576 (s.length + sk_sm g n)
  | 0 => by
    show s.length = min 576 (s.length + 0)
    omega
  | n + 1 => by
    have ih := sk_len f g h s hs n
    show (f n (sk_it f n s)).length = min 576 (s.length + (sk_sm g n + g n))
    rw [h n (sk_it f n s) (by omega), ih]
    omega
theorem sk_lD (a b c d : Nat) (s : List Nat) (hs : s.length ≤ 576) : (sk_sD a b c d s).length = min 576 (s.length + sk_cD a b c d) := by
  unfold sk_sD sk_cD
  by_cases h : sk_ap a d = true ∧ sk_ap b d = true ∧ sk_ap c d = true
  · rw [if_pos h]
    by_cases h2 : s.length < 576
    · rw [if_pos ⟨h.1, h.2.1, h.2.2, h2⟩, List.length_cons]
      omega
    · rw [if_neg (fun z => h2 z.2.2.2)]
      omega
  · rw [if_neg h, if_neg (fun z => h ⟨z.1, z.2.1, z.2.2.1⟩)]
    omega
theorem sk_lC (a b c : Nat) (s : List Nat) (hs : s.length ≤ 576) : (sk_sC a b c s).length = min 576 (s.length + sk_cC a b c) := by
  unfold sk_sC sk_cC
  by_cases h : sk_ap a c = true ∧ sk_ap b c = true
  · rw [if_pos h, if_pos h]
    exact sk_len _ _ (fun i s => sk_lD a b c i s) s hs 24
  · rw [if_neg h, if_neg h]
    omega
theorem sk_lB (a b : Nat) (s : List Nat) (hs : s.length ≤ 576) : (sk_sB a b s).length = min 576 (s.length + sk_cB a b) := by
  unfold sk_sB sk_cB
  by_cases h : sk_ap a b = true
  · rw [if_pos h, if_pos h]
    exact sk_len _ _ (fun i s => sk_lC a b i s) s hs 24
  · rw [if_neg h, if_neg h]
    omega
theorem sk_lR : sk_R.length = 576 := by
  have h := sk_len sk_sA sk_cA (fun i s hs => sk_len (sk_sB i) (sk_cB i) (fun j s => sk_lB i j s) s hs 24) [] (by decide) 24
  rw [sk_total] at h
  have e : min 576 (([] : List Nat).length + 576) = 576 := by decide
  exact h.trans e
/-! what is in the list -/
def sk_Ok (q : Nat) : Prop := ∃ a b c d, a < 24 ∧ b < 24 ∧ c < 24 ∧ d < 24 ∧ q = sk_pk a b c d
theorem sk_inv {α : Type} (P : α → Prop) (f : Nat → α → α) (s : α) (h0 : P s) : ∀ n, (∀ i s, i < n → P s → P (f i s)) → P (sk_it f n s)
  | 0, _ => h0
  | n + 1, h => h n _ (by omega) (sk_inv P f s h0 n (fun i s hi => h i s (by omega)))
def sk_Al (s : List Nat) : Prop := ∀ q, q ∈ s → sk_Ok q
theorem sk_Ra : sk_Al sk_R := by
  refine sk_inv sk_Al sk_sA [] (fun q h => by cases h) 24 ?_
  intro a s ha h
  refine sk_inv sk_Al (sk_sB a) s h 24 ?_
  intro b s hb h
  unfold sk_sB
  split
  · refine sk_inv sk_Al (sk_sC a b) s h 24 ?_
    intro c s hc h
    unfold sk_sC
    split
    · refine sk_inv sk_Al (sk_sD a b c) s h 24 ?_
      intro d s hd h
      unfold sk_sD
      split
      · intro q hq
        cases hq with
        | head => exact ⟨a, b, c, d, ha, hb, hc, hd, rfl⟩
        | tail _ hq => exact h q hq
      · exact h
    · exact h
  · exact h
/-- the i-th of a list that is kept newest first -/
def sk_el : List Nat → Nat → Nat
  | [], _ => 0
  | q :: t, i => if i = t.length then q else sk_el t i
theorem sk_elOk : ∀ (s : List Nat), sk_Al s → ∀ i, i < s.length → sk_Ok (sk_el s i)
  | [], _, i, hi => absurd hi (Nat.not_lt_zero i)
  | q :: t, h, i, hi => by
    unfold sk_el
    by_cases e : i = t.length
    · rw [if_pos e]
      exact h q List.mem_cons_self
    · rw [if_neg e]
      rw [List.length_cons] at hi
      exact sk_elOk t (fun p hp => h p (List.mem_cons_of_mem q hp)) i (by omega)
/-- an array that holds the list, each number as e writes it -/
def sk_Ho (e : Nat → Int32) (g : Nat → Int32) (s : List Nat) : Prop := ∀ i, i < s.length → g i = e (sk_el s i)
theorem sk_Ho0 (e g : Nat → Int32) : sk_Ho e g [] := fun i hi => absurd hi (Nat.not_lt_zero i)
theorem sk_Hop {e g : Nat → Int32} {s : List Nat} (q : Nat) (h : sk_Ho e g s) : sk_Ho e (upd g s.length (e q)) (q :: s) := by
  intro i hi
  rw [List.length_cons] at hi
  unfold sk_el
  by_cases z : i = s.length
  · rw [if_pos z, z, pk_us]
  · rw [if_neg z, pk_un z]
    exact h i (by omega)
end
section
/-! the 576 grids by their heights; what a solution is; the answers as both sides count them -/
def sk_q (i : Nat) : Nat := sk_el sk_R i
def sk_row (i r : Nat) : Nat := sk_q i / 32 ^ r % 32
def sk_H (i c : Nat) : Nat := sk_dig (sk_row i (c / 4)) (c % 4)
/-- a packed number's grid as X packs it -/
def sk_gN (q : Nat) : Nat := sk_code (q % 32) * 16777216 + sk_code (q / 32 % 32) * 65536 + sk_code (q / 1024 % 32) * 256 + sk_code (q / 32768 % 32)
theorem sk_H_r (i c : Nat) : 1 ≤ sk_H i c ∧ sk_H i c ≤ 4 := sk_dig_r _ _
theorem sk_qOk {i : Nat} (h : i < 576) : sk_Ok (sk_q i) := sk_elOk sk_R sk_Ra i (by rw [sk_lR]; exact h)
theorem sk_pk_rows {a b c d : Nat} (ha : a < 24) (hb : b < 24) (hc : c < 24) (hd : d < 24) : sk_pk a b c d % 32 = a ∧ sk_pk a b c d / 32 % 32 = b ∧ sk_pk a b c d / 1024 % 32 = c ∧ sk_pk a b c d / 32768 % 32 = d ∧ sk_pk a b c d < 1048576 := by
  unfold sk_pk
  omega
theorem sk_q_lt {i : Nat} (h : i < 576) : sk_q i < 1048576 := by
  obtain ⟨a, b, c, d, ha, hb, hc, hd, e⟩ := sk_qOk h
  rw [e]
  exact (sk_pk_rows ha hb hc hd).2.2.2.2
theorem sk_row_lt {i r : Nat} (h : i < 576) (hr : r < 4) : sk_row i r < 24 := by
  obtain ⟨a, b, c, d, ha, hb, hc, hd, e⟩ := sk_qOk h
  obtain ⟨e0, e1, e2, e3, _⟩ := sk_pk_rows ha hb hc hd
  unfold sk_row
  rw [e]
  have hr' : r = 0 ∨ r = 1 ∨ r = 2 ∨ r = 3 := by omega
  rcases hr' with rfl | rfl | rfl | rfl
  · show sk_pk a b c d / 1 % 32 < 24
    rw [Nat.div_one, e0]; exact ha
  · show sk_pk a b c d / 32 % 32 < 24
    rw [e1]; exact hb
  · show sk_pk a b c d / 1024 % 32 < 24
    rw [e2]; exact hc
  · show sk_pk a b c d / 32768 % 32 < 24
    rw [e3]; exact hd
theorem sk_split (A B C D : Nat) (hA : A < 256) (hB : B < 256) (hC : C < 256) (hD : D < 256) :
    (A * 16777216 + B * 65536 + C * 256 + D < 4294967296) ∧
    (A * 16777216 + B * 65536 + C * 256 + D) / 1073741824 % 4 = A / 64 % 4 ∧ (A * 16777216 + B * 65536 + C * 256 + D) / 268435456 % 4 = A / 16 % 4 ∧
    (A * 16777216 + B * 65536 + C * 256 + D) / 67108864 % 4 = A / 4 % 4 ∧ (A * 16777216 + B * 65536 + C * 256 + D) / 16777216 % 4 = A % 4 := by
  refine ⟨by omega, by omega, by omega, by omega, by omega⟩
theorem sk_split2 (A B C D : Nat) (hA : A < 256) (hB : B < 256) (hC : C < 256) (hD : D < 256) :
    (A * 16777216 + B * 65536 + C * 256 + D) / 4194304 % 4 = B / 64 % 4 ∧ (A * 16777216 + B * 65536 + C * 256 + D) / 1048576 % 4 = B / 16 % 4 ∧
    (A * 16777216 + B * 65536 + C * 256 + D) / 262144 % 4 = B / 4 % 4 ∧ (A * 16777216 + B * 65536 + C * 256 + D) / 65536 % 4 = B % 4 := by
  refine ⟨by omega, by omega, by omega, by omega⟩
theorem sk_split3 (A B C D : Nat) (hA : A < 256) (hB : B < 256) (hC : C < 256) (hD : D < 256) :
    (A * 16777216 + B * 65536 + C * 256 + D) / 16384 % 4 = C / 64 % 4 ∧ (A * 16777216 + B * 65536 + C * 256 + D) / 4096 % 4 = C / 16 % 4 ∧
    (A * 16777216 + B * 65536 + C * 256 + D) / 1024 % 4 = C / 4 % 4 ∧ (A * 16777216 + B * 65536 + C * 256 + D) / 256 % 4 = C % 4 := by
  refine ⟨by omega, by omega, by omega, by omega⟩
theorem sk_split4 (A B C D : Nat) (hA : A < 256) (hB : B < 256) (hC : C < 256) (hD : D < 256) :
    (A * 16777216 + B * 65536 + C * 256 + D) / 64 % 4 = D / 64 % 4 ∧ (A * 16777216 + B * 65536 + C * 256 + D) / 16 % 4 = D / 16 % 4 ∧
    (A * 16777216 + B * 65536 + C * 256 + D) / 4 % 4 = D / 4 % 4 ∧ (A * 16777216 + B * 65536 + C * 256 + D) % 4 = D % 4 := by
  refine ⟨by omega, by omega, by omega, by omega⟩
theorem sk_le16 {c : Nat} (h : c < 16) : c = 0 ∨ c = 1 ∨ c = 2 ∨ c = 3 ∨ c = 4 ∨ c = 5 ∨ c = 6 ∨ c = 7 ∨ c = 8 ∨ c = 9 ∨ c = 10 ∨ c = 11 ∨ c = 12 ∨ c = 13 ∨ c = 14 ∨ c = 15 := by omega
theorem sk_gN_H {i : Nat} (h : i < 576) : sk_gN (sk_q i) < 4294967296 ∧ ∀ c, c < 16 → sk_gN (sk_q i) / 4 ^ (15 - c) % 4 + 1 = sk_H i c := by
  have hA := sk_code_lt _ (sk_row_lt h (r := 0) (by decide))
  have hB := sk_code_lt _ (sk_row_lt h (r := 1) (by decide))
  have hC := sk_code_lt _ (sk_row_lt h (r := 2) (by decide))
  have hD := sk_code_lt _ (sk_row_lt h (r := 3) (by decide))
  have eg : sk_gN (sk_q i) = sk_code (sk_row i 0) * 16777216 + sk_code (sk_row i 1) * 65536 + sk_code (sk_row i 2) * 256 + sk_code (sk_row i 3) := by
    unfold sk_gN sk_row
    rw [show (32 : Nat) ^ 0 = 1 from rfl, Nat.div_one]
  obtain ⟨l, a0, a1, a2, a3⟩ := sk_split _ _ _ _ hA hB hC hD
  obtain ⟨b0, b1, b2, b3⟩ := sk_split2 _ _ _ _ hA hB hC hD
  obtain ⟨c0, c1, c2, c3⟩ := sk_split3 _ _ _ _ hA hB hC hD
  obtain ⟨d0, d1, d2, d3⟩ := sk_split4 _ _ _ _ hA hB hC hD
  rw [eg]
  refine ⟨l, fun c hc => ?_⟩
  unfold sk_H sk_dig
  rcases sk_le16 hc with rfl | rfl | rfl | rfl | rfl | rfl | rfl | rfl | rfl | rfl | rfl | rfl | rfl | rfl | rfl | rfl
  · show _ / 1073741824 % 4 + 1 = sk_code (sk_row i 0) / 64 % 4 + 1
    rw [a0]
  · show _ / 268435456 % 4 + 1 = sk_code (sk_row i 0) / 16 % 4 + 1
    rw [a1]
  · show _ / 67108864 % 4 + 1 = sk_code (sk_row i 0) / 4 % 4 + 1
    rw [a2]
  · show _ / 16777216 % 4 + 1 = sk_code (sk_row i 0) / 1 % 4 + 1
    rw [Nat.div_one, a3]
  · show _ / 4194304 % 4 + 1 = sk_code (sk_row i 1) / 64 % 4 + 1
    rw [b0]
  · show _ / 1048576 % 4 + 1 = sk_code (sk_row i 1) / 16 % 4 + 1
    rw [b1]
  · show _ / 262144 % 4 + 1 = sk_code (sk_row i 1) / 4 % 4 + 1
    rw [b2]
  · show _ / 65536 % 4 + 1 = sk_code (sk_row i 1) / 1 % 4 + 1
    rw [Nat.div_one, b3]
  · show _ / 16384 % 4 + 1 = sk_code (sk_row i 2) / 64 % 4 + 1
    rw [c0]
  · show _ / 4096 % 4 + 1 = sk_code (sk_row i 2) / 16 % 4 + 1
    rw [c1]
  · show _ / 1024 % 4 + 1 = sk_code (sk_row i 2) / 4 % 4 + 1
    rw [c2]
  · show _ / 256 % 4 + 1 = sk_code (sk_row i 2) / 1 % 4 + 1
    rw [Nat.div_one, c3]
  · show _ / 64 % 4 + 1 = sk_code (sk_row i 3) / 64 % 4 + 1
    rw [d0]
  · show _ / 16 % 4 + 1 = sk_code (sk_row i 3) / 16 % 4 + 1
    rw [d1]
  · show _ / 4 % 4 + 1 = sk_code (sk_row i 3) / 4 % 4 + 1
    rw [d2]
  · show _ / 1 % 4 + 1 = sk_code (sk_row i 3) / 1 % 4 + 1
    rw [Nat.div_one, Nat.div_one, d3]
/-! visible: four heights in a row, as both loops count them -/
def sk_vs (f : Nat → Int32) : Nat → Int32 × Int32
  | 0 => (0, 0)
  | i + 1 => if f i ≤ (sk_vs f i).1 then sk_vs f i else (f i, (sk_vs f i).2 + 1)
def sk_cell (p j : Nat) : Nat := if p < 4 then p * 4 + j else if p < 8 then (p - 4) * 4 + 3 - j else if p < 12 then j * 4 + (p - 8) else 12 + (p - 12) - j * 4
def sk_vis (i p : Nat) : Int32 := (sk_vs (fun j => nI (sk_H i (sk_cell p j))) 4).2
theorem sk_cell_lt : ∀ p, p < 16 → ∀ j, j < 4 → sk_cell p j < 16 := by decide +kernel
def sk_Sg (s : Int32) (x y : Nat) : Prop := s = 0 ∨ (s = 1 ∧ x < y) ∨ (s ≠ 0 ∧ s ≠ 1 ∧ y < x)
def sk_GO (g : Nat → Int32) (i c : Nat) : Prop := g c = 0 ∨ g c = nI (sk_H i c)
def sk_CO (cl : Nat → Int32) (i c : Nat) : Prop := cl c = 0 ∨ cl c = sk_vis i c
def sk_RO (r : Nat → Int32) (i c : Nat) : Prop := sk_Sg (r c) (sk_H i c) (sk_H i (c + 1))
def sk_DO (d : Nat → Int32) (i c : Nat) : Prop := sk_Sg (d c) (sk_H i c) (sk_H i (c + 4))
def sk_Sol (g cl r d : Nat → Int32) (i : Nat) : Prop := ∀ c, c < 16 → sk_GO g i c ∧ sk_CO cl i c ∧ sk_RO r i c ∧ sk_DO d i c
noncomputable def sk_S (g cl r d : Nat → Int32) (i : Nat) : Bool := @decide (sk_Sol g cl r d i) (Classical.propDecidable _)
theorem sk_S_t {g cl r d : Nat → Int32} {i : Nat} (h : sk_Sol g cl r d i) : sk_S g cl r d i = true := @decide_eq_true _ (Classical.propDecidable _) h
theorem sk_S_f {g cl r d : Nat → Int32} {i : Nat} (h : ¬ sk_Sol g cl r d i) : sk_S g cl r d i = false := @decide_eq_false _ (Classical.propDecidable _) h
/-! the answers -/
def sk_cn (P : Nat → Bool) : Nat → Nat
  | 0 => 0
  | i + 1 => sk_cn P i + (P i).toNat
theorem sk_cn_le (P : Nat → Bool) : ∀ n, sk_cn P n ≤ n
  | 0 => Nat.le_refl 0
  | n + 1 => by
    have h := sk_cn_le P n
    show sk_cn P n + (P n).toNat ≤ n + 1
    have h2 := Bool.toNat_le (P n)
    omega
theorem sk_cn_t {P : Nat → Bool} {i : Nat} (h : P i = true) : sk_cn P (i + 1) = sk_cn P i + 1 := by
  show sk_cn P i + (P i).toNat = _
  rw [h]
  rfl
theorem sk_cn_f {P : Nat → Bool} {i : Nat} (h : P i = false) : sk_cn P (i + 1) = sk_cn P i := by
  show sk_cn P i + (P i).toNat = _
  rw [h]
  rfl
def sk_mk (P : Nat → Bool) (c : Nat) : Nat → Int32
  | 0 => 0
  | i + 1 => if P i = true then sk_mk P c i ||| ((1 : Int32) <<< ((nI (sk_H i c) - 1) &&& 31)) else sk_mk P c i
def sk_ht (P : Nat → Bool) (c : Nat) (n : Int32) : Nat → Nat → Nat → Int32
  | 0, _, _ => 0
  | m + 1, i, k => if P i = true then (if nI k = n then nI (sk_H i c) else sk_ht P c n m (i + 1) (k + 1)) else sk_ht P c n m (i + 1) k
def sk_vo (P : Nat → Bool) (c : Nat) (h : Int32) (i : Nat) : Bool := P i && decide (nI (sk_H i c) = h)
/-- of 64 pairs of cell and height those that all solutions have -/
def sk_fx (P : Nat → Bool) (i : Nat) : Bool := decide (0 < sk_cn P 576) && decide (sk_cn (sk_vo P (i / 4) (nI (i % 4 + 1))) 576 = sk_cn P 576)
def sk_fc (P : Nat → Bool) : Nat := sk_cn (sk_fx P) 64
end
section
/-! X's fields of two bits, and the count of fixed cells -/
theorem sk_hX {G c : Nat} (hG : G < 4294967296) (hc : c < 16) : (((nI G).toUInt32 >>> ((2 * (15 - nI c)).toUInt32 &&& Int32.toUInt32 31)).toInt32 &&& 3) + 1 = nI (G / 4 ^ (15 - c) % 4 + 1) := by
  have e : 2 ^ (2 * (15 - c)) = 4 ^ (15 - c) := Nat.pow_mul 2 2 (15 - c)
  have hs : 2 * (15 - c) < 32 := by omega
  have h1 : (2 : Int32) * (15 - nI c) = nI (2 * (15 - c)) := by
    show nI 2 * (nI 15 - nI c) = _
    rw [pk_sub (show c ≤ 15 by omega), pk_mul]
  have h2 := pk_ushrN hG (nI (2 * (15 - c))) (2 * (15 - c)) (s_u _ hs)
  have h3 : nI (G / 4 ^ (15 - c)) &&& 3 = nI (G / 4 ^ (15 - c) % 4) := pk_andN (n := G / 4 ^ (15 - c)) (Nat.lt_of_le_of_lt (Nat.div_le_self _ _) hG) (m := 3) 2 (by decide)
  rw [h1, h2, e, h3, nI_1]
def sk_fl (x : Int32) (c : Nat) : Int32 := (x.toUInt32 >>> ((nI (2 * c)).toUInt32 &&& Int32.toUInt32 31)).toInt32 &&& 3
theorem sk_b3 : ∀ i, i < 32 → bt 3 i = decide (i < 2) := by decide +kernel
theorem sk_fl_b (x : Int32) {c i : Nat} (hc : c < 16) (hi : i < 32) : bt (sk_fl x c) i = (bt x (2 * c + i) && decide (i < 2)) := by
  unfold sk_fl
  rw [b_and, b_ushr (2 * c) (by omega), sk_b3 i hi]
theorem sk_fl0 (x : Int32) {c : Nat} (hc : c < 16) : sk_fl x c = 0 ↔ bt x (2 * c) = false ∧ bt x (2 * c + 1) = false := by
  constructor
  · intro h
    have h0 := sk_fl_b x (i := 0) hc (by decide)
    have h1 := sk_fl_b x (i := 1) hc (by decide)
    rw [h, b_0] at h0 h1
    constructor
    · cases e : bt x (2 * c)
      · rfl
      · rw [Nat.add_zero, e] at h0
        exact absurd h0 (by decide)
    · cases e : bt x (2 * c + 1)
      · rfl
      · rw [e] at h1
        exact absurd h1 (by decide)
  · intro h
    apply b_ext
    intro i hi
    rw [sk_fl_b x hc hi, b_0]
    have hi' : i = 0 ∨ i = 1 ∨ 2 ≤ i := by omega
    rcases hi' with rfl | rfl | h2
    · rw [Nat.add_zero, h.1]; rfl
    · rw [h.2]; rfl
    · rw [decide_eq_false (Nat.not_lt.mpr h2), Bool.and_false]
theorem sk_fl_or (v g f : Int32) {c : Nat} (hc : c < 16) : sk_fl (v ||| (g ^^^ f)) c = 0 ↔ sk_fl v c = 0 ∧ (bt g (2 * c) = bt f (2 * c) ∧ bt g (2 * c + 1) = bt f (2 * c + 1)) := by
  rw [sk_fl0 _ hc, sk_fl0 _ hc, b_or, b_xor, b_or, b_xor]
  generalize bt v (2 * c) = a
  generalize bt v (2 * c + 1) = b
  generalize bt g (2 * c) = p
  generalize bt g (2 * c + 1) = q
  generalize bt f (2 * c) = x
  generalize bt f (2 * c + 1) = y
  cases a <;> cases b <;> cases p <;> cases q <;> cases x <;> cases y <;> decide
theorem sk_bt_nI {G k : Nat} (hk : k < 32) : bt (nI G) k = G.testBit k := by
  show (BitVec.ofNat 32 G).getLsbD k = _
  rw [BitVec.getLsbD_ofNat, decide_eq_true hk, Bool.true_and]
theorem sk_quad (z w : Nat) : (decide (z % 2 = 1) = decide (w % 2 = 1) ∧ decide (z / 2 % 2 = 1) = decide (w / 2 % 2 = 1)) ↔ z % 4 = w % 4 := by
  rw [decide_eq_decide, decide_eq_decide]
  omega
theorem sk_bits {G F c : Nat} (hc : c < 16) : (bt (nI G) (2 * c) = bt (nI F) (2 * c) ∧ bt (nI G) (2 * c + 1) = bt (nI F) (2 * c + 1)) ↔ G / 4 ^ c % 4 = F / 4 ^ c % 4 := by
  have e : 2 ^ (2 * c) = 4 ^ c := Nat.pow_mul 2 2 c
  have h1 : 2 * c < 32 := by omega
  have h2 : 2 * c + 1 < 32 := by omega
  rw [sk_bt_nI h1, sk_bt_nI h1, sk_bt_nI h2, sk_bt_nI h2]
  rw [Nat.testBit_eq_decide_div_mod_eq, Nat.testBit_eq_decide_div_mod_eq, Nat.testBit_eq_decide_div_mod_eq, Nat.testBit_eq_decide_div_mod_eq]
  rw [Nat.pow_succ, ← Nat.div_div_eq_div_mul, ← Nat.div_div_eq_div_mul, e]
  exact sk_quad _ _
/-- two grids agree in a field of two bits just where they have one height -/
theorem sk_same {i j c : Nat} (hi : i < 576) (hj : j < 576) (hc : c < 16) : (bt (nI (sk_gN (sk_q i))) (2 * c) = bt (nI (sk_gN (sk_q j))) (2 * c) ∧ bt (nI (sk_gN (sk_q i))) (2 * c + 1) = bt (nI (sk_gN (sk_q j))) (2 * c + 1)) ↔ sk_H i (15 - c) = sk_H j (15 - c) := by
  rw [sk_bits hc, ← (sk_gN_H hi).2 (15 - c) (by omega), ← (sk_gN_H hj).2 (15 - c) (by omega), show 15 - (15 - c) = c by omega]
  exact Nat.add_right_cancel_iff.symm
theorem sk_and_le (P Q : Nat → Bool) : ∀ n, sk_cn (fun i => P i && Q i) n ≤ sk_cn P n
  | 0 => Nat.le_refl 0
  | n + 1 => by
    have h := sk_and_le P Q n
    show sk_cn (fun i => P i && Q i) n + (P n && Q n).toNat ≤ sk_cn P n + (P n).toNat
    have h2 : (P n && Q n).toNat ≤ (P n).toNat := by cases P n <;> cases Q n <;> decide
    omega
theorem sk_and_eq (P Q : Nat → Bool) : ∀ n, sk_cn (fun i => P i && Q i) n = sk_cn P n ↔ ∀ i, i < n → P i = true → Q i = true
  | 0 => ⟨fun _ i hi => absurd hi (Nat.not_lt_zero i), fun _ => rfl⟩
  | n + 1 => by
    have ih := sk_and_eq P Q n
    have hl := sk_and_le P Q n
    show sk_cn (fun i => P i && Q i) n + (P n && Q n).toNat = sk_cn P n + (P n).toNat ↔ _
    constructor
    · intro h
      have h2 : (P n && Q n).toNat ≤ (P n).toNat := by cases P n <;> cases Q n <;> decide
      have h3 := ih.mp (by omega)
      have h4 : (P n && Q n).toNat = (P n).toNat := by omega
      intro i hi hp
      by_cases e : i = n
      · subst e
        rw [hp] at h4
        cases hq : Q i
        · rw [hq] at h4
          exact absurd h4 (by decide)
        · rfl
      · exact h3 i (by omega) hp
    · intro h
      rw [ih.mpr (fun i hi => h i (by omega))]
      cases hp : P n
      · rfl
      · exact congrArg (fun b => sk_cn P n + (true && b).toNat) (h n (by omega) hp)
theorem sk_cn4 (Q : Nat → Bool) (m : Nat) : sk_cn Q (m + 4) = sk_cn Q m + (Q (m + 0)).toNat + (Q (m + 1)).toNat + (Q (m + 2)).toNat + (Q (m + 3)).toNat := rfl
theorem sk_rev (Q : Nat → Bool) : sk_cn Q 16 = sk_cn (fun c => Q (15 - c)) 16 := by
  show 0 + (Q 0).toNat + (Q 1).toNat + (Q 2).toNat + (Q 3).toNat + (Q 4).toNat + (Q 5).toNat + (Q 6).toNat + (Q 7).toNat + (Q 8).toNat + (Q 9).toNat + (Q 10).toNat + (Q 11).toNat + (Q 12).toNat + (Q 13).toNat + (Q 14).toNat + (Q 15).toNat = 0 + (Q 15).toNat + (Q 14).toNat + (Q 13).toNat + (Q 12).toNat + (Q 11).toNat + (Q 10).toNat + (Q 9).toNat + (Q 8).toNat + (Q 7).toNat + (Q 6).toNat + (Q 5).toNat + (Q 4).toNat + (Q 3).toNat + (Q 2).toNat + (Q 1).toNat + (Q 0).toNat
  omega
theorem sk_pos (P : Nat → Bool) {i : Nat} (h : P i = true) : ∀ n, i < n → 0 < sk_cn P n
  | 0, hi => absurd hi (Nat.not_lt_zero i)
  | n + 1, hi => by
    show 0 < sk_cn P n + (P n).toNat
    by_cases e : i = n
    · subst e
      rw [h]
      exact Nat.succ_pos _
    · have h2 := sk_pos P h n (by omega)
      omega
theorem sk_four (f : Bool) (h : Nat) (h1 : 1 ≤ h) (h4 : h ≤ 4) : (f && decide (h = 1)).toNat + (f && decide (h = 2)).toNat + (f && decide (h = 3)).toNat + (f && decide (h = 4)).toNat = f.toNat := by
  have hh : h = 1 ∨ h = 2 ∨ h = 3 ∨ h = 4 := by omega
  rcases hh with rfl | rfl | rfl | rfl <;> cases f <;> rfl
theorem sk_fx_t {P : Nat → Bool} {i0 : Nat} (h0 : i0 < 576) (hp : P i0 = true) (k i : Nat) (hi : i < 4) : sk_fx P (4 * k + i) = true ↔ ∀ j, j < 576 → P j = true → sk_H j k = i + 1 := by
  unfold sk_fx
  rw [show (4 * k + i) / 4 = k by omega, show (4 * k + i) % 4 = i by omega, decide_eq_true (sk_pos P hp 576 h0), Bool.true_and, decide_eq_true_iff]
  have h := sk_and_eq P (fun j => decide (nI (sk_H j k) = nI (i + 1))) 576
  refine h.trans ⟨fun z j hj hpj => ?_, fun z j hj hpj => ?_⟩
  · have hr := sk_H_r j k
    exact (nI_eq (by omega) (by omega)).mp (of_decide_eq_true (z j hj hpj))
  · exact decide_eq_true (by rw [z j hj hpj])
theorem sk_fixed {P : Nat → Bool} {x : Int32} {i0 : Nat} (h0 : i0 < 576) (hp : P i0 = true) (hx : ∀ c, c < 16 → (sk_fl x c = 0 ↔ ∀ j, j < 576 → P j = true → sk_H j (15 - c) = sk_H i0 (15 - c))) : sk_cn (fun c => decide (sk_fl x c = 0)) 16 = sk_fc P := by
  rw [sk_rev]
  have hF : ∀ k, k < 16 → (sk_fl x (15 - k) = 0 ↔ ∀ j, j < 576 → P j = true → sk_H j k = sk_H i0 k) := by
    intro k hk
    have h := hx (15 - k) (by omega)
    rw [show 15 - (15 - k) = k by omega] at h
    exact h
  have key : ∀ k, k < 16 → ∀ i, i < 4 → sk_fx P (4 * k + i) = (decide (sk_fl x (15 - k) = 0) && decide (sk_H i0 k = i + 1)) := by
    intro k hk i hi
    rw [Bool.eq_iff_iff, sk_fx_t h0 hp k i hi, Bool.and_eq_true, decide_eq_true_iff, decide_eq_true_iff, hF k hk]
    constructor
    · intro z
      have e := z i0 h0 hp
      exact ⟨fun j hj hpj => by rw [z j hj hpj, e], e⟩
    · intro z j hj hpj
      rw [z.1 j hj hpj, z.2]
  have main : ∀ k, k ≤ 16 → sk_cn (sk_fx P) (4 * k) = sk_cn (fun c => decide (sk_fl x (15 - c) = 0)) k := by
    intro k
    induction k with
    | zero => exact fun _ => rfl
    | succ k ih =>
      intro hk
      have e := ih (by omega)
      have hr := sk_H_r i0 k
      have h4 := sk_four (decide (sk_fl x (15 - k) = 0)) (sk_H i0 k) hr.1 hr.2
      rw [show 4 * (k + 1) = 4 * k + 4 by omega, sk_cn4]
      show _ = sk_cn (fun c => decide (sk_fl x (15 - c) = 0)) k + (decide (sk_fl x (15 - k) = 0)).toNat
      rw [key k (by omega) 0 (by omega), key k (by omega) 1 (by omega), key k (by omega) 2 (by omega), key k (by omega) 3 (by omega), e]
      show sk_cn (fun c => decide (sk_fl x (15 - c) = 0)) k + (decide (sk_fl x (15 - k) = 0) && decide (sk_H i0 k = 1)).toNat + (decide (sk_fl x (15 - k) = 0) && decide (sk_H i0 k = 2)).toNat + (decide (sk_fl x (15 - k) = 0) && decide (sk_H i0 k = 3)).toNat + (decide (sk_fl x (15 - k) = 0) && decide (sk_H i0 k = 4)).toNat = _
      omega
  exact (main 16 (by omega)).symm
theorem sk_fc0 {P : Nat → Bool} (h : sk_cn P 576 = 0) : sk_fc P = 0 := by
  have h2 : ∀ n, sk_cn (sk_fx P) n = 0 := by
    intro n
    induction n with
    | zero => rfl
    | succ n ih =>
      show sk_cn (sk_fx P) n + (sk_fx P n).toNat = 0
      rw [ih]
      unfold sk_fx
      rw [h]
      rfl
  exact h2 64
end
section
/-! the relation, and the conditions on a call's numbers -/
def sk_b (b : Bool) : Int32 := if b = true then 1 else 0
theorem sk_t0 : (0 : Int32).toInt = 0 := by decide
theorem sk_t1 : (1 : Int32).toInt = 1 := by decide
theorem sk_t2 : (2 : Int32).toInt = 2 := by decide
theorem sk_t3 : (3 : Int32).toInt = 3 := by decide
theorem sk_t4 : (4 : Int32).toInt = 4 := by decide
def sk_cl (x y : Int32) : Prop := 0 ≤ x.toInt ∧ x.toInt < 4 ∧ 0 ≤ y.toInt ∧ y.toInt < 4
theorem sk_n4 {x : Int32} (h : 0 ≤ x.toInt) (h2 : x.toInt < 4) : ∃ j : Nat, j < 4 ∧ x = nI j := by
  obtain ⟨j, hj, rfl⟩ := nI_of (x := x) (by rw [Int32.lt_iff_toInt_lt, sk_t0]; omega)
  rw [nI_toInt hj] at h2
  exact ⟨j, by omega, rfl⟩
theorem sk_cl_of {x y : Int32} (h : sk_cl x y) : ∃ a b : Nat, a < 4 ∧ b < 4 ∧ x = nI a ∧ y = nI b := by
  obtain ⟨a, ha, ea⟩ := sk_n4 h.1 h.2.1
  obtain ⟨b, hb, eb⟩ := sk_n4 h.2.2.1 h.2.2.2
  exact ⟨a, b, ha, hb, ea, eb⟩
theorem sk_nI4 {a : Nat} (h : a < 4) : (nI a).toInt = (a : Int) := nI_toInt (by omega)
/-- the tables: X's grids, Y's squares and orders -/
def sk_T (gr od sq : Nat → Int32) : Prop := (∀ i, i < 576 → gr i = nI (sk_gN (sk_q i))) ∧ (∀ i, i < 576 → sq i = nI (sk_q i)) ∧ (∀ j, j < 96 → od j = nI (sk_d j))
/-- the signs -/
def sk_E (r d sg : Nat → Int32) : Prop := ∀ c, c < 16 → sg c = r c ∧ sg (c + 16) = d c ∧ (c % 4 = 3 → r c = 0) ∧ (12 ≤ c → d c = 0)
/-- what Y has tested -/
def sk_K (kn : Int32) (ft g cl r d : Nat → Int32) : Prop := kn = 0 ∨ (kn = 1 ∧ ∀ i, i < 576 → ft i = sk_b (sk_S g cl r d i))
/-! packing -/
theorem sk_pack {A B C D : Nat} (hA : A < 256) (hB : B < 256) (hC : C < 256) (hD : D < 256) : (((nI A <<< ((24 : Int32) &&& 31)) ||| (nI B <<< ((16 : Int32) &&& 31))) ||| (nI C <<< ((8 : Int32) &&& 31))) ||| nI D = nI (A * 16777216 + B * 65536 + C * 256 + D) := by
  have a := pk_shlN (n := A) ((24 : Int32) &&& 31) 24 (by decide) (by omega)
  have b := pk_shlN (n := B) ((16 : Int32) &&& 31) 16 (by decide) (by omega)
  have c := pk_shlN (n := C) ((8 : Int32) &&& 31) 8 (by decide) (by omega)
  have e1 : A * 2 ^ 24 ||| B * 2 ^ 16 = 2 ^ 16 * (A * 256 + B) := by
    have h := Nat.two_pow_add_eq_or_of_lt (i := 24) (b := B * 2 ^ 16) (by omega) A
    rw [Nat.mul_comm A, ← h]
    omega
  have e2 : 2 ^ 16 * (A * 256 + B) ||| C * 2 ^ 8 = 2 ^ 8 * ((A * 256 + B) * 256 + C) := by
    have h := Nat.two_pow_add_eq_or_of_lt (i := 16) (b := C * 2 ^ 8) (by omega) (A * 256 + B)
    rw [← h]
    omega
  have e3 : 2 ^ 8 * ((A * 256 + B) * 256 + C) ||| D = 2 ^ 8 * ((A * 256 + B) * 256 + C) + D := (Nat.two_pow_add_eq_or_of_lt (i := 8) (b := D) (by omega) _).symm
  rw [a, b, c, nx_or, nx_or, nx_or, e1, e2, e3]
  exact congrArg nI (by omega)
theorem sk_pack' {a b c d : Nat} (ha : a < 24) (hb : b < 24) (hc : c < 24) (hd : d < 24) : (((nI (sk_code a) <<< ((24 : Int32) &&& 31)) ||| (nI (sk_code b) <<< ((16 : Int32) &&& 31))) ||| (nI (sk_code c) <<< ((8 : Int32) &&& 31))) ||| nI (sk_code d) = nI (sk_gN (sk_pk a b c d)) := by
  obtain ⟨e0, e1, e2, e3, _⟩ := sk_pk_rows ha hb hc hd
  rw [sk_pack (sk_code_lt a ha) (sk_code_lt b hb) (sk_code_lt c hc) (sk_code_lt d hd)]
  unfold sk_gN
  rw [e0, e1, e2, e3]
theorem sk_fld {q r : Nat} (hq : q < 1048576) (hr : r < 4) : (nI q >>> ((5 * nI r) &&& 31)) &&& 31 = nI (q / 32 ^ r % 32) := by
  have e : 2 ^ (5 * r) = 32 ^ r := Nat.pow_mul 2 5 r
  have h1 : (5 : Int32) * nI r = nI (5 * r) := pk_mul 5 r
  have h2 := pk_shrN (n := q) (by omega) (nI (5 * r) &&& 31) (5 * r) (s_l _ (by omega))
  have h3 : nI (q / 32 ^ r) &&& 31 = nI (q / 32 ^ r % 32) := pk_andN (n := q / 32 ^ r) (Nat.lt_of_le_of_lt (Nat.div_le_self _ _) (by omega)) (m := 31) 5 (by decide)
  rw [h1, h2, e, h3]
end
section
/-! X: the methods that only read -/
theorem xl_isCell {post : Int32 → Prop} {p0 p1 : Int32} (h1 : sk_cl p0 p1 → post 1) (h0 : ¬ sk_cl p0 p1 → post 0) : wpX_isCell post p0 p1 := by
  unfold wpX_isCell
  unfold sk_cl at h1 h0
  simp only [Int32.lt_iff_toInt_lt, Int32.le_iff_toInt_le, sk_t0, sk_t4]
  exact ⟨fun a => h0 (by omega), fun a => ⟨fun b => h0 (by omega), fun b => ⟨fun c => h0 (by omega), fun c => ⟨fun d => h0 (by omega), fun d => h1 (by omega)⟩⟩⟩⟩
theorem xl_ht {post : Int32 → Prop} {i c : Nat} (hi : i < 576) (hc : c < 16) {x y : Int32} (hx : x = nI (sk_gN (sk_q i))) (hy : y = nI c) (h : post (nI (sk_H i c))) : wpX_heightAt post x y := by
  subst hx hy
  unfold wpX_heightAt
  rw [sk_hX (sk_gN_H hi).1 hc, (sk_gN_H hi).2 c hc]
  exact h
theorem xl_gv {post : Int32 → Prop} {i : Nat} (hi : i < 576) (g c r d l G : Nat → Int32) (h1 : (∀ k, k < 16 → sk_GO g i k) → post 1) (h0 : ¬ (∀ k, k < 16 → sk_GO g i k) → post 0) : wpX_givensHold post (g, c, r, d, l, G) (nI (sk_gN (sk_q i))) := by
  refine loop_0 (σ := Unit) (fun n k _ => wX_givensHold_2 post (nI (sk_gN (sk_q i))) g c r d l G n (nI k)) (fun k _ => ∀ j, j < k → sk_GO g i j) 16 () lt_0 ?_ ?_
  · intro n s I
    exact br_t (nI_le (a := 16) (b := 16) (Nat.le_refl _) (by decide)) (h1 I)
  · intro n k s hk I ih
    have hv : vp_in (nI k) 16 := vp_in_nI hk (by decide)
    have ec : (nI k).toNatClampNeg = k := nI_clamp (by omega)
    have nx : sk_GO g i k → ∀ y, y = nI k + 1 → wX_givensHold_2 post (nI (sk_gN (sk_q i))) g c r d l G n y := fun hg => nm_r (nI_1 k) (ih () (lt_s I hg))
    show wX_givensHold_2 post (nI (sk_gN (sk_q i))) g c r d l G (n + 1) (nI k)
    refine br_f (nI_ge (b := 16) hk (by decide)) ⟨hv, ?_⟩
    rw [ec]
    refine br_c (fun z => nx (Or.inl z)) (fun z => ⟨hv, ?_⟩)
    refine xl_ht hi hk rfl rfl ?_
    exact br_c (fun e => nx (Or.inr e)) (fun e => h0 (fun a => (a k hk).elim z e))
theorem sk_leH (i c j m : Nat) : nI (sk_H i c) ≤ nI (sk_H j m) ↔ sk_H i c ≤ sk_H j m := by
  have a := sk_H_r i c
  have b := sk_H_r j m
  exact nI_leI (by omega) (by omega)
theorem sk_sgl {post : Int32 → Prop} {s : Int32} {i c m : Nat} (z : ¬ s = 0) (h1 : sk_Sg s (sk_H i c) (sk_H i m) → post 1) (h0 : ¬ sk_Sg s (sk_H i c) (sk_H i m) → post 0) : ((s = 1 → ((nI (sk_H i m) ≤ nI (sk_H i c) → post 0) ∧ (¬ nI (sk_H i m) ≤ nI (sk_H i c) → post 1))) ∧ (¬ s = 1 → ((nI (sk_H i c) ≤ nI (sk_H i m) → post 0) ∧ (¬ nI (sk_H i c) ≤ nI (sk_H i m) → post 1)))) := by
  rw [sk_leH, sk_leH]
  refine br_c (fun e => br_c (fun l => h0 ?_) (fun l => h1 (Or.inr (Or.inl ⟨e, by omega⟩)))) (fun e => br_c (fun l => h0 ?_) (fun l => h1 (Or.inr (Or.inr ⟨z, e, by omega⟩))))
  · intro q
    rcases q with q | q | q
    · exact z q
    · exact Nat.not_lt.mpr l q.2
    · exact q.2.1 e
  · intro q
    rcases q with q | q | q
    · exact z q
    · exact e q.1
    · exact Nat.not_lt.mpr l q.2.2
theorem xl_sg {post : Int32 → Prop} {i c m : Nat} (hi : i < 576) (hc : c < 16) {s x y : Int32} (hm : s = 0 ∨ m < 16) (hx : x = nI c) (hy : y = nI m) (h1 : sk_Sg s (sk_H i c) (sk_H i m) → post 1) (h0 : ¬ sk_Sg s (sk_H i c) (sk_H i m) → post 0) : wpX_signHolds post s (nI (sk_gN (sk_q i))) x y := by
  unfold wpX_signHolds
  refine br_c (fun z => h1 (Or.inl z)) (fun z => ?_)
  refine xl_ht hi hc rfl hx ?_
  refine xl_ht hi (hm.resolve_left z) rfl hy ?_
  exact sk_sgl z h1 h0
theorem xl_sn {post : Int32 → Prop} {i : Nat} (hi : i < 576) (g c r d l G : Nat → Int32) (hr : ∀ k, k < 16 → k % 4 = 3 → r k = 0) (hd : ∀ k, k < 16 → 12 ≤ k → d k = 0) (h1 : (∀ k, k < 16 → sk_RO r i k ∧ sk_DO d i k) → post 1) (h0 : ¬ (∀ k, k < 16 → sk_RO r i k ∧ sk_DO d i k) → post 0) : wpX_signsHold post (g, c, r, d, l, G) (nI (sk_gN (sk_q i))) := by
  refine loop_0 (σ := Unit) (fun n k _ => wX_signsHold_2 post (nI (sk_gN (sk_q i))) g c r d l G n (nI k)) (fun k _ => ∀ j, j < k → sk_RO r i j ∧ sk_DO d i j) 16 () lt_0 ?_ ?_
  · intro n s I
    exact br_t (nI_le (a := 16) (b := 16) (Nat.le_refl _) (by decide)) (h1 I)
  · intro n k s hk I ih
    have hv : vp_in (nI k) 16 := vp_in_nI hk (by decide)
    have ec : (nI k).toNatClampNeg = k := nI_clamp (by omega)
    have nx : sk_RO r i k ∧ sk_DO d i k → ∀ y, y = nI k + 1 → wX_signsHold_2 post (nI (sk_gN (sk_q i))) g c r d l G n y := fun hg => nm_r (nI_1 k) (ih () (lt_s I hg))
    have e4 : nI k + 4 = nI (k + 4) := nI_add k 4
    have m1 : r k = 0 ∨ k + 1 < 16 := by
      by_cases z : k % 4 = 3
      · exact Or.inl (hr k hk z)
      · exact Or.inr (by omega)
    have m4 : d k = 0 ∨ k + 4 < 16 := by
      by_cases z : 12 ≤ k
      · exact Or.inl (hd k hk z)
      · exact Or.inr (by omega)
    show wX_signsHold_2 post (nI (sk_gN (sk_q i))) g c r d l G (n + 1) (nI k)
    refine br_f (nI_ge (b := 16) hk (by decide)) ⟨hv, ?_⟩
    rw [ec]
    refine xl_sg (m := k + 1) hi hk m1 rfl (nI_1 k) (fun a => br_f (by decide) ⟨hv, ?_⟩) (fun a => br_t rfl (h0 (fun z => a (z k hk).1)))
    refine xl_sg (m := k + 4) hi hk m4 rfl e4 (fun b => br_f (by decide) (nx ⟨a, b⟩)) (fun b => br_t rfl (h0 (fun z => b (z k hk).2)))
theorem sk_c0 : ∀ k, k < 4 → ∀ j, j < 4 → nI k * 4 + nI j * 1 = nI (sk_cell k j) := by decide +kernel
theorem sk_c1 : ∀ k, k < 4 → ∀ j, j < 4 → ((nI k * 4) + 4) - 1 + nI j * (-1) = nI (sk_cell (4 + k) j) := by decide +kernel
theorem sk_c2 : ∀ k, k < 4 → ∀ j, j < 4 → nI k + nI j * 4 = nI (sk_cell (8 + k) j) := by decide +kernel
theorem sk_c3 : ∀ k, k < 4 → ∀ j, j < 4 → 12 + nI k + nI j * (-4) = nI (sk_cell (12 + k) j) := by decide +kernel
theorem xl_vl {post : Int32 → Prop} {i p : Nat} (hi : i < 576) (hp : p < 16) {x3 x4 : Int32} (hs : ∀ j, j < 4 → x3 + nI j * x4 = nI (sk_cell p j)) (h : post (sk_vis i p)) : ∃ n, wX_visibleFrom_21 post (nI (sk_gN (sk_q i))) x3 x4 n 0 0 0 := by
  refine loop_0 (σ := Unit) (fun n k _ => wX_visibleFrom_21 post (nI (sk_gN (sk_q i))) x3 x4 n (sk_vs (fun j => nI (sk_H i (sk_cell p j))) k).1 (sk_vs (fun j => nI (sk_H i (sk_cell p j))) k).2 (nI k)) (fun _ _ => True) 4 () trivial ?_ ?_
  · intro n s _
    exact br_t (nI_le (a := 4) (b := 4) (Nat.le_refl _) (by decide)) h
  · intro n k s hk _ ih
    have ih' : wX_visibleFrom_21 post (nI (sk_gN (sk_q i))) x3 x4 n (sk_vs (fun j => nI (sk_H i (sk_cell p j))) (k + 1)).1 (sk_vs (fun j => nI (sk_H i (sk_cell p j))) (k + 1)).2 (nI (k + 1)) := ih () trivial
    show wX_visibleFrom_21 post (nI (sk_gN (sk_q i))) x3 x4 (n + 1) (sk_vs (fun j => nI (sk_H i (sk_cell p j))) k).1 (sk_vs (fun j => nI (sk_H i (sk_cell p j))) k).2 (nI k)
    refine br_f (nI_ge (b := 4) hk (by decide)) ?_
    refine xl_ht hi (sk_cell_lt p hp k hk) rfl (hs k hk) ?_
    refine br_c (fun z => ?_) (fun z => ?_)
    · have e : sk_vs (fun j => nI (sk_H i (sk_cell p j))) (k + 1) = sk_vs (fun j => nI (sk_H i (sk_cell p j))) k := if_pos z
      rw [e] at ih'
      exact nm_r (nI_1 k) ih'
    · have e : sk_vs (fun j => nI (sk_H i (sk_cell p j))) (k + 1) = (nI (sk_H i (sk_cell p k)), (sk_vs (fun j => nI (sk_H i (sk_cell p j))) k).2 + 1) := if_neg z
      rw [e] at ih'
      exact nm_e (nm_r (nI_1 k) ih')
theorem sk_side {p : Nat} (hp : p < 16) : (p / 4 = 0 ∧ p = p % 4) ∨ (p / 4 = 1 ∧ p = 4 + p % 4) ∨ (p / 4 = 2 ∧ p = 8 + p % 4) ∨ (p / 4 = 3 ∧ p = 12 + p % 4) := by omega
theorem xl_vf {post : Int32 → Prop} {i p : Nat} (hi : i < 576) (hp : p < 16) {a b : Int32} (ha : a = nI (p / 4)) (hb : b = nI (p % 4)) (h : post (sk_vis i p)) : wpX_visibleFrom post (nI (sk_gN (sk_q i))) a b := by
  have hk : p % 4 < 4 := Nat.mod_lt _ (by decide)
  unfold wpX_visibleFrom wpX_firstCell wpX_stepFrom
  subst hb
  rcases sk_side hp with ⟨e, e2⟩ | ⟨e, e2⟩ | ⟨e, e2⟩ | ⟨e, e2⟩
  · rw [e] at ha
    subst ha
    refine br_f (by decide) (br_f (by decide) (br_t (by decide) ?_))
    refine br_f (by decide) (br_f (by decide) (br_t (by decide) ?_))
    exact xl_vl hi hp (fun j hj => (sk_c0 _ hk j hj).trans (by rw [← e2])) h
  · rw [e] at ha
    subst ha
    refine br_f (by decide) (br_f (by decide) (br_f (by decide) (br_t (by decide) ?_)))
    refine br_f (by decide) (br_f (by decide) (br_f (by decide) (br_t (by decide) ?_)))
    exact xl_vl hi hp (fun j hj => (sk_c1 _ hk j hj).trans (by rw [← e2])) h
  · rw [e] at ha
    subst ha
    refine br_f (by decide) (br_f (by decide) (br_f (by decide) (br_f (by decide) (br_t (by decide) ?_))))
    refine br_f (by decide) (br_f (by decide) (br_f (by decide) (br_f (by decide) (br_t (by decide) ?_))))
    exact xl_vl hi hp (fun j hj => (sk_c2 _ hk j hj).trans (by rw [← e2])) h
  · rw [e] at ha
    subst ha
    refine br_f (by decide) (br_t (by decide) ?_)
    refine br_f (by decide) (br_t (by decide) ?_)
    exact xl_vl hi hp (fun j hj => (sk_c3 _ hk j hj).trans (by rw [← e2])) h
theorem xl_cl {post : Int32 → Prop} {i : Nat} (hi : i < 576) (g c r d l G : Nat → Int32) (h1 : (∀ k, k < 16 → sk_CO c i k) → post 1) (h0 : ¬ (∀ k, k < 16 → sk_CO c i k) → post 0) : wpX_cluesHold post (g, c, r, d, l, G) (nI (sk_gN (sk_q i))) := by
  refine loop_0 (σ := Unit) (fun n k _ => wX_cluesHold_2 post (nI (sk_gN (sk_q i))) g c r d l G n (nI k)) (fun k _ => ∀ j, j < k → sk_CO c i j) 16 () lt_0 ?_ ?_
  · intro n s I
    exact br_t (nI_le (a := 16) (b := 16) (Nat.le_refl _) (by decide)) (h1 I)
  · intro n k s hk I ih
    have hv : vp_in (nI k) 16 := vp_in_nI hk (by decide)
    have ec : (nI k).toNatClampNeg = k := nI_clamp (by omega)
    have nx : sk_CO c i k → ∀ y, y = nI k + 1 → wX_cluesHold_2 post (nI (sk_gN (sk_q i))) g c r d l G n y := fun hg => nm_r (nI_1 k) (ih () (lt_s I hg))
    have ed : nI k / 4 = nI (k / 4) := pk_div (d := 4) (by omega) (by decide) (by decide)
    have em : nI k - nI k / 4 * 4 = nI (k % 4) := pk_rem (d := 4) (by omega) (by decide) (by decide)
    show wX_cluesHold_2 post (nI (sk_gN (sk_q i))) g c r d l G (n + 1) (nI k)
    refine br_f (nI_ge (b := 16) hk (by decide)) ⟨hv, ?_⟩
    rw [ec]
    refine br_c (fun z => nx (Or.inl z)) (fun z => ⟨hv, by decide, by decide, ?_⟩)
    refine xl_vf hi hk ed em ?_
    exact br_c (fun e => nx (Or.inr e)) (fun e => h0 (fun a => (a k hk).elim z e))
theorem xl_sol {post : Int32 → Prop} {i : Nat} (hi : i < 576) (g c r d l G : Nat → Int32) (hr : ∀ k, k < 16 → k % 4 = 3 → r k = 0) (hd : ∀ k, k < 16 → 12 ≤ k → d k = 0) {x : Int32} (hx : x = nI (sk_gN (sk_q i))) (h1 : sk_S g c r d i = true → post 1) (h0 : sk_S g c r d i = false → post 0) : wpX_isSolution post (g, c, r, d, l, G) x := by
  subst hx
  unfold wpX_isSolution
  dsimp only
  refine xl_gv hi g c r d l G (fun a => br_f (by decide) ?_) (fun a => br_t rfl (h0 (sk_S_f (fun z => a (fun k hk => (z k hk).1)))))
  refine xl_sn hi g c r d l G hr hd (fun b => br_f (by decide) ?_) (fun b => br_t rfl (h0 (sk_S_f (fun z => b (fun k hk => (z k hk).2.2)))))
  exact xl_cl hi g c r d l G (fun e => br_f (by decide) (h1 (sk_S_t (fun k hk => ⟨a k hk, e k hk, b k hk⟩)))) (fun e => br_t rfl (h0 (sk_S_f (fun z => e (fun k hk => (z k hk).2.1)))))
end
section
/-! Y: the methods that only read, and test -/
theorem yl_bad {post : Int32 → Prop} {li kn : Int32} {od sq ft g c sg : Nat → Int32} {p0 p1 : Int32} (h0 : sk_cl p0 p1 → post 0) (h1 : ¬ sk_cl p0 p1 → post 1) : wpY_badCell post (li, kn, od, sq, ft, g, c, sg) p0 p1 := by
  unfold wpY_badCell
  unfold sk_cl at h1 h0
  dsimp only
  simp only [Int32.lt_iff_toInt_lt, Int32.le_iff_toInt_le, sk_t0, sk_t3]
  exact ⟨fun a => h1 (by omega), fun a => ⟨fun b => h1 (by omega), fun b => ⟨fun c => h1 (by omega), fun c => ⟨fun d => h0 (by omega), fun d => h1 (by omega)⟩⟩⟩⟩
theorem yl_dg {post : Int32 → Prop} {li kn : Int32} {od sq ft g c sg : Nat → Int32} {k m : Nat} (ho : od (k * 4 + m) = nI (sk_dig k m)) (hk : k < 24) (hm : m < 4) {x y : Int32} (hx : x = nI k) (hy : y = nI m) (h : post (nI (sk_dig k m))) : wpY_digit post (li, kn, od, sq, ft, g, c, sg) x y := by
  subst hx hy
  have e : nI k * 4 + nI m = nI (k * 4 + m) := by
    show nI k * nI 4 + nI m = _
    rw [pk_mul, nI_add]
  have hj : k * 4 + m < 96 := by omega
  show vp_in (nI k * 4 + nI m) 96 ∧ post (od (nI k * 4 + nI m).toNatClampNeg)
  rw [e, nI_clamp (by omega), ho]
  exact ⟨vp_in_nI hj (by decide), h⟩
theorem sk_d_dig {k m : Nat} (hm : m < 4) : sk_d (k * 4 + m) = sk_dig k m := by
  unfold sk_d
  rw [show (k * 4 + m) / 4 = k by omega, show (k * 4 + m) % 4 = m by omega]
theorem sk_H_dig {i r m : Nat} (hm : m < 4) : sk_dig (sk_row i r) m = sk_H i (r * 4 + m) := by
  unfold sk_H
  rw [show (r * 4 + m) / 4 = r by omega, show (r * 4 + m) % 4 = m by omega]
theorem yl_at {post : Int32 → Prop} {li kn : Int32} {od sq ft g c sg : Nat → Int32} (ho : ∀ j, j < 96 → od j = nI (sk_d j)) (hq : ∀ i, i < 576 → sq i = nI (sk_q i)) {i r m : Nat} (hi : i < 576) (hr : r < 4) (hm : m < 4) {x y z : Int32} (hx : x = nI i) (hy : y = nI r) (hz : z = nI m) (h : post (nI (sk_H i (r * 4 + m)))) : wpY_at post (li, kn, od, sq, ft, g, c, sg) x y z := by
  subst hx hy hz
  have hk := sk_row_lt hi hr
  unfold wpY_at
  dsimp only
  refine ⟨vp_in_nI hi (by decide), ?_⟩
  rw [nI_clamp (by omega), hq i hi, sk_fld (sk_q_lt hi) hr]
  refine yl_dg (k := sk_row i r) (m := m) ?_ hk hm rfl rfl ?_
  · rw [ho _ (by omega), sk_d_dig hm]
  · rw [sk_H_dig hm]
    exact h
theorem yl_seen {post : Int32 → Prop} {li kn : Int32} {od sq ft g c sg : Nat → Int32} (ho : ∀ j, j < 96 → od j = nI (sk_d j)) (hq : ∀ i, i < 576 → sq i = nI (sk_q i)) {i p j : Nat} (hi : i < 576) (hp : p < 16) (hj : j < 4) (h : post (nI (sk_H i (sk_cell p j)))) : wpY_seen post (li, kn, od, sq, ft, g, c, sg) (nI i) (nI (p / 4)) (nI (p % 4)) (nI j) := by
  have hk : p % 4 < 4 := Nat.mod_lt _ (by decide)
  have e3 : 3 - nI j = nI (3 - j) := pk_sub (a := 3) (by omega)
  have j3 : 3 - j < 4 := by omega
  unfold wpY_seen wY_seen_10 wY_seen_19
  dsimp only
  unfold sk_cell at h
  rcases sk_side hp with ⟨e, e2⟩ | ⟨e, e2⟩ | ⟨e, e2⟩ | ⟨e, e2⟩
  · rw [if_pos (by omega)] at h
    rw [e]
    refine br_f (by decide) (br_f (by decide) (br_f (by decide) ?_))
    exact yl_at ho hq hi hk hj rfl rfl rfl (by rw [show p % 4 * 4 + j = p * 4 + j by omega]; exact h)
  · rw [if_neg (by omega), if_pos (by omega)] at h
    rw [e]
    refine br_t (by decide) (br_f (by decide) ?_)
    exact yl_at ho hq hi hk j3 rfl rfl e3 (by rw [show p % 4 * 4 + (3 - j) = (p - 4) * 4 + 3 - j by omega]; exact h)
  · rw [if_neg (by omega), if_neg (by omega), if_pos (by omega)] at h
    rw [e]
    refine br_f (by decide) (br_f (by decide) (br_t (by decide) ?_))
    exact yl_at ho hq hi hj hk rfl rfl rfl (by rw [show j * 4 + p % 4 = j * 4 + (p - 8) by omega]; exact h)
  · rw [if_neg (by omega), if_neg (by omega), if_neg (by omega)] at h
    rw [e]
    refine br_f (by decide) (br_t (by decide) (br_t (by decide) ?_))
    exact yl_at ho hq hi j3 hk rfl e3 rfl (by rw [show (3 - j) * 4 + p % 4 = 12 + (p - 12) - j * 4 by omega]; exact h)
theorem yl_vis {post : Int32 → Prop} {li kn : Int32} {od sq ft g c sg : Nat → Int32} (ho : ∀ j, j < 96 → od j = nI (sk_d j)) (hq : ∀ i, i < 576 → sq i = nI (sk_q i)) {i p : Nat} (hi : i < 576) (hp : p < 16) {a b : Int32} (ha : a = nI (p / 4)) (hb : b = nI (p % 4)) (h : post (sk_vis i p)) : wpY_visible post (li, kn, od, sq, ft, g, c, sg) (nI i) a b := by
  subst ha hb
  refine loop_0 (σ := Unit) (fun n k _ => wY_visible_9 post (nI i) (nI (p / 4)) (nI (p % 4)) li kn od sq ft g c sg n (sk_vs (fun j => nI (sk_H i (sk_cell p j))) k).2 (sk_vs (fun j => nI (sk_H i (sk_cell p j))) k).1 (nI k)) (fun _ _ => True) 4 () trivial ?_ ?_
  · intro n s _
    exact br_t (nI_le (a := 4) (b := 4) (Nat.le_refl _) (by decide)) h
  · intro n k s hk _ ih
    have ih' : wY_visible_9 post (nI i) (nI (p / 4)) (nI (p % 4)) li kn od sq ft g c sg n (sk_vs (fun j => nI (sk_H i (sk_cell p j))) (k + 1)).2 (sk_vs (fun j => nI (sk_H i (sk_cell p j))) (k + 1)).1 (nI (k + 1)) := ih () trivial
    show wY_visible_9 post (nI i) (nI (p / 4)) (nI (p % 4)) li kn od sq ft g c sg (n + 1) (sk_vs (fun j => nI (sk_H i (sk_cell p j))) k).2 (sk_vs (fun j => nI (sk_H i (sk_cell p j))) k).1 (nI k)
    refine br_f (nI_ge (b := 4) hk (by decide)) ?_
    refine yl_seen ho hq hi hp hk ?_
    refine br_c (fun z => ?_) (fun z => ?_)
    · have e : sk_vs (fun j => nI (sk_H i (sk_cell p j))) (k + 1) = sk_vs (fun j => nI (sk_H i (sk_cell p j))) k := if_pos z
      rw [e] at ih'
      exact nm_r (nI_1 k) ih'
    · have e : sk_vs (fun j => nI (sk_H i (sk_cell p j))) (k + 1) = (nI (sk_H i (sk_cell p k)), (sk_vs (fun j => nI (sk_H i (sk_cell p j))) k).2 + 1) := if_neg z
      rw [e] at ih'
      exact nm_e (nm_r (nI_1 k) ih')
theorem yl_sgR {post : Int32 → Prop} {li kn : Int32} {od sq ft g c sg : Nat → Int32} (ho : ∀ j, j < 96 → od j = nI (sk_d j)) (hq : ∀ i, i < 576 → sq i = nI (sk_q i)) {i k : Nat} (hi : i < 576) (hk : k < 16) {s : Int32} (hs : sg k = s) (hm : s = 0 ∨ k % 4 < 3) (h1 : sk_Sg s (sk_H i k) (sk_H i (k + 1)) → post 1) (h0 : ¬ sk_Sg s (sk_H i k) (sk_H i (k + 1)) → post 0) : wpY_signHolds post (li, kn, od, sq, ft, g, c, sg) (nI i) (nI (k / 4)) (nI (k % 4)) (nI k) := by
  unfold wpY_signHolds wY_signHolds_53
  dsimp only
  refine ⟨vp_in_nI (N := 32) (by omega) (by decide), ?_⟩
  rw [nI_clamp (by omega), hs]
  refine nm_e (br_c (fun z => h1 (Or.inl z)) (fun z => ?_))
  have hm' := hm.resolve_left z
  refine yl_at ho hq hi (show k / 4 < 4 by omega) (show k % 4 < 4 by omega) rfl rfl rfl ?_
  rw [show k / 4 * 4 + k % 4 = k by omega]
  refine br_t (nI_lt (b := 16) hk (by decide)) ?_
  refine yl_at ho hq hi (show k / 4 < 4 by omega) (show k % 4 + 1 < 4 by omega) rfl rfl (nI_1 _) ?_
  rw [show k / 4 * 4 + (k % 4 + 1) = k + 1 by omega]
  exact sk_sgl z h1 h0
theorem yl_sgD {post : Int32 → Prop} {li kn : Int32} {od sq ft g c sg : Nat → Int32} (ho : ∀ j, j < 96 → od j = nI (sk_d j)) (hq : ∀ i, i < 576 → sq i = nI (sk_q i)) {i k : Nat} (hi : i < 576) (hk : k < 16) {s : Int32} (hs : sg (k + 16) = s) (hm : s = 0 ∨ k < 12) (h1 : sk_Sg s (sk_H i k) (sk_H i (k + 4)) → post 1) (h0 : ¬ sk_Sg s (sk_H i k) (sk_H i (k + 4)) → post 0) : wpY_signHolds post (li, kn, od, sq, ft, g, c, sg) (nI i) (nI (k / 4)) (nI (k % 4)) (nI k + 16) := by
  have e16 : nI k + 16 = nI (k + 16) := nI_add k 16
  rw [e16]
  unfold wpY_signHolds wY_signHolds_53
  dsimp only
  refine ⟨vp_in_nI (N := 32) (by omega) (by decide), ?_⟩
  rw [nI_clamp (by omega), hs]
  refine nm_e (br_c (fun z => h1 (Or.inl z)) (fun z => ?_))
  have hm' := hm.resolve_left z
  refine yl_at ho hq hi (show k / 4 < 4 by omega) (show k % 4 < 4 by omega) rfl rfl rfl ?_
  rw [show k / 4 * 4 + k % 4 = k by omega]
  refine br_f (nI_nlt (b := 16) (by omega) (by omega)) ?_
  refine yl_at ho hq hi (show k / 4 + 1 < 4 by omega) (show k % 4 < 4 by omega) rfl (nI_1 _) rfl ?_
  rw [show (k / 4 + 1) * 4 + k % 4 = k + 4 by omega]
  exact sk_sgl z h1 h0
theorem yl_holds {post : Int32 → Prop} {li kn : Int32} {od sq ft g c sg r d : Nat → Int32} (ho : ∀ j, j < 96 → od j = nI (sk_d j)) (hq : ∀ i, i < 576 → sq i = nI (sk_q i)) (hE : sk_E r d sg) {i : Nat} (hi : i < 576) (h1 : sk_S g c r d i = true → post 1) (h0 : sk_S g c r d i = false → post 0) : wpY_holds post (li, kn, od, sq, ft, g, c, sg) (nI i) := by
  refine loop_0 (σ := Unit) (fun n k _ => wY_holds_2 post (nI i) li kn od sq ft g c sg n (nI k)) (fun k _ => ∀ j, j < k → sk_GO g i j ∧ sk_CO c i j ∧ sk_RO r i j ∧ sk_DO d i j) 16 () lt_0 ?_ ?_
  · intro n s I
    exact br_t (nI_le (a := 16) (b := 16) (Nat.le_refl _) (by decide)) (h1 (sk_S_t I))
  · intro n k s hk I ih
    have hv : vp_in (nI k) 16 := vp_in_nI hk (by decide)
    have ec : (nI k).toNatClampNeg = k := nI_clamp (by omega)
    have nx : sk_GO g i k ∧ sk_CO c i k ∧ sk_RO r i k ∧ sk_DO d i k → ∀ y, y = nI k + 1 → wY_holds_2 post (nI i) li kn od sq ft g c sg n y := fun hg => nm_r (nI_1 k) (ih () (lt_s I hg))
    have ed : nI k / 4 = nI (k / 4) := pk_div (d := 4) (by omega) (by decide) (by decide)
    have em : nI k - nI k / 4 * 4 = nI (k % 4) := pk_rem (d := 4) (by omega) (by decide) (by decide)
    obtain ⟨er, ed', zr, zd⟩ := hE k hk
    have m1 : r k = 0 ∨ k % 4 < 3 := by
      by_cases z : k % 4 = 3
      · exact Or.inl (zr z)
      · exact Or.inr (by omega)
    have m4 : d k = 0 ∨ k < 12 := by
      by_cases z : 12 ≤ k
      · exact Or.inl (zd z)
      · exact Or.inr (by omega)
    have k73 : sk_GO g i k → sk_CO c i k → wY_holds_73 post (wY_holds_2 post (nI i) li kn od sq ft g c sg n) (nI i) (nI k) (nI (k / 4)) (nI (k % 4)) li kn od sq ft g c sg := by
      intro a b
      unfold wY_holds_73
      refine yl_sgR ho hq hi hk er m1 (fun p => br_f (by decide) ?_) (fun p => br_t rfl (h0 (sk_S_f (fun z => p (z k hk).2.2.1))))
      exact yl_sgD ho hq hi hk ed' m4 (fun q => br_f (by decide) (nx ⟨a, b, p, q⟩)) (fun q => br_t rfl (h0 (sk_S_f (fun z => q (z k hk).2.2.2))))
    have k45 : sk_GO g i k → wY_holds_45 post (wY_holds_2 post (nI i) li kn od sq ft g c sg n) (nI i) (nI k) (nI (k / 4)) (nI (k % 4)) li kn od sq ft g c sg := by
      intro a
      unfold wY_holds_45
      rw [ec]
      refine ⟨hv, br_c (fun z => k73 a (Or.inl z)) (fun z => ?_)⟩
      refine yl_vis ho hq hi hk rfl rfl ⟨hv, ?_⟩
      exact br_c (fun e => k73 a (Or.inr e.symm)) (fun e => h0 (sk_S_f (fun y => (y k hk).2.1.elim z (fun w => e w.symm))))
    show wY_holds_2 post (nI i) li kn od sq ft g c sg (n + 1) (nI k)
    refine br_f (nI_ge (b := 16) hk (by decide)) ⟨by decide, nm_r ed ⟨by decide, nm_r em ⟨hv, ?_⟩⟩⟩
    rw [ec]
    refine br_c (fun z => k45 (Or.inl z)) (fun z => ?_)
    refine yl_at ho hq hi (show k / 4 < 4 by omega) (show k % 4 < 4 by omega) rfl rfl rfl ⟨hv, ?_⟩
    rw [show k / 4 * 4 + k % 4 = k by omega]
    exact br_c (fun e => k45 (Or.inr e.symm)) (fun e => h0 (sk_S_f (fun y => (y k hk).1.elim z (fun w => e w.symm))))
theorem sk_nb1 : vp_nar .boolean 1 = 1 := rfl
theorem sk_nb0 : vp_nar .boolean 0 = 0 := rfl
theorem yl_test {post : SY → Prop} {li kn : Int32} {od sq ft g c sg r d : Nat → Int32} (ho : ∀ j, j < 96 → od j = nI (sk_d j)) (hq : ∀ i, i < 576 → sq i = nI (sk_q i)) (hE : sk_E r d sg) (hK : sk_K kn ft g c r d) (h : ∀ ft' : Nat → Int32, (∀ i, i < 576 → ft' i = sk_b (sk_S g c r d i)) → post (li, 1, od, sq, ft', g, c, sg)) : wpY_test post (li, kn, od, sq, ft, g, c, sg) := by
  unfold wpY_test
  dsimp only
  rcases hK with rfl | ⟨rfl, hf⟩
  · refine br_t rfl ?_
    refine loop_0 (σ := Nat → Int32) (fun n k s => wY_test_10 post li 0 n (nI k) od sq s g c sg) (fun k s => ∀ j, j < k → s j = sk_b (sk_S g c r d j)) 576 ft lt_0 ?_ ?_
    · intro n s I
      exact br_t (nI_le (a := 576) (b := 576) (Nat.le_refl _) (by decide)) (h s I)
    · intro n k s hk I ih
      have hv : vp_in (nI k) 576 := vp_in_nI hk (by decide)
      have ec : (nI k).toNatClampNeg = k := nI_clamp (by omega)
      have nx : ∀ x, x = sk_b (sk_S g c r d k) → wY_test_10 post li 0 n (nI (k + 1)) od sq (upd s k x) g c sg := by
        intro x ex
        refine ih (upd s k x) ?_
        intro j hj
        by_cases e : j = k
        · rw [e, pk_us, ex]
        · rw [pk_un e]
          exact I j (by omega)
      show wY_test_10 post li 0 (n + 1) (nI k) od sq s g c sg
      refine br_f (nI_ge (b := 576) hk (by decide)) ?_
      refine yl_holds ho hq hE hk (fun z => ⟨hv, ?_⟩) (fun z => ⟨hv, ?_⟩)
      · rw [ec, sk_nb1]
        refine nm_e (nm_r (nI_1 k) (nx 1 ?_))
        rw [z]
        rfl
      · rw [ec, sk_nb0]
        refine nm_e (nm_r (nI_1 k) (nx 0 ?_))
        rw [z]
        rfl
  · exact br_f (by decide) (h ft hf)
end
section
/-! the answers: X and Y each against the pure count -/
theorem sk_ht1 {P : Nat → Bool} {c m i k : Nat} {n : Int32} (z : P i = true) (e : nI k = n) : sk_ht P c n (m + 1) i k = nI (sk_H i c) := by
  show (if P i = true then (if nI k = n then nI (sk_H i c) else sk_ht P c n m (i + 1) (k + 1)) else sk_ht P c n m (i + 1) k) = _
  rw [if_pos z, if_pos e]
theorem sk_ht2 {P : Nat → Bool} {c m i k : Nat} {n : Int32} (z : P i = true) (e : ¬ nI k = n) : sk_ht P c n (m + 1) i k = sk_ht P c n m (i + 1) (k + 1) := by
  show (if P i = true then (if nI k = n then nI (sk_H i c) else sk_ht P c n m (i + 1) (k + 1)) else sk_ht P c n m (i + 1) k) = _
  rw [if_pos z, if_neg e]
theorem sk_ht3 {P : Nat → Bool} {c m i k : Nat} {n : Int32} (z : P i = false) : sk_ht P c n (m + 1) i k = sk_ht P c n m (i + 1) k := by
  show (if P i = true then (if nI k = n then nI (sk_H i c) else sk_ht P c n m (i + 1) (k + 1)) else sk_ht P c n m (i + 1) k) = _
  rw [if_neg (by rw [z]; decide)]
theorem sk_mk1 {P : Nat → Bool} {c i : Nat} (z : P i = true) : sk_mk P c (i + 1) = sk_mk P c i ||| ((1 : Int32) <<< ((nI (sk_H i c) - 1) &&& 31)) := if_pos z
theorem sk_mk0 {P : Nat → Bool} {c i : Nat} (z : P i = false) : sk_mk P c (i + 1) = sk_mk P c i := if_neg (by rw [z]; decide)
theorem sk_vo1 {P : Nat → Bool} {c i : Nat} {h : Int32} (z : P i = true) (e : nI (sk_H i c) = h) : sk_vo P c h i = true := by
  unfold sk_vo
  rw [z, decide_eq_true e]
  rfl
theorem sk_vo2 {P : Nat → Bool} {c i : Nat} {h : Int32} (e : ¬ nI (sk_H i c) = h) : sk_vo P c h i = false := by
  unfold sk_vo
  rw [decide_eq_false e, Bool.and_false]
theorem sk_vo3 {P : Nat → Bool} {c i : Nat} {h : Int32} (z : P i = false) : sk_vo P c h i = false := by
  unfold sk_vo
  rw [z, Bool.false_and]
theorem sk_cn0 {P : Nat → Bool} : ∀ n, (∀ j, j < n → P j = false) → sk_cn P n = 0
  | 0, _ => rfl
  | n + 1, h => by
    rw [sk_cn_f (h n (by omega))]
    exact sk_cn0 n (fun j hj => h j (by omega))
def sk_X (r d G : Nat → Int32) : Prop := (∀ i, i < 576 → G i = nI (sk_gN (sk_q i))) ∧ (∀ k, k < 16 → k % 4 = 3 → r k = 0) ∧ (∀ k, k < 16 → 12 ≤ k → d k = 0)
theorem sk_XG {r d G : Nat → Int32} (hX : sk_X r d G) {i : Nat} (hi : i < 576) : G (nI i).toNatClampNeg = nI (sk_gN (sk_q i)) := by
  rw [nI_clamp (by omega)]
  exact hX.1 i hi
theorem xa_solutions {post : Int32 → Prop} {g c r d l G : Nat → Int32} (hX : sk_X r d G) (h : post (nI (sk_cn (sk_S g c r d) 576))) : wpX_solutions post (g, c, r, d, l, G) := by
  refine loop_0 (σ := Unit) (fun n k _ => wX_solutions_4 post g c r d l G n (nI (sk_cn (sk_S g c r d) k)) (nI k)) (fun _ _ => True) 576 () trivial ?_ ?_
  · intro n s _
    exact br_t (nI_le (a := 576) (b := 576) (Nat.le_refl _) (by decide)) h
  · intro n k s hk _ ih
    have ih' : wX_solutions_4 post g c r d l G n (nI (sk_cn (sk_S g c r d) (k + 1))) (nI (k + 1)) := ih () trivial
    show wX_solutions_4 post g c r d l G (n + 1) (nI (sk_cn (sk_S g c r d) k)) (nI k)
    refine br_f (nI_ge (b := 576) hk (by decide)) ⟨vp_in_nI hk (by decide), ?_⟩
    refine xl_sol hk g c r d l G hX.2.1 hX.2.2 (sk_XG hX hk) (fun z => ?_) (fun z => ?_)
    · rw [sk_cn_t z] at ih'
      exact br_f (by decide) (nm_r (nI_1 _) (nm_r (nI_1 k) ih'))
    · rw [sk_cn_f z] at ih'
      exact br_t rfl (nm_r (nI_1 k) ih')
theorem xa_possible {post : Int32 → Prop} {g c r d l G : Nat → Int32} (hX : sk_X r d G) {m : Nat} (hm : m < 16) (h : post (sk_mk (sk_S g c r d) m 576)) : ∃ n, wX_possible_22 post (nI m) g c r d l G n 0 0 := by
  refine loop_0 (σ := Unit) (fun n k _ => wX_possible_22 post (nI m) g c r d l G n (sk_mk (sk_S g c r d) m k) (nI k)) (fun _ _ => True) 576 () trivial ?_ ?_
  · intro n s _
    exact br_t (nI_le (a := 576) (b := 576) (Nat.le_refl _) (by decide)) h
  · intro n k s hk _ ih
    have ih' : wX_possible_22 post (nI m) g c r d l G n (sk_mk (sk_S g c r d) m (k + 1)) (nI (k + 1)) := ih () trivial
    show wX_possible_22 post (nI m) g c r d l G (n + 1) (sk_mk (sk_S g c r d) m k) (nI k)
    refine br_f (nI_ge (b := 576) hk (by decide)) ⟨vp_in_nI hk (by decide), ?_⟩
    refine xl_sol hk g c r d l G hX.2.1 hX.2.2 (sk_XG hX hk) (fun z => ?_) (fun z => ?_)
    · rw [sk_mk1 z] at ih'
      refine br_f (by decide) ⟨vp_in_nI hk (by decide), ?_⟩
      exact xl_ht hk hm (sk_XG hX hk) rfl (nm_e (nm_r (nI_1 k) ih'))
    · rw [sk_mk0 z] at ih'
      exact br_t rfl (nm_r (nI_1 k) ih')
theorem xa_height {post : Int32 → Prop} {g c r d l G : Nat → Int32} (hX : sk_X r d G) {m : Nat} (hm : m < 16) (x : Int32) : ∀ e i k, i + e = 576 → post (sk_ht (sk_S g c r d) m x e i k) → wX_height_23 post x (nI m) g c r d l G (e + 1) (nI k) (nI i)
  | 0, i, k, hi, h => by
    have e : i = 576 := by omega
    subst e
    exact br_t (nI_le (a := 576) (b := 576) (Nat.le_refl _) (by decide)) h
  | e + 1, i, k, hi, h => by
    have hk : i < 576 := by omega
    refine br_f (nI_ge (b := 576) hk (by decide)) ⟨vp_in_nI hk (by decide), ?_⟩
    refine xl_sol hk g c r d l G hX.2.1 hX.2.2 (sk_XG hX hk) (fun z => br_f (by decide) ?_) (fun z => br_t rfl (nm_r (nI_1 i) ?_))
    · refine br_c (fun y => ⟨vp_in_nI hk (by decide), ?_⟩) (fun y => nm_r (nI_1 k) (nm_r (nI_1 i) ?_))
      · rw [sk_ht1 z y] at h
        exact xl_ht hk hm (sk_XG hX hk) rfl h
      · rw [sk_ht2 z y] at h
        exact xa_height hX hm x e (i + 1) (k + 1) (by omega) h
    · rw [sk_ht3 z] at h
      exact xa_height hX hm x e (i + 1) k (by omega) h
theorem xa_votes {post : Int32 → Prop} {g c r d l G : Nat → Int32} (hX : sk_X r d G) {m : Nat} (hm : m < 16) (x : Int32) (h : post (nI (sk_cn (sk_vo (sk_S g c r d) m x) 576))) : ∃ n, wX_votes_36 post x (nI m) g c r d l G n 0 0 := by
  refine loop_0 (σ := Unit) (fun n k _ => wX_votes_36 post x (nI m) g c r d l G n (nI (sk_cn (sk_vo (sk_S g c r d) m x) k)) (nI k)) (fun _ _ => True) 576 () trivial ?_ ?_
  · intro n s _
    exact br_t (nI_le (a := 576) (b := 576) (Nat.le_refl _) (by decide)) h
  · intro n k s hk _ ih
    have ih' : wX_votes_36 post x (nI m) g c r d l G n (nI (sk_cn (sk_vo (sk_S g c r d) m x) (k + 1))) (nI (k + 1)) := ih () trivial
    show wX_votes_36 post x (nI m) g c r d l G (n + 1) (nI (sk_cn (sk_vo (sk_S g c r d) m x) k)) (nI k)
    refine br_f (nI_ge (b := 576) hk (by decide)) ⟨vp_in_nI hk (by decide), ?_⟩
    refine xl_ht hk hm (sk_XG hX hk) rfl ?_
    refine br_c (fun y => ⟨vp_in_nI hk (by decide), ?_⟩) (fun y => ?_)
    · refine xl_sol hk g c r d l G hX.2.1 hX.2.2 (sk_XG hX hk) (fun z => ?_) (fun z => ?_)
      · rw [sk_cn_t (sk_vo1 z y)] at ih'
        exact br_f (by decide) (nm_r (nI_1 _) (nm_r (nI_1 k) ih'))
      · rw [sk_cn_f (sk_vo3 z)] at ih'
        exact br_t rfl (nm_r (nI_1 k) ih')
    · rw [sk_cn_f (sk_vo2 y)] at ih'
      exact nm_r (nI_1 k) ih'
theorem xa_equal {post : Int32 → Prop} (x : Int32) (h : post (nI (sk_cn (fun c => decide (sk_fl x c = 0)) 16))) : wpX_equalCells post x := by
  refine loop_0 (σ := Unit) (fun n k _ => wX_equalCells_4 post x n (nI (sk_cn (fun c => decide (sk_fl x c = 0)) k)) (nI k)) (fun _ _ => True) 16 () trivial ?_ ?_
  · intro n s _
    exact br_t (nI_le (a := 16) (b := 16) (Nat.le_refl _) (by decide)) h
  · intro n k s hk _ ih
    have ih' : wX_equalCells_4 post x n (nI (sk_cn (fun c => decide (sk_fl x c = 0)) (k + 1))) (nI (k + 1)) := ih () trivial
    have e2 : (2 : Int32) * nI k = nI (2 * k) := pk_mul 2 k
    show wX_equalCells_4 post x (n + 1) (nI (sk_cn (fun c => decide (sk_fl x c = 0)) k)) (nI k)
    refine br_f (nI_ge (b := 16) hk (by decide)) ?_
    rw [e2]
    refine br_c (fun z => ?_) (fun z => ?_)
    · rw [sk_cn_t (P := fun c => decide (sk_fl x c = 0)) (decide_eq_true z)] at ih'
      exact nm_r (nI_1 _) (nm_r (nI_1 k) ih')
    · rw [sk_cn_f (P := fun c => decide (sk_fl x c = 0)) (decide_eq_false z)] at ih'
      exact nm_r (nI_1 k) ih'
def sk_FI (P : Nat → Bool) (k : Nat) (s : Int32 × Int32 × Int32) : Prop := (s.1 = 0 ∧ s.2.2 = 0 ∧ ∀ j, j < k → P j = false) ∨ (s.1 = 1 ∧ ∃ i0, i0 < k ∧ P i0 = true ∧ s.2.1 = nI (sk_gN (sk_q i0)) ∧ ∀ c, c < 16 → (sk_fl s.2.2 c = 0 ↔ ∀ j, j < k → P j = true → sk_H j (15 - c) = sk_H i0 (15 - c)))
theorem sk_FI_f {P : Nat → Bool} {k : Nat} {s : Int32 × Int32 × Int32} (z : P k = false) (I : sk_FI P k s) : sk_FI P (k + 1) s := by
  rcases I with ⟨a, b, e⟩ | ⟨a, i0, hi, hp, hf, hc⟩
  · refine Or.inl ⟨a, b, lt_s e z⟩
  · refine Or.inr ⟨a, i0, by omega, hp, hf, fun c h16 => ?_⟩
    rw [hc c h16]
    constructor
    · exact fun q => lt_s q (fun w => absurd (w.symm.trans z) (by decide))
    · exact fun q j hj => q j (by omega)
theorem sk_fl_00 (g : Int32) {c : Nat} (hc : c < 16) : sk_fl (0 ||| (g ^^^ g)) c = 0 := by
  rw [sk_fl_or 0 g g hc, sk_fl0 _ hc, b_0, b_0]
  exact ⟨⟨rfl, rfl⟩, rfl, rfl⟩
theorem sk_FI_0 {P : Nat → Bool} {k : Nat} (z : P k = true) (e : ∀ j, j < k → P j = false) : sk_FI P (k + 1) (1, nI (sk_gN (sk_q k)), 0 ||| (nI (sk_gN (sk_q k)) ^^^ nI (sk_gN (sk_q k)))) := by
  refine Or.inr ⟨rfl, k, by omega, z, rfl, fun c hc => ?_⟩
  refine ⟨fun _ => lt_s (fun j hj w => absurd ((e j hj).symm.trans w) (by decide)) (fun _ => rfl), fun _ => sk_fl_00 _ hc⟩
theorem sk_FI_1 {P : Nat → Bool} {k : Nat} (hk : k < 576) {v : Int32} {i0 : Nat} (z : P k = true) (hi : i0 < k) (hp : P i0 = true) (hc : ∀ c, c < 16 → (sk_fl v c = 0 ↔ ∀ j, j < k → P j = true → sk_H j (15 - c) = sk_H i0 (15 - c))) : sk_FI P (k + 1) (1, nI (sk_gN (sk_q i0)), v ||| (nI (sk_gN (sk_q k)) ^^^ nI (sk_gN (sk_q i0)))) := by
  refine Or.inr ⟨rfl, i0, by omega, hp, rfl, fun c h16 => ?_⟩
  show sk_fl (v ||| (nI (sk_gN (sk_q k)) ^^^ nI (sk_gN (sk_q i0)))) c = 0 ↔ _
  rw [sk_fl_or _ _ _ h16, sk_same hk (by omega) h16, hc c h16]
  constructor
  · exact fun q => lt_s q.1 (fun _ => q.2)
  · exact fun q => ⟨fun j hj => q j (by omega), q k (by omega) z⟩
theorem xa_fixed {post : Int32 → Prop} {g c r d l G : Nat → Int32} (hX : sk_X r d G) (h : post (nI (sk_fc (sk_S g c r d)))) : wpX_fixedCells post (g, c, r, d, l, G) := by
  refine loop_0 (σ := Int32 × Int32 × Int32) (fun n k s => wX_fixedCells_9 post g c r d l G n s.1 s.2.1 s.2.2 (nI k)) (fun k s => sk_FI (sk_S g c r d) k s) 576 (0, 0, 0) (Or.inl ⟨rfl, rfl, lt_0⟩) ?_ ?_
  · intro n s I
    show wX_fixedCells_9 post g c r d l G (n + 1) s.1 s.2.1 s.2.2 (nI 576)
    refine br_t (nI_le (a := 576) (b := 576) (Nat.le_refl _) (by decide)) ?_
    rcases I with ⟨a, b, e⟩ | ⟨a, i0, hi, hp, hf, hc⟩
    · rw [sk_fc0 (sk_cn0 576 e)] at h
      exact br_t a h
    · refine br_f (by rw [a]; decide) ?_
      refine xa_equal _ ?_
      rw [sk_fixed hi hp hc]
      exact h
  · intro n k s hk I ih
    have hv : vp_in (nI k) 576 := vp_in_nI hk (by decide)
    have nx : ∀ x1 x2 x3 : Int32, sk_FI (sk_S g c r d) (k + 1) (x1, x2, x3) → wX_fixedCells_9 post g c r d l G n x1 x2 x3 (nI (k + 1)) := fun x1 x2 x3 w => ih (x1, x2, x3) w
    show wX_fixedCells_9 post g c r d l G (n + 1) s.1 s.2.1 s.2.2 (nI k)
    obtain ⟨x1, x2, x3⟩ := s
    refine br_f (nI_ge (b := 576) hk (by decide)) ⟨hv, ?_⟩
    refine xl_sol hk g c r d l G hX.2.1 hX.2.2 (sk_XG hX hk) (fun z => br_f (by decide) ?_) (fun z => br_t rfl (nm_r (nI_1 k) (nx _ _ _ (sk_FI_f z I))))
    rcases I with ⟨a, b, e⟩ | ⟨a, i0, hi, hp, hf, hc⟩
    · refine br_t a ⟨hv, nm_r (sk_XG hX hk) ⟨hv, ?_⟩⟩
      rw [sk_XG hX hk]
      refine nm_e (nm_r (nI_1 k) (nx _ _ _ ?_))
      have b' : x3 = 0 := b
      rw [b']
      exact sk_FI_0 z e
    · refine br_f (by have a' : x1 = 1 := a; show ¬ x1 = 0; rw [a']; decide) ⟨hv, ?_⟩
      rw [sk_XG hX hk]
      refine nm_e (nm_r (nI_1 k) (nx _ _ _ ?_))
      have a' : x1 = 1 := a
      have f' : x2 = nI (sk_gN (sk_q i0)) := hf
      rw [a', f']
      exact sk_FI_1 hk z hi hp hc
end
section
/-! Y's answers -/
def sk_Y (od sq r d sg : Nat → Int32) : Prop := (∀ j, j < 96 → od j = nI (sk_d j)) ∧ (∀ i, i < 576 → sq i = nI (sk_q i)) ∧ sk_E r d sg
theorem sk_fitT {ft g c r d : Nat → Int32} (hf : ∀ i, i < 576 → ft i = sk_b (sk_S g c r d i)) {i : Nat} (hi : i < 576) {A B : Prop} (a : sk_S g c r d i = false → A) (b : sk_S g c r d i = true → B) : (ft (nI i).toNatClampNeg = 0 → A) ∧ (¬ ft (nI i).toNatClampNeg = 0 → B) := by
  rw [nI_clamp (by omega), hf i hi]
  cases e : sk_S g c r d i
  · exact br_t rfl (a e)
  · exact br_f (by decide) (b e)
theorem ya_solutions {post : Int32 → SY → Prop} {li kn : Int32} {od sq ft g c sg r d : Nat → Int32} (hY : sk_Y od sq r d sg) (hK : sk_K kn ft g c r d) (h : ∀ ft' : Nat → Int32, (∀ i, i < 576 → ft' i = sk_b (sk_S g c r d i)) → post (nI (sk_cn (sk_S g c r d) 576)) (li, 1, od, sq, ft', g, c, sg)) : wpY_solutions post (li, kn, od, sq, ft, g, c, sg) := by
  unfold wpY_solutions
  dsimp only
  refine yl_test hY.1 hY.2.1 hY.2.2 hK (fun ft' hf => ?_)
  have hp := h ft' hf
  refine loop_0 (σ := Unit) (fun n k _ => wY_solutions_8 post li 1 od sq ft' g c sg n (nI (sk_cn (sk_S g c r d) k)) (nI k)) (fun _ _ => True) 576 () trivial ?_ ?_
  · intro n s _
    exact br_t (nI_le (a := 576) (b := 576) (Nat.le_refl _) (by decide)) hp
  · intro n k s hk _ ih
    have ih' : wY_solutions_8 post li 1 od sq ft' g c sg n (nI (sk_cn (sk_S g c r d) (k + 1))) (nI (k + 1)) := ih () trivial
    show wY_solutions_8 post li 1 od sq ft' g c sg (n + 1) (nI (sk_cn (sk_S g c r d) k)) (nI k)
    refine br_f (nI_ge (b := 576) hk (by decide)) ⟨vp_in_nI hk (by decide), sk_fitT hf hk (fun z => ?_) (fun z => ?_)⟩
    · rw [sk_cn_f z] at ih'
      exact nm_r (nI_1 k) ih'
    · rw [sk_cn_t z] at ih'
      exact nm_r (nI_1 _) (nm_r (nI_1 k) ih')
theorem ya_possible {post : Int32 → SY → Prop} {li kn : Int32} {od sq ft g c sg r d : Nat → Int32} (hY : sk_Y od sq r d sg) (hf : ∀ i, i < 576 → ft i = sk_b (sk_S g c r d i)) {a b : Nat} (ha : a < 4) (hb : b < 4) (h : post (sk_mk (sk_S g c r d) (a * 4 + b) 576) (li, kn, od, sq, ft, g, c, sg)) : ∃ n, wY_possible_20 post (nI a) (nI b) li kn od sq ft g c sg n 0 0 := by
  refine loop_0 (σ := Unit) (fun n k _ => wY_possible_20 post (nI a) (nI b) li kn od sq ft g c sg n (sk_mk (sk_S g c r d) (a * 4 + b) k) (nI k)) (fun _ _ => True) 576 () trivial ?_ ?_
  · intro n s _
    exact br_t (nI_le (a := 576) (b := 576) (Nat.le_refl _) (by decide)) h
  · intro n k s hk _ ih
    have ih' : wY_possible_20 post (nI a) (nI b) li kn od sq ft g c sg n (sk_mk (sk_S g c r d) (a * 4 + b) (k + 1)) (nI (k + 1)) := ih () trivial
    show wY_possible_20 post (nI a) (nI b) li kn od sq ft g c sg (n + 1) (sk_mk (sk_S g c r d) (a * 4 + b) k) (nI k)
    refine br_f (nI_ge (b := 576) hk (by decide)) ⟨vp_in_nI hk (by decide), sk_fitT hf hk (fun z => ?_) (fun z => ?_)⟩
    · rw [sk_mk0 z] at ih'
      exact nm_r (nI_1 k) ih'
    · rw [sk_mk1 z] at ih'
      exact yl_at hY.1 hY.2.1 hk ha hb rfl rfl rfl (nm_e (nm_r (nI_1 k) ih'))
theorem ya_height {post : Int32 → SY → Prop} {li kn : Int32} {od sq ft g c sg r d : Nat → Int32} (hY : sk_Y od sq r d sg) (hf : ∀ i, i < 576 → ft i = sk_b (sk_S g c r d i)) {a b : Nat} (ha : a < 4) (hb : b < 4) (x : Int32) : ∀ e i k, i + e = 576 → post (sk_ht (sk_S g c r d) (a * 4 + b) x e i k) (li, kn, od, sq, ft, g, c, sg) → wY_height_21 post x (nI a) (nI b) li kn od sq ft g c sg (e + 1) (nI k) (nI i)
  | 0, i, k, hi, h => by
    have e : i = 576 := by omega
    subst e
    exact br_t (nI_le (a := 576) (b := 576) (Nat.le_refl _) (by decide)) h
  | e + 1, i, k, hi, h => by
    have hk : i < 576 := by omega
    refine br_f (nI_ge (b := 576) hk (by decide)) ⟨vp_in_nI hk (by decide), sk_fitT hf hk (fun z => nm_r (nI_1 i) ?_) (fun z => ?_)⟩
    · rw [sk_ht3 z] at h
      exact ya_height hY hf ha hb x e (i + 1) k (by omega) h
    · refine br_c (fun y => ?_) (fun y => nm_r (nI_1 k) (nm_r (nI_1 i) ?_))
      · rw [sk_ht1 z y] at h
        exact yl_at hY.1 hY.2.1 hk ha hb rfl rfl rfl h
      · rw [sk_ht2 z y] at h
        exact ya_height hY hf ha hb x e (i + 1) (k + 1) (by omega) h
theorem ya_votes {post : Int32 → SY → Prop} {li kn : Int32} {od sq ft g c sg r d : Nat → Int32} (hY : sk_Y od sq r d sg) (hf : ∀ i, i < 576 → ft i = sk_b (sk_S g c r d i)) {a b : Nat} (ha : a < 4) (hb : b < 4) (x : Int32) (h : post (nI (sk_cn (sk_vo (sk_S g c r d) (a * 4 + b) x) 576)) (li, kn, od, sq, ft, g, c, sg)) : ∃ n, wY_votes_34 post (nI a) (nI b) x li kn od sq ft g c sg n 0 0 := by
  refine loop_0 (σ := Unit) (fun n k _ => wY_votes_34 post (nI a) (nI b) x li kn od sq ft g c sg n (nI (sk_cn (sk_vo (sk_S g c r d) (a * 4 + b) x) k)) (nI k)) (fun _ _ => True) 576 () trivial ?_ ?_
  · intro n s _
    exact br_t (nI_le (a := 576) (b := 576) (Nat.le_refl _) (by decide)) h
  · intro n k s hk _ ih
    have ih' : wY_votes_34 post (nI a) (nI b) x li kn od sq ft g c sg n (nI (sk_cn (sk_vo (sk_S g c r d) (a * 4 + b) x) (k + 1))) (nI (k + 1)) := ih () trivial
    show wY_votes_34 post (nI a) (nI b) x li kn od sq ft g c sg (n + 1) (nI (sk_cn (sk_vo (sk_S g c r d) (a * 4 + b) x) k)) (nI k)
    refine br_f (nI_ge (b := 576) hk (by decide)) ⟨vp_in_nI hk (by decide), sk_fitT hf hk (fun z => ?_) (fun z => ?_)⟩
    · rw [sk_cn_f (sk_vo3 z)] at ih'
      exact nm_r (nI_1 k) ih'
    · refine yl_at hY.1 hY.2.1 hk ha hb rfl rfl rfl ?_
      refine br_c (fun y => ?_) (fun y => ?_)
      · rw [sk_cn_t (sk_vo1 z y)] at ih'
        exact nm_r (nI_1 _) (nm_r (nI_1 k) ih')
      · rw [sk_cn_f (sk_vo2 y)] at ih'
        exact nm_r (nI_1 k) ih'
theorem sk_cl4 {a b : Nat} (ha : a < 4) (hb : b < 4) : sk_cl (nI a) (nI b) := by
  unfold sk_cl
  rw [sk_nI4 ha, sk_nI4 hb]
  omega
/-- votes, whole, of a cell and a height that are allowed -/
theorem ya_vote {post : Int32 → SY → Prop} {li kn : Int32} {od sq ft g c sg r d : Nat → Int32} (hY : sk_Y od sq r d sg) (hK : sk_K kn ft g c r d) {a b m : Nat} (ha : a < 4) (hb : b < 4) (hm : m < 4) {x y w : Int32} (hx : x = nI a) (hy : y = nI b) (hw : w = nI (m + 1)) (h : ∀ ft' : Nat → Int32, (∀ i, i < 576 → ft' i = sk_b (sk_S g c r d i)) → post (nI (sk_cn (sk_vo (sk_S g c r d) (a * 4 + b) (nI (m + 1))) 576)) (li, 1, od, sq, ft', g, c, sg)) : wpY_votes post (li, kn, od, sq, ft, g, c, sg) x y w := by
  subst hx hy hw
  unfold wpY_votes
  dsimp only
  refine yl_bad (fun _ => br_t rfl ?_) (fun z => absurd (sk_cl4 ha hb) z)
  refine br_f (nI_nlt (b := 1) (by omega) (by omega)) (br_t (nI_le (b := 4) (by omega) (by decide)) ?_)
  refine yl_test hY.1 hY.2.1 hY.2.2 hK (fun ft' hf => ?_)
  exact ya_votes hY hf ha hb _ (h ft' hf)
theorem sk_fx1 {P : Nat → Bool} {k : Nat} (h0 : 0 < sk_cn P 576) (e : sk_cn (sk_vo P (k / 4) (nI (k % 4 + 1))) 576 = sk_cn P 576) : sk_fx P k = true := by
  unfold sk_fx
  rw [decide_eq_true h0, decide_eq_true e]
  rfl
theorem sk_fx2 {P : Nat → Bool} {k : Nat} (e : ¬ sk_cn (sk_vo P (k / 4) (nI (k % 4 + 1))) 576 = sk_cn P 576) : sk_fx P k = false := by
  unfold sk_fx
  rw [decide_eq_false e, Bool.and_false]
theorem sk_fx0 {P : Nat → Bool} {k : Nat} (h0 : ¬ 0 < sk_cn P 576) : sk_fx P k = false := by
  unfold sk_fx
  rw [decide_eq_false h0, Bool.false_and]
theorem ya_fixed {post : Int32 → SY → Prop} {li kn : Int32} {od sq ft g c sg r d : Nat → Int32} (hY : sk_Y od sq r d sg) (hK : sk_K kn ft g c r d) (h : ∀ ft' : Nat → Int32, (∀ i, i < 576 → ft' i = sk_b (sk_S g c r d i)) → post (nI (sk_fc (sk_S g c r d))) (li, 1, od, sq, ft', g, c, sg)) : wpY_fixedCells post (li, kn, od, sq, ft, g, c, sg) := by
  unfold wpY_fixedCells
  dsimp only
  refine ya_solutions hY hK (fun ft1 hf1 => ?_)
  refine loop_0 (σ := Nat → Int32) (fun n k s => wY_fixedCells_9 post (nI (sk_cn (sk_S g c r d) 576)) n (nI (sk_cn (sk_fx (sk_S g c r d)) k)) (nI k) li 1 od sq s g c sg) (fun _ s => ∀ i, i < 576 → s i = sk_b (sk_S g c r d i)) 64 ft1 hf1 ?_ ?_
  · intro n s I
    exact br_t (nI_le (a := 64) (b := 64) (Nat.le_refl _) (by decide)) (h s I)
  · intro n k s hk I ih
    have hall := sk_cn_le (sk_S g c r d) 576
    have nx : ∀ s', (∀ i, i < 576 → s' i = sk_b (sk_S g c r d i)) → wY_fixedCells_9 post (nI (sk_cn (sk_S g c r d) 576)) n (nI (sk_cn (sk_fx (sk_S g c r d)) (k + 1))) (nI (k + 1)) li 1 od sq s' g c sg := ih
    show wY_fixedCells_9 post (nI (sk_cn (sk_S g c r d) 576)) (n + 1) (nI (sk_cn (sk_fx (sk_S g c r d)) k)) (nI k) li 1 od sq s g c sg
    refine br_f (nI_ge (b := 64) hk (by decide)) ?_
    by_cases h0 : 0 < sk_cn (sk_S g c r d) 576
    · refine br_f (nI_nle h0 (by omega)) ⟨by decide, by decide, by decide, by decide, ?_⟩
      have e16 : nI k / 16 = nI (k / 16) := pk_div (d := 16) (by omega) (by decide) (by decide)
      have e4 : nI k / 4 = nI (k / 4) := pk_div (d := 4) (by omega) (by decide) (by decide)
      have em : nI (k / 4) - nI (k / 4) / 4 * 4 = nI (k / 4 % 4) := pk_rem (d := 4) (by omega) (by decide) (by decide)
      have eh : nI k - nI k / 4 * 4 = nI (k % 4) := pk_rem (d := 4) (by omega) (by decide) (by decide)
      refine ya_vote hY (Or.inr ⟨rfl, I⟩) (a := k / 16) (b := k / 4 % 4) (m := k % 4) (by omega) (by omega) (by omega) e16 (by rw [e4, em]) (by rw [eh, nI_1]) (fun s' hs => ?_)
      rw [show k / 16 * 4 + k / 4 % 4 = k / 4 by omega]
      have hv := sk_cn_le (sk_vo (sk_S g c r d) (k / 4) (nI (k % 4 + 1))) 576
      have n1 := nx s' hs
      refine br_c (fun y => ?_) (fun y => ?_)
      · rw [sk_cn_t (sk_fx1 h0 ((nI_eq (by omega) (by omega)).mp y))] at n1
        exact nm_r (nI_1 _) (nm_r (nI_1 k) n1)
      · rw [sk_cn_f (sk_fx2 (fun w => y (congrArg nI w)))] at n1
        exact nm_r (nI_1 k) n1
    · have n1 := nx s I
      rw [sk_cn_f (sk_fx0 h0)] at n1
      have ez : sk_cn (sk_S g c r d) 576 = 0 := by omega
      refine br_t ?_ (nm_r (nI_1 k) n1)
      rw [ez]
      decide
end
section
/-! the constructors -/
abbrev sk_J : Type := Int32 → Int32 → (Nat → Int32) → (Nat → Int32) → (Nat → Int32) → (Nat → Int32) → (Nat → Int32) → (Nat → Int32) → Prop
def sk_eX (q : Nat) : Int32 := nI (sk_gN q)
def sk_eY (q : Nat) : Int32 := nI q
theorem sk_sh1 {j : Nat} (hj : j < 32) : (1 : Int32) <<< (nI j &&& 31) = nI (2 ^ j) := by
  show nI 1 <<< (nI j &&& 31) = _
  rw [pk_shlN (nI j &&& 31) j (s_l j hj) (by rw [Nat.one_mul]; exact Nat.pow_lt_pow_right (by decide) hj), Nat.one_mul]
theorem sk_tf {b : Bool} (h : b = true) (h2 : b = false) : False := by
  rw [h] at h2
  exact absurd h2 (by decide)
theorem xl_has {post : Int32 → Prop} {m : Nat} (hm : m < 256) (h1 : sk_seen m 4 = 15 → post 1) (h0 : ¬ sk_seen m 4 = 15 → post 0) : wpX_hasAllHeights post (nI m) := by
  refine loop_0 (σ := Unit) (fun n k _ => wX_hasAllHeights_4 post (nI m) n (nI (sk_seen m k)) (nI k)) (fun _ _ => True) 4 () trivial ?_ ?_
  · intro n s _
    have hl := sk_seen_lt m 4
    refine br_t (nI_le (a := 4) (b := 4) (Nat.le_refl _) (by decide)) ?_
    exact br_c (fun z => h1 ((nI_eq (a := sk_seen m 4) (b := 15) (by omega) (by decide)).mp z)) (fun z => h0 (fun w => z (congrArg nI w)))
  · intro n k s hk _ ih
    have e2 : (2 : Int32) * nI k = nI (2 * k) := pk_mul 2 k
    have p2 : 2 ^ (2 * k) = 4 ^ k := Nat.pow_mul 2 2 k
    have a := pk_ushrN (n := m) (by omega) (nI (2 * k)) (2 * k) (s_u _ (by omega))
    have b : nI (m / 4 ^ k) &&& 3 = nI (m / 4 ^ k % 4) := pk_andN (n := m / 4 ^ k) (Nat.lt_of_le_of_lt (Nat.div_le_self _ _) (by omega)) (m := 3) 2 (by decide)
    have hj : m / 4 ^ k % 4 < 4 := Nat.mod_lt _ (by decide)
    have e : nI (sk_seen m k) ||| ((1 : Int32) <<< (((((nI m).toUInt32 >>> ((2 * nI k).toUInt32 &&& Int32.toUInt32 31)).toInt32) &&& 3) &&& 31)) = nI (sk_seen m (k + 1)) := by
      rw [e2, a, p2, b, sk_sh1 (Nat.lt_trans hj (by decide)), nx_or]
      rfl
    exact br_f (nI_ge (b := 4) hk (by decide)) (nm_r e (nm_r (nI_1 k) (ih () trivial)))
theorem sk_cx_le : ∀ i, i < 256 → sk_cx i ≤ 24 := by decide +kernel
theorem sk_cx_0 : sk_cx 0 = 0 := by decide +kernel
theorem sk_cy_0 : sk_cy 0 = 0 := by decide +kernel
theorem xl_lines {post : SX → Prop} {g c r d l G : Nat → Int32} (h : ∀ l' : Nat → Int32, (∀ k, k < 24 → l' k = nI (sk_code k)) → post (g, c, r, d, l', G)) : wpX_listLines post (g, c, r, d, l, G) := by
  have st := loop_0 (σ := Nat → Int32) (fun n k s => wX_listLines_4 post n (nI (sk_cx k)) (nI k) g c r d s G) (fun k s => ∀ j, j < sk_cx k → s j = nI (sk_code j)) 256 l (fun j hj => absurd hj (by rw [sk_cx_0]; exact Nat.not_lt_zero j)) ?_ ?_
  · have st' : ∃ n, wX_listLines_4 post n (nI (sk_cx 0)) (nI 0) g c r d l G := st
    rw [sk_cx_0] at st'
    exact st'
  · intro n s I
    have I' : ∀ j, j < sk_cx 256 → s j = nI (sk_code j) := I
    rw [sk_xe] at I'
    exact br_t (nI_le (a := 256) (b := 256) (Nat.le_refl _) (by decide)) (h s I')
  · intro n k s hk I ih
    have I' : ∀ j, j < sk_cx k → s j = nI (sk_code j) := I
    have ih' : ∀ s', (∀ j, j < sk_cx (k + 1) → s' j = nI (sk_code j)) → wX_listLines_4 post n (nI (sk_cx (k + 1))) (nI (k + 1)) g c r d s' G := ih
    have hle := sk_cx_le k hk
    show wX_listLines_4 post (n + 1) (nI (sk_cx k)) (nI k) g c r d s G
    by_cases z : sk_seen k 4 = 15
    · obtain ⟨h24, hcode, hn⟩ := sk_xt k hk z
      rw [hn] at ih'
      have nx := ih' (upd s (sk_cx k) (nI k)) (fun j hj => by
        by_cases e : j = sk_cx k
        · rw [e, pk_us, hcode]
        · rw [pk_un e]
          exact I' j (by omega))
      have ec : (nI (sk_cx k)).toNatClampNeg = sk_cx k := nI_clamp (by omega)
      refine br_f (nI_ge (b := 256) hk (by decide)) (br_f (nI_ge (b := 24) h24 (by decide)) ?_)
      refine xl_has hk (fun _ => br_f (by decide) ⟨vp_in_nI h24 (by decide), ?_⟩) (fun w => absurd z w)
      rw [ec]
      exact nm_e (nm_r (nI_1 _) (nm_r (nI_1 k) nx))
    · have hn := sk_xf k hk z
      rw [hn] at ih'
      have nx := ih' s I'
      refine br_f (nI_ge (b := 256) hk (by decide)) ?_
      exact br_c (fun _ => nm_r (nI_1 k) nx) (fun _ => xl_has hk (fun w => absurd w z) (fun _ => br_t rfl (nm_r (nI_1 k) nx)))
theorem xl_clash {post : Int32 → Prop} {a b : Nat} (ha : a < 24) (hb : b < 24) {x y : Int32} (hx : x = nI (sk_code a)) (hy : y = nI (sk_code b)) (h0 : sk_ap a b = true → post 0) (h1 : sk_ap a b = false → post 1) : wpX_clash post x y := by
  subst hx hy
  have key := sk_apX a ha b hb
  have hl : sk_code a ^^^ sk_code b < 2 ^ 8 := Nat.xor_lt_two_pow (sk_code_lt a ha) (sk_code_lt b hb)
  have nf : ¬ ((sk_code a ^^^ sk_code b) &&& 3 ≠ 0 ∧ (sk_code a ^^^ sk_code b) &&& 12 ≠ 0 ∧ (sk_code a ^^^ sk_code b) &&& 48 ≠ 0 ∧ (sk_code a ^^^ sk_code b) &&& 192 ≠ 0) → sk_ap a b = false := by
    intro w
    cases e : sk_ap a b
    · rfl
    · exact absurd (key.mp e) w
  have c : ∀ m : Nat, nI (sk_code a ^^^ sk_code b) &&& nI m = 0 ↔ (sk_code a ^^^ sk_code b) &&& m = 0 := by
    intro m
    have hm : (sk_code a ^^^ sk_code b) &&& m ≤ sk_code a ^^^ sk_code b := Nat.and_le_left
    rw [nx_and]
    exact nI_eq (b := 0) (by omega) (by decide)
  unfold wpX_clash
  refine nm_r (nx_xor _ _) ?_
  refine br_c (fun z => h1 (nf (fun q => q.1 ((c 3).mp z)))) (fun z3 => br_c (fun z => h1 (nf (fun q => q.2.1 ((c 12).mp z)))) (fun z12 => br_c (fun z => h1 (nf (fun q => q.2.2.1 ((c 48).mp z)))) (fun z48 => br_c (fun z => h1 (nf (fun q => q.2.2.2 ((c 192).mp z)))) (fun z192 => h0 (key.mpr ?_)))))
  exact ⟨fun w => z3 ((c 3).mpr w), fun w => z12 ((c 12).mpr w), fun w => z48 ((c 48).mpr w), fun w => z192 ((c 192).mpr w)⟩
theorem sk_itle (f : Nat → List Nat → List Nat) (h : ∀ i s, s.length ≤ 576 → (f i s).length ≤ 576) (s : List Nat) (hs : s.length ≤ 576) : ∀ n, (sk_it f n s).length ≤ 576
  | 0 => hs
  | n + 1 => h n _ (sk_itle f h s hs n)
theorem sk_Dle (a b c : Nat) : ∀ i s, s.length ≤ 576 → (sk_sD a b c i s).length ≤ 576 := by
  intro i s hs
  rw [sk_lD a b c i s hs]
  omega
theorem sk_Cle (a b : Nat) : ∀ i s, s.length ≤ 576 → (sk_sC a b i s).length ≤ 576 := by
  intro i s hs
  rw [sk_lC a b i s hs]
  omega
theorem sk_Ble (a : Nat) : ∀ i s, s.length ≤ 576 → (sk_sB a i s).length ≤ 576 := by
  intro i s hs
  rw [sk_lB a i s hs]
  omega
theorem sk_Ale : ∀ i s, s.length ≤ 576 → (sk_sA i s).length ≤ 576 := fun i s hs => sk_itle (sk_sB i) (sk_Ble i) s hs 24
theorem sk_el1 {l : Nat → Int32} (hl : ∀ k, k < 24 → l k = nI (sk_code k)) {a : Nat} (ha : a < 24) : l (nI a).toNatClampNeg = nI (sk_code a) := by
  rw [nI_clamp (by omega)]
  exact hl a ha
theorem xl_gD {post : SX → Prop} {J4 J12 J42 : sk_J} {g c r d l : Nat → Int32} (hl : ∀ k, k < 24 → l k = nI (sk_code k)) {a b e : Nat} (ha : a < 24) (hb : b < 24) (he : e < 24) (s0 : List Nat) (h0 : s0.length ≤ 576) (G : Nat → Int32) (hG : sk_Ho sk_eX G s0) (h : ∀ G', sk_Ho sk_eX G' (sk_it (sk_sD a b e) 24 s0) → J42 (nI (sk_it (sk_sD a b e) 24 s0).length) (nI (e + 1)) g c r d l G') : ∃ n, wX_listGrids_93 post J4 J12 J42 (nI a) (nI b) (nI e) n (nI s0.length) 0 g c r d l G := by
  refine loop_0 (σ := Nat → Int32) (fun n k G => wX_listGrids_93 post J4 J12 J42 (nI a) (nI b) (nI e) n (nI (sk_it (sk_sD a b e) k s0).length) (nI k) g c r d l G) (fun k G => sk_Ho sk_eX G (sk_it (sk_sD a b e) k s0)) 24 G hG ?_ ?_
  · intro n s I
    exact br_t (nI_le (a := 24) (b := 24) (Nat.le_refl _) (by decide)) (nm_r (nI_1 e) (h s I))
  · intro n k s hk I ih
    have hS := sk_itle (sk_sD a b e) (sk_Dle a b e) s0 h0 k
    have I' : sk_Ho sk_eX s (sk_it (sk_sD a b e) k s0) := I
    have ih' : ∀ s', sk_Ho sk_eX s' (sk_sD a b e k (sk_it (sk_sD a b e) k s0)) → wX_listGrids_93 post J4 J12 J42 (nI a) (nI b) (nI e) n (nI (sk_sD a b e k (sk_it (sk_sD a b e) k s0)).length) (nI (k + 1)) g c r d l s' := ih
    show wX_listGrids_93 post J4 J12 J42 (nI a) (nI b) (nI e) (n + 1) (nI (sk_it (sk_sD a b e) k s0).length) (nI k) g c r d l s
    generalize sk_it (sk_sD a b e) k s0 = S at hS I' ih' ⊢
    have nx0 : ¬ (sk_ap a k = true ∧ sk_ap b k = true ∧ sk_ap e k = true ∧ S.length < 576) → ∀ y, y = nI k + 1 → wX_listGrids_93 post J4 J12 J42 (nI a) (nI b) (nI e) n (nI S.length) y g c r d l s := by
      intro w
      have es : sk_sD a b e k S = S := if_neg w
      rw [es] at ih'
      exact nm_r (nI_1 k) (ih' s I')
    have va := vp_in_nI ha (by decide : 24 < 2 ^ 31)
    have vb := vp_in_nI hb (by decide : 24 < 2 ^ 31)
    have ve := vp_in_nI he (by decide : 24 < 2 ^ 31)
    have vk := vp_in_nI hk (by decide : 24 < 2 ^ 31)
    refine br_f (nI_ge (b := 24) hk (by decide)) ⟨va, vk, ?_⟩
    refine xl_clash ha hk (sk_el1 hl ha) (sk_el1 hl hk) (fun p1 => br_t rfl ⟨vb, vk, ?_⟩) (fun p1 => br_f (by decide) (nx0 (fun w => sk_tf w.1 p1)))
    refine xl_clash hb hk (sk_el1 hl hb) (sk_el1 hl hk) (fun p2 => br_t rfl ⟨ve, vk, ?_⟩) (fun p2 => br_f (by decide) (nx0 (fun w => sk_tf w.2.1 p2)))
    refine xl_clash he hk (sk_el1 hl he) (sk_el1 hl hk) (fun p3 => br_t rfl ?_) (fun p3 => br_f (by decide) (nx0 (fun w => sk_tf w.2.2.1 p3)))
    by_cases w : S.length < 576
    · have ec : (nI S.length).toNatClampNeg = S.length := nI_clamp (by omega)
      have es : sk_sD a b e k S = sk_pk a b e k :: S := if_pos ⟨p1, p2, p3, w⟩
      rw [es] at ih'
      have nx := ih' (upd s S.length (sk_eX (sk_pk a b e k))) (sk_Hop _ I')
      refine br_f (nI_ge (b := 576) w (by decide)) ⟨va, vb, ve, vk, vp_in_nI w (by decide), ?_⟩
      rw [sk_el1 hl ha, sk_el1 hl hb, sk_el1 hl he, sk_el1 hl hk, sk_pack' ha hb he hk, ec]
      exact nm_e (nm_r (nI_1 _) (nm_r (nI_1 k) nx))
    · exact br_t (nI_le (a := 576) (by omega) (by omega)) (nx0 (fun q => w q.2.2.2))
theorem xl_gC {post : SX → Prop} {J4 J12 : sk_J} {g c r d l : Nat → Int32} (hl : ∀ k, k < 24 → l k = nI (sk_code k)) {a b : Nat} (ha : a < 24) (hb : b < 24) (s0 : List Nat) (h0 : s0.length ≤ 576) (G : Nat → Int32) (hG : sk_Ho sk_eX G s0) (h : ∀ G', sk_Ho sk_eX G' (sk_it (sk_sC a b) 24 s0) → J12 (nI (sk_it (sk_sC a b) 24 s0).length) (nI (b + 1)) g c r d l G') : ∃ n, wX_listGrids_42 post J4 J12 (nI a) (nI b) n (nI s0.length) 0 g c r d l G := by
  refine loop_0 (σ := Nat → Int32) (fun n k G => wX_listGrids_42 post J4 J12 (nI a) (nI b) n (nI (sk_it (sk_sC a b) k s0).length) (nI k) g c r d l G) (fun k G => sk_Ho sk_eX G (sk_it (sk_sC a b) k s0)) 24 G hG ?_ ?_
  · intro n s I
    exact br_t (nI_le (a := 24) (b := 24) (Nat.le_refl _) (by decide)) (nm_r (nI_1 b) (h s I))
  · intro n k s hk I ih
    have hS := sk_itle (sk_sC a b) (sk_Cle a b) s0 h0 k
    have I' : sk_Ho sk_eX s (sk_it (sk_sC a b) k s0) := I
    have ih' : ∀ s', sk_Ho sk_eX s' (sk_sC a b k (sk_it (sk_sC a b) k s0)) → wX_listGrids_42 post J4 J12 (nI a) (nI b) n (nI (sk_sC a b k (sk_it (sk_sC a b) k s0)).length) (nI (k + 1)) g c r d l s' := ih
    show wX_listGrids_42 post J4 J12 (nI a) (nI b) (n + 1) (nI (sk_it (sk_sC a b) k s0).length) (nI k) g c r d l s
    generalize sk_it (sk_sC a b) k s0 = S at hS I' ih' ⊢
    have nx0 : ¬ (sk_ap a k = true ∧ sk_ap b k = true) → ∀ y, y = nI k + 1 → wX_listGrids_42 post J4 J12 (nI a) (nI b) n (nI S.length) y g c r d l s := by
      intro w
      have es : sk_sC a b k S = S := if_neg w
      rw [es] at ih'
      exact nm_r (nI_1 k) (ih' s I')
    have va := vp_in_nI ha (by decide : 24 < 2 ^ 31)
    have vb := vp_in_nI hb (by decide : 24 < 2 ^ 31)
    have vk := vp_in_nI hk (by decide : 24 < 2 ^ 31)
    refine br_f (nI_ge (b := 24) hk (by decide)) ⟨va, vk, ?_⟩
    refine xl_clash ha hk (sk_el1 hl ha) (sk_el1 hl hk) (fun p1 => br_t rfl ⟨vb, vk, ?_⟩) (fun p1 => br_f (by decide) (nx0 (fun w => sk_tf w.1 p1)))
    refine xl_clash hb hk (sk_el1 hl hb) (sk_el1 hl hk) (fun p2 => br_t rfl ?_) (fun p2 => br_f (by decide) (nx0 (fun w => sk_tf w.2 p2)))
    have es : sk_sC a b k S = sk_it (sk_sD a b k) 24 S := if_pos ⟨p1, p2⟩
    rw [es] at ih'
    exact xl_gD hl ha hb hk S hS s I' ih'
theorem xl_gB {post : SX → Prop} {J4 : sk_J} {g c r d l : Nat → Int32} (hl : ∀ k, k < 24 → l k = nI (sk_code k)) {a : Nat} (ha : a < 24) (s0 : List Nat) (h0 : s0.length ≤ 576) (G : Nat → Int32) (hG : sk_Ho sk_eX G s0) (h : ∀ G', sk_Ho sk_eX G' (sk_it (sk_sB a) 24 s0) → J4 (nI (sk_it (sk_sB a) 24 s0).length) (nI (a + 1)) g c r d l G') : ∃ n, wX_listGrids_12 post J4 (nI a) n (nI s0.length) 0 g c r d l G := by
  refine loop_0 (σ := Nat → Int32) (fun n k G => wX_listGrids_12 post J4 (nI a) n (nI (sk_it (sk_sB a) k s0).length) (nI k) g c r d l G) (fun k G => sk_Ho sk_eX G (sk_it (sk_sB a) k s0)) 24 G hG ?_ ?_
  · intro n s I
    exact br_t (nI_le (a := 24) (b := 24) (Nat.le_refl _) (by decide)) (nm_r (nI_1 a) (h s I))
  · intro n k s hk I ih
    have hS := sk_itle (sk_sB a) (sk_Ble a) s0 h0 k
    have I' : sk_Ho sk_eX s (sk_it (sk_sB a) k s0) := I
    have ih' : ∀ s', sk_Ho sk_eX s' (sk_sB a k (sk_it (sk_sB a) k s0)) → wX_listGrids_12 post J4 (nI a) n (nI (sk_sB a k (sk_it (sk_sB a) k s0)).length) (nI (k + 1)) g c r d l s' := ih
    show wX_listGrids_12 post J4 (nI a) (n + 1) (nI (sk_it (sk_sB a) k s0).length) (nI k) g c r d l s
    generalize sk_it (sk_sB a) k s0 = S at hS I' ih' ⊢
    have nx0 : ¬ (sk_ap a k = true) → ∀ y, y = nI k + 1 → wX_listGrids_12 post J4 (nI a) n (nI S.length) y g c r d l s := by
      intro w
      have es : sk_sB a k S = S := if_neg w
      rw [es] at ih'
      exact nm_r (nI_1 k) (ih' s I')
    have va := vp_in_nI ha (by decide : 24 < 2 ^ 31)
    have vk := vp_in_nI hk (by decide : 24 < 2 ^ 31)
    refine br_f (nI_ge (b := 24) hk (by decide)) ⟨va, vk, ?_⟩
    refine xl_clash ha hk (sk_el1 hl ha) (sk_el1 hl hk) (fun p1 => br_t rfl ?_) (fun p1 => br_f (by decide) (nx0 (fun w => sk_tf w p1)))
    have es : sk_sB a k S = sk_it (sk_sC a k) 24 S := if_pos p1
    rw [es] at ih'
    exact xl_gC hl ha hk S hS s I' ih'
theorem xl_grids {post : SX → Prop} {g c r d l G : Nat → Int32} (hl : ∀ k, k < 24 → l k = nI (sk_code k)) (h : ∀ G', sk_Ho sk_eX G' sk_R → post (g, c, r, d, l, G')) : wpX_listGrids post (g, c, r, d, l, G) := by
  refine loop_0 (σ := Nat → Int32) (fun n k G => wX_listGrids_4 post n (nI (sk_it sk_sA k []).length) (nI k) g c r d l G) (fun k G => sk_Ho sk_eX G (sk_it sk_sA k [])) 24 G (sk_Ho0 _ _) ?_ ?_
  · intro n s I
    exact br_t (nI_le (a := 24) (b := 24) (Nat.le_refl _) (by decide)) (h s I)
  · intro n k s hk I ih
    have hS := sk_itle sk_sA sk_Ale [] (by decide) k
    have I' : sk_Ho sk_eX s (sk_it sk_sA k []) := I
    have ih' : ∀ s', sk_Ho sk_eX s' (sk_it (sk_sB k) 24 (sk_it sk_sA k [])) → wX_listGrids_4 post n (nI (sk_it (sk_sB k) 24 (sk_it sk_sA k [])).length) (nI (k + 1)) g c r d l s' := ih
    show wX_listGrids_4 post (n + 1) (nI (sk_it sk_sA k []).length) (nI k) g c r d l s
    refine br_f (nI_ge (b := 24) hk (by decide)) ?_
    exact xl_gB hl hk (sk_it sk_sA k []) hS s I' ih'
theorem xl_init {post : SX → Prop} (h : ∀ l G : Nat → Int32, sk_Ho sk_eX G sk_R → post ((fun _ => 0), (fun _ => 0), (fun _ => 0), (fun _ => 0), l, G)) : wpX_init post := by
  unfold wpX_init
  refine xl_lines (fun l hl => ?_)
  exact xl_grids hl (fun G hG => h l G hG)
end
section
/-! Y's constructor -/
theorem sk_apZ : ∀ a, a < 24 → ∀ b, b < 24 → (sk_ap a b = true ↔ ∀ j, j < 4 → sk_dig a j ≠ sk_dig b j) := by decide +kernel
theorem yl_ad {post : Int32 → Prop} {li kn : Int32} {od sq ft g c sg : Nat → Int32} {x : Nat} (hx : x < 10000) (h1 : sk_msk x 4 = 30 → post 1) (h0 : ¬ sk_msk x 4 = 30 → post 0) : wpY_allDifferent post (li, kn, od, sq, ft, g, c, sg) (nI x) := by
  have st := loop_0 (σ := Unit) (fun n k _ => wY_allDifferent_7 post li kn od sq ft g c sg n (nI (sk_msk x k)) (nI (x / 10 ^ k)) (nI k)) (fun _ _ => True) 4 () trivial ?_ ?_
  · have st' : ∃ n, wY_allDifferent_7 post li kn od sq ft g c sg n 0 (nI (x / 1)) 0 := st
    rw [Nat.div_one] at st'
    exact st'
  · intro n s _
    have hl := sk_msk_lt x 4
    refine br_t (nI_le (a := 4) (b := 4) (Nat.le_refl _) (by decide)) ?_
    exact br_c (fun z => h1 ((nI_eq (a := sk_msk x 4) (b := 30) (by omega) (by decide)).mp z)) (fun z => h0 (fun w => z (congrArg nI w)))
  · intro n k s hk _ ih
    have ih' : wY_allDifferent_7 post li kn od sq ft g c sg n (nI (sk_msk x k ||| 2 ^ (x / 10 ^ k % 10))) (nI (x / (10 ^ k * 10))) (nI (k + 1)) := ih () trivial
    rw [← Nat.div_div_eq_div_mul] at ih'
    have hle : x / 10 ^ k ≤ x := Nat.div_le_self _ _
    show wY_allDifferent_7 post li kn od sq ft g c sg (n + 1) (nI (sk_msk x k)) (nI (x / 10 ^ k)) (nI k)
    generalize x / 10 ^ k = y at hle ih' ⊢
    have em : nI y - nI y / 10 * 10 = nI (y % 10) := pk_rem (d := 10) (by omega) (by decide) (by decide)
    have ed : nI y / 10 = nI (y / 10) := pk_div (d := 10) (by omega) (by decide) (by decide)
    have hj : y % 10 < 32 := Nat.lt_trans (Nat.mod_lt _ (by decide)) (by decide)
    have e : nI (sk_msk x k) ||| ((1 : Int32) <<< ((nI y - nI y / 10 * 10) &&& 31)) = nI (sk_msk x k ||| 2 ^ (y % 10)) := by
      rw [em, sk_sh1 hj, nx_or]
    exact br_f (nI_ge (b := 4) hk (by decide)) ⟨by decide, nm_r e ⟨by decide, nm_r ed (nm_r (nI_1 k) ih')⟩⟩
theorem yl_ap {post : Int32 → Prop} {li kn : Int32} {od sq ft g c sg : Nat → Int32} (ho : ∀ j, j < 96 → od j = nI (sk_d j)) {a b : Nat} (ha : a < 24) (hb : b < 24) (h1 : sk_ap a b = true → post 1) (h0 : sk_ap a b = false → post 0) : wpY_apart post (li, kn, od, sq, ft, g, c, sg) (nI a) (nI b) := by
  have key := sk_apZ a ha b hb
  refine loop_0 (σ := Unit) (fun n k _ => wY_apart_2 post (nI a) (nI b) li kn od sq ft g c sg n (nI k)) (fun k _ => ∀ j, j < k → sk_dig a j ≠ sk_dig b j) 4 () lt_0 ?_ ?_
  · intro n s I
    exact br_t (nI_le (a := 4) (b := 4) (Nat.le_refl _) (by decide)) (h1 (key.mpr I))
  · intro n k s hk I ih
    have ra := sk_dig_r a k
    have rb := sk_dig_r b k
    show wY_apart_2 post (nI a) (nI b) li kn od sq ft g c sg (n + 1) (nI k)
    refine br_f (nI_ge (b := 4) hk (by decide)) ?_
    refine yl_dg (by rw [ho _ (by omega), sk_d_dig hk]) ha hk rfl rfl ?_
    refine yl_dg (by rw [ho _ (by omega), sk_d_dig hk]) hb hk rfl rfl ?_
    refine br_c (fun z => h0 ?_) (fun z => nm_r (nI_1 k) (ih () (lt_s I (fun w => z (congrArg nI w)))))
    have e : sk_dig a k = sk_dig b k := (nI_eq (by omega) (by omega)).mp z
    cases w : sk_ap a b
    · rfl
    · exact absurd e (key.mp w k hk)
theorem sk_pkI (a b c d : Nat) : ((nI a + (32 * nI b)) + (1024 * nI c)) + (32768 * nI d) = sk_eY (sk_pk a b c d) := by
  show ((nI a + (nI 32 * nI b)) + (nI 1024 * nI c)) + (nI 32768 * nI d) = nI (a + 32 * b + 1024 * c + 32768 * d)
  rw [pk_mul, pk_mul, pk_mul, nI_add, nI_add, nI_add]
theorem yl_gD {post : SY → Prop} {J2 : sk_J} {kn : Int32} {od ft g c sg : Nat → Int32} (ho : ∀ j, j < 96 → od j = nI (sk_d j)) {a b e : Nat} (ha : a < 24) (hb : b < 24) (he : e < 24) (s0 : List Nat) (h0 : s0.length ≤ 576) (G : Nat → Int32) (hG : sk_Ho sk_eY G s0) (h : ∀ G', sk_Ho sk_eY G' (sk_it (sk_sD a b e) 24 s0) → J2 (nI (e + 1)) (nI (sk_it (sk_sD a b e) 24 s0).length) od G' ft g c sg) : ∃ n, wY_list_36 post J2 (nI a) (nI b) (nI e) 1 kn n 0 (nI s0.length) od G ft g c sg := by
  refine loop_0 (σ := Nat → Int32) (fun n k G => wY_list_36 post J2 (nI a) (nI b) (nI e) 1 kn n (nI k) (nI (sk_it (sk_sD a b e) k s0).length) od G ft g c sg) (fun k G => sk_Ho sk_eY G (sk_it (sk_sD a b e) k s0)) 24 G hG ?_ ?_
  · intro n s I
    exact br_t (nI_le (a := 24) (b := 24) (Nat.le_refl _) (by decide)) (nm_r (nI_1 e) (h s I))
  · intro n k s hk I ih
    have hS := sk_itle (sk_sD a b e) (sk_Dle a b e) s0 h0 k
    have I' : sk_Ho sk_eY s (sk_it (sk_sD a b e) k s0) := I
    have ih' : ∀ s', sk_Ho sk_eY s' (sk_sD a b e k (sk_it (sk_sD a b e) k s0)) → wY_list_36 post J2 (nI a) (nI b) (nI e) 1 kn n (nI (k + 1)) (nI (sk_sD a b e k (sk_it (sk_sD a b e) k s0)).length) od s' ft g c sg := ih
    show wY_list_36 post J2 (nI a) (nI b) (nI e) 1 kn (n + 1) (nI k) (nI (sk_it (sk_sD a b e) k s0).length) od s ft g c sg
    generalize sk_it (sk_sD a b e) k s0 = S at hS I' ih' ⊢
    have nx0 : ¬ (sk_ap a k = true ∧ sk_ap b k = true ∧ sk_ap e k = true ∧ S.length < 576) → ∀ y, y = nI k + 1 → wY_list_36 post J2 (nI a) (nI b) (nI e) 1 kn n y (nI S.length) od s ft g c sg := by
      intro w
      have es : sk_sD a b e k S = S := if_neg w
      rw [es] at ih'
      exact nm_r (nI_1 k) (ih' s I')
    have nz : ¬ (sk_ap a k = true ∧ sk_ap b k = true ∧ sk_ap e k = true ∧ S.length < 576) → wY_list_82 post J2 (wY_list_36 post J2 (nI a) (nI b) (nI e) 1 kn n) (nI a) (nI b) (nI e) 1 (nI k) (nI S.length) kn od s ft g c sg := by
      intro w
      unfold wY_list_82 wY_list_83
      exact br_t rfl (nx0 w)
    refine br_f (nI_ge (b := 24) hk (by decide)) (br_f (by decide) ?_)
    refine yl_ap ho ha hk (fun p1 => br_f (by decide) ?_) (fun p1 => br_t rfl (nz (fun w => sk_tf w.1 p1)))
    refine yl_ap ho hb hk (fun p2 => br_f (by decide) ?_) (fun p2 => br_t rfl (nz (fun w => sk_tf w.2.1 p2)))
    refine yl_ap ho he hk (fun p3 => br_f (by decide) ?_) (fun p3 => br_t rfl (nz (fun w => sk_tf w.2.2.1 p3)))
    unfold wY_list_83
    refine br_f (by decide) ?_
    by_cases w : S.length < 576
    · have ec : (nI S.length).toNatClampNeg = S.length := nI_clamp (by omega)
      have es : sk_sD a b e k S = sk_pk a b e k :: S := if_pos ⟨p1, p2, p3, w⟩
      rw [es] at ih'
      have nx := ih' (upd s S.length (sk_eY (sk_pk a b e k))) (sk_Hop _ I')
      refine br_f (nI_ge (b := 576) w (by decide)) ⟨vp_in_nI w (by decide), ?_⟩
      rw [sk_pkI, ec]
      exact nm_e (nm_r (nI_1 _) (nm_r (nI_1 k) nx))
    · exact br_t (nI_le (a := 576) (by omega) (by omega)) (nx0 (fun q => w q.2.2.2))
theorem yl_gC {post : SY → Prop} {kn : Int32} {od ft g c sg : Nat → Int32} (ho : ∀ j, j < 96 → od j = nI (sk_d j)) {a b : Nat} (ha : a < 24) (hb : b < 24) (s0 : List Nat) (h0 : s0.length ≤ 576) (G : Nat → Int32) (hG : sk_Ho sk_eY G s0) (h : ∀ G', sk_Ho sk_eY G' (sk_it (sk_sC a b) 24 s0) → post (nI (sk_it (sk_sC a b) 24 s0).length, kn, od, G', ft, g, c, sg)) : wpY_list post (nI s0.length, kn, od, G, ft, g, c, sg) (nI a) (nI b) := by
  refine loop_0 (σ := Nat → Int32) (fun n k G => wY_list_2 post (nI a) (nI b) kn n (nI k) (nI (sk_it (sk_sC a b) k s0).length) od G ft g c sg) (fun k G => sk_Ho sk_eY G (sk_it (sk_sC a b) k s0)) 24 G hG ?_ ?_
  · intro n s I
    exact br_t (nI_le (a := 24) (b := 24) (Nat.le_refl _) (by decide)) (h s I)
  · intro n k s hk I ih
    have hS := sk_itle (sk_sC a b) (sk_Cle a b) s0 h0 k
    have I' : sk_Ho sk_eY s (sk_it (sk_sC a b) k s0) := I
    have ih' : ∀ s', sk_Ho sk_eY s' (sk_sC a b k (sk_it (sk_sC a b) k s0)) → wY_list_2 post (nI a) (nI b) kn n (nI (k + 1)) (nI (sk_sC a b k (sk_it (sk_sC a b) k s0)).length) od s' ft g c sg := ih
    show wY_list_2 post (nI a) (nI b) kn (n + 1) (nI k) (nI (sk_it (sk_sC a b) k s0).length) od s ft g c sg
    generalize sk_it (sk_sC a b) k s0 = S at hS I' ih' ⊢
    have nz : ¬ (sk_ap a k = true ∧ sk_ap b k = true) → ∃ n36, wY_list_36 post (wY_list_2 post (nI a) (nI b) kn n) (nI a) (nI b) (nI k) 0 kn n36 0 (nI S.length) od s ft g c sg := by
      intro w
      have es : sk_sC a b k S = S := if_neg w
      rw [es] at ih'
      exact ⟨1, br_f (nI_ge (a := 0) (b := 24) (by decide) (by decide)) (br_t rfl (nm_r (nI_1 k) (ih' s I')))⟩
    refine br_f (nI_ge (b := 24) hk (by decide)) ?_
    refine yl_ap ho ha hk (fun p1 => br_f (by decide) ?_) (fun p1 => br_t rfl (nz (fun w => sk_tf w.1 p1)))
    refine yl_ap ho hb hk (fun p2 => br_f (by decide) ?_) (fun p2 => br_t rfl (nz (fun w => sk_tf w.2 p2)))
    have es : sk_sC a b k S = sk_it (sk_sD a b k) 24 S := if_pos ⟨p1, p2⟩
    rw [es] at ih'
    exact yl_gD ho ha hb hk S hS s I' ih'
theorem yl_gB {post : SY → Prop} {J : Int32 → Int32 → Int32 → (Nat → Int32) → (Nat → Int32) → (Nat → Int32) → (Nat → Int32) → (Nat → Int32) → (Nat → Int32) → Prop} {kn : Int32} {od ft g c sg : Nat → Int32} (ho : ∀ j, j < 96 → od j = nI (sk_d j)) {a : Nat} (ha : a < 24) (s0 : List Nat) (h0 : s0.length ≤ 576) (G : Nat → Int32) (hG : sk_Ho sk_eY G s0) (h : ∀ G', sk_Ho sk_eY G' (sk_it (sk_sB a) 24 s0) → J (nI (a + 1)) (nI (sk_it (sk_sB a) 24 s0).length) kn od G' ft g c sg) : ∃ n, wY_init_161 post J (nI a) n 0 (nI s0.length) kn od G ft g c sg := by
  refine loop_0 (σ := Nat → Int32) (fun n k G => wY_init_161 post J (nI a) n (nI k) (nI (sk_it (sk_sB a) k s0).length) kn od G ft g c sg) (fun k G => sk_Ho sk_eY G (sk_it (sk_sB a) k s0)) 24 G hG ?_ ?_
  · intro n s I
    exact br_t (nI_le (a := 24) (b := 24) (Nat.le_refl _) (by decide)) (nm_r (nI_1 a) (h s I))
  · intro n k s hk I ih
    have hS := sk_itle (sk_sB a) (sk_Ble a) s0 h0 k
    have I' : sk_Ho sk_eY s (sk_it (sk_sB a) k s0) := I
    have ih' : ∀ s', sk_Ho sk_eY s' (sk_sB a k (sk_it (sk_sB a) k s0)) → wY_init_161 post J (nI a) n (nI (k + 1)) (nI (sk_sB a k (sk_it (sk_sB a) k s0)).length) kn od s' ft g c sg := ih
    show wY_init_161 post J (nI a) (n + 1) (nI k) (nI (sk_it (sk_sB a) k s0).length) kn od s ft g c sg
    generalize sk_it (sk_sB a) k s0 = S at hS I' ih' ⊢
    refine br_f (nI_ge (b := 24) hk (by decide)) ?_
    refine yl_ap ho ha hk (fun p1 => br_f (by decide) ?_) (fun p1 => br_t rfl ?_)
    · have es : sk_sB a k S = sk_it (sk_sC a k) 24 S := if_pos p1
      rw [es] at ih'
      exact yl_gC ho ha hk S hS s I' (fun G' hG' => nm_r (nI_1 k) (ih' G' hG'))
    · have es : sk_sB a k S = S := if_neg (fun w => sk_tf w p1)
      rw [es] at ih'
      exact nm_r (nI_1 k) (ih' s I')
theorem yl_grids {post : SY → Prop} {kn : Int32} {od G ft g c sg : Nat → Int32} (ho : ∀ j, j < 96 → od j = nI (sk_d j)) (h : ∀ G' : Nat → Int32, sk_Ho sk_eY G' sk_R → post (nI sk_R.length, kn, od, G', ft, g, c, sg)) : ∃ n, wY_init_153 post n 0 0 kn od G ft g c sg := by
  refine loop_0 (σ := Nat → Int32) (fun n k G => wY_init_153 post n (nI k) (nI (sk_it sk_sA k []).length) kn od G ft g c sg) (fun k G => sk_Ho sk_eY G (sk_it sk_sA k [])) 24 G (sk_Ho0 _ _) ?_ ?_
  · intro n s I
    exact br_t (nI_le (a := 24) (b := 24) (Nat.le_refl _) (by decide)) (h s I)
  · intro n k s hk I ih
    have hS := sk_itle sk_sA sk_Ale [] (by decide) k
    have I' : sk_Ho sk_eY s (sk_it sk_sA k []) := I
    have ih' : ∀ s', sk_Ho sk_eY s' (sk_it (sk_sB k) 24 (sk_it sk_sA k [])) → wY_init_153 post n (nI (k + 1)) (nI (sk_it (sk_sB k) 24 (sk_it sk_sA k [])).length) kn od s' ft g c sg := ih
    show wY_init_153 post (n + 1) (nI k) (nI (sk_it sk_sA k []).length) kn od s ft g c sg
    refine br_f (nI_ge (b := 24) hk (by decide)) ?_
    exact yl_gB ho hk (sk_it sk_sA k []) hS s I' ih'
theorem sk_od4 {s : Nat → Int32} {q : Nat} (I : ∀ j, j < 4 * q → s j = nI (sk_d j)) : ∀ j, j < 4 * (q + 1) → upd (upd (upd (upd s (q * 4) (nI (sk_dig q 0))) (q * 4 + 1) (nI (sk_dig q 1))) (q * 4 + 2) (nI (sk_dig q 2))) (q * 4 + 3) (nI (sk_dig q 3)) j = nI (sk_d j) := by
  intro j hj
  have hh : j < 4 * q ∨ j = q * 4 + 0 ∨ j = q * 4 + 1 ∨ j = q * 4 + 2 ∨ j = q * 4 + 3 := by omega
  rcases hh with h | h | h | h | h
  · rw [pk_un (show j ≠ q * 4 + 3 by omega), pk_un (show j ≠ q * 4 + 2 by omega), pk_un (show j ≠ q * 4 + 1 by omega), pk_un (show j ≠ q * 4 by omega)]
    exact I j h
  · rw [pk_un (show j ≠ q * 4 + 3 by omega), pk_un (show j ≠ q * 4 + 2 by omega), pk_un (show j ≠ q * 4 + 1 by omega), h, sk_d_dig (m := 0) (by decide)]
    exact pk_us
  · rw [pk_un (show j ≠ q * 4 + 3 by omega), pk_un (show j ≠ q * 4 + 2 by omega), h, sk_d_dig (m := 1) (by decide)]
    exact pk_us
  · rw [pk_un (show j ≠ q * 4 + 3 by omega), h, sk_d_dig (m := 2) (by decide)]
    exact pk_us
  · rw [h, sk_d_dig (m := 3) (by decide)]
    exact pk_us
theorem yl_init {post : SY → Prop} (h : ∀ od G : Nat → Int32, (∀ j, j < 96 → od j = nI (sk_d j)) → sk_Ho sk_eY G sk_R → post (nI sk_R.length, 0, od, G, (fun _ => 0), (fun _ => 0), (fun _ => 0), (fun _ => 0))) : wpY_init post := by
  have st := loop_0 (σ := Nat → Int32) (fun n k s => wY_init_60 post 0 0 n (nI (sk_cy k)) (nI (1111 + k)) s (fun _ => 0) (fun _ => 0) (fun _ => 0) (fun _ => 0) (fun _ => 0)) (fun k s => ∀ j, j < 4 * sk_cy k → s j = nI (sk_d j)) 3211 (fun _ => 0) (fun j hj => absurd hj (by rw [sk_cy_0]; exact Nat.not_lt_zero j)) ?_ ?_
  · have st' : ∃ n, wY_init_60 post 0 0 n (nI (sk_cy 0)) 1111 (fun _ => 0) (fun _ => 0) (fun _ => 0) (fun _ => 0) (fun _ => 0) (fun _ => 0) := st
    rw [sk_cy_0] at st'
    exact st'
  · intro n s I
    have I' : ∀ j, j < 4 * sk_cy 3211 → s j = nI (sk_d j) := I
    rw [sk_ye] at I'
    show wY_init_60 post 0 0 (n + 1) (nI (sk_cy 3211)) (nI (1111 + 3211)) s (fun _ => 0) (fun _ => 0) (fun _ => 0) (fun _ => 0) (fun _ => 0)
    rw [sk_ye]
    exact br_f (nI_nlt (a := 4444) (b := 1111 + 3211) (by decide) (by decide)) (br_t (nI_le (a := 24) (b := 24) (Nat.le_refl _) (by decide)) (yl_grids I' (fun G hG => h s G I' hG)))
  · intro n k s hk I ih
    have I' : ∀ j, j < 4 * sk_cy k → s j = nI (sk_d j) := I
    have ih' : ∀ s', (∀ j, j < 4 * sk_cy (k + 1) → s' j = nI (sk_d j)) → wY_init_60 post 0 0 n (nI (sk_cy (k + 1))) (nI (1111 + k + 1)) s' (fun _ => 0) (fun _ => 0) (fun _ => 0) (fun _ => 0) (fun _ => 0) := ih
    have hq := sk_yl k hk
    show wY_init_60 post 0 0 (n + 1) (nI (sk_cy k)) (nI (1111 + k)) s (fun _ => 0) (fun _ => 0) (fun _ => 0) (fun _ => 0) (fun _ => 0)
    refine br_f (nI_nlt (a := 4444) (b := 1111 + k) (by omega) (by decide)) (br_f (nI_ge (b := 24) hq (by decide)) ?_)
    refine yl_ad (by omega) (fun z => br_f (by decide) ?_) (fun z => br_t rfl ?_)
    · obtain ⟨hn, hc⟩ := sk_yt k hk z
      rw [hc] at ih'
      generalize sk_cy k = q at hq hn I' ih' ⊢
      have nx := ih' _ (sk_od4 I')
      have b0 := sk_nd0 q hq
      have b1 := sk_nd1 q hq
      have b2 := sk_nd2 q hq
      have b3 := sk_nd3 q hq
      rw [hn] at b0 b1 b2 b3
      have e0 : nI q * 4 = nI (q * 4) := pk_mul q 4
      have e1 : nI (q * 4) + 1 = nI (q * 4 + 1) := nI_add _ 1
      have e2 : nI (q * 4) + 2 = nI (q * 4 + 2) := nI_add _ 2
      have e3 : nI (q * 4) + 3 = nI (q * 4 + 3) := nI_add _ 3
      have d0 : nI (1111 + k) / 1000 = nI (sk_dig q 0) := by
        rw [← b0]
        exact pk_div (d := 1000) (by omega) (by decide) (by decide)
      have dh : nI (1111 + k) / 100 = nI ((1111 + k) / 100) := pk_div (d := 100) (by omega) (by decide) (by decide)
      have dt : nI (1111 + k) / 10 = nI ((1111 + k) / 10) := pk_div (d := 10) (by omega) (by decide) (by decide)
      have d1 : nI (1111 + k) / 100 - nI (1111 + k) / 100 / 10 * 10 = nI (sk_dig q 1) := by
        rw [← b1, dh]
        exact pk_rem (d := 10) (by omega) (by decide) (by decide)
      have d2 : nI (1111 + k) / 10 - nI (1111 + k) / 10 / 10 * 10 = nI (sk_dig q 2) := by
        rw [← b2, dt]
        exact pk_rem (d := 10) (by omega) (by decide) (by decide)
      have d3 : nI (1111 + k) - nI (1111 + k) / 10 * 10 = nI (sk_dig q 3) := by
        rw [← b3]
        exact pk_rem (d := 10) (by omega) (by decide) (by decide)
      have c0 : (nI (q * 4)).toNatClampNeg = q * 4 := nI_clamp (by omega)
      have c1 : (nI (q * 4 + 1)).toNatClampNeg = q * 4 + 1 := nI_clamp (by omega)
      have c2 : (nI (q * 4 + 2)).toNatClampNeg = q * 4 + 2 := nI_clamp (by omega)
      have c3 : (nI (q * 4 + 3)).toNatClampNeg = q * 4 + 3 := nI_clamp (by omega)
      rw [d1, d2, d3, d0, e0, e1, e2, e3, c0, c1, c2, c3]
      exact ⟨by decide, vp_in_nI (by omega) (by decide), nm_e ⟨by decide, by decide, vp_in_nI (by omega) (by decide), nm_e ⟨by decide, by decide, vp_in_nI (by omega) (by decide), nm_e ⟨by decide, vp_in_nI (by omega) (by decide), nm_e (nm_r (nI_1 q) (nm_r (nI_1 (1111 + k)) nx))⟩⟩⟩⟩
    · have hc := sk_yf k hk z
      rw [hc] at ih'
      exact nm_r (nI_1 (1111 + k)) (ih' s I')
end
section
/-! the relation and what is owed -/
def i_Rel (k : Nat) (u : SX) (v : SY) : Prop := ∃ (g c r d l G : Nat → Int32) (li kn : Int32) (od sq ft sg : Nat → Int32), u = (g, c, r, d, l, G) ∧ v = (li, kn, od, sq, ft, g, c, sg) ∧ sk_X r d G ∧ sk_Y od sq r d sg ∧ sk_K kn ft g c r d
theorem i_up {k : Nat} {u : SX} {v : SY} (h : i_Rel k u v) : i_Rel (k + 5) u v := h
theorem i_vc0 : wpX_init (fun u => wpY_init (fun v => i_Rel 0 u v)) := by
  refine xl_init (fun l G hG => ?_)
  refine yl_init (fun od sq ho hq => ?_)
  refine ⟨fun _ => 0, fun _ => 0, fun _ => 0, fun _ => 0, l, G, nI sk_R.length, 0, od, sq, fun _ => 0, fun _ => 0, rfl, rfl, ⟨fun i hi => ?_, fun _ _ _ => rfl, fun _ _ _ => rfl⟩, ⟨ho, fun i hi => ?_, fun _ _ => ⟨rfl, rfl, fun _ => rfl, fun _ => rfl⟩⟩, Or.inl rfl⟩
  · exact hG i (by rw [sk_lR]; exact hi)
  · exact hq i (by rw [sk_lR]; exact hi)
theorem sk_ix {a b : Nat} : nI a * 4 + nI b = nI (a * 4 + b) := by
  show nI a * nI 4 + nI b = _
  rw [pk_mul, nI_add]
theorem i_vc_given {k : Nat} {u : SX} {v : SY} (I : i_Rel k u v) (hk : k + 5 ≤ 2560) (v1 : Int32) (v2 : Int32) (v3 : Int32) : wpX_given (fun r u' => wpY_given (fun r' v' => r' = r ∧ i_Rel (k + 5) u' v') v v1 v2 v3) u v1 v2 v3 := by
  obtain ⟨g, c, r, d, l, G, li, kn, od, sq, ft, sg, rfl, rfl, hX, hY, hK⟩ := I
  have same : i_Rel (k + 5) (g, c, r, d, l, G) (li, kn, od, sq, ft, g, c, sg) := ⟨g, c, r, d, l, G, li, kn, od, sq, ft, sg, rfl, rfl, hX, hY, hK⟩
  unfold wpX_given wpY_given
  dsimp only
  refine xl_isCell (fun z => br_f (by decide) ?_) (fun z => br_t rfl ?_)
  · refine br_c (fun a => ?_) (fun a => br_c (fun b => ?_) (fun b => ?_))
    · exact yl_bad (fun _ => br_t rfl (br_t a ⟨rfl, same⟩)) (fun w => absurd z w)
    · obtain ⟨x, y, hx, hy, rfl, rfl⟩ := sk_cl_of z
      have hm : x * 4 + y < 16 := by omega
      have hv : vp_in (nI (x * 4 + y)) 16 := vp_in_nI hm (by decide)
      have ec : (nI (x * 4 + y)).toNatClampNeg = x * 4 + y := nI_clamp (by omega)
      rw [sk_ix]
      refine nm_e ?_
      rw [ec]
      refine ⟨hv, nm_e ⟨hv, nm_e ?_⟩⟩
      refine yl_bad (fun _ => br_t rfl (br_f a (br_t b ?_))) (fun w => absurd z w)
      exact ⟨hv, nm_e ⟨hv, nm_e ⟨rfl, upd g (x * 4 + y) v3, c, r, d, l, G, li, 0, od, sq, ft, sg, rfl, rfl, hX, hY, Or.inl rfl⟩⟩⟩
    · exact yl_bad (fun _ => br_t rfl (br_f a (br_f b ⟨rfl, same⟩))) (fun w => absurd z w)
  · exact yl_bad (fun w => absurd w z) (fun _ => br_f (by decide) ⟨rfl, same⟩)
theorem i_vc_clue {k : Nat} {u : SX} {v : SY} (I : i_Rel k u v) (hk : k + 5 ≤ 2560) (v1 : Int32) (v2 : Int32) (v3 : Int32) : wpX_clue (fun r u' => wpY_clue (fun r' v' => r' = r ∧ i_Rel (k + 5) u' v') v v1 v2 v3) u v1 v2 v3 := by
  obtain ⟨g, c, r, d, l, G, li, kn, od, sq, ft, sg, rfl, rfl, hX, hY, hK⟩ := I
  have same : i_Rel (k + 5) (g, c, r, d, l, G) (li, kn, od, sq, ft, g, c, sg) := ⟨g, c, r, d, l, G, li, kn, od, sq, ft, sg, rfl, rfl, hX, hY, hK⟩
  unfold wpX_clue wpY_clue
  dsimp only
  refine br_c (fun p => br_t p ⟨rfl, same⟩) (fun p => br_c (fun q => br_f p (br_t q ⟨rfl, same⟩)) (fun q => br_c (fun s => br_f p (br_f q (br_t s ⟨rfl, same⟩))) (fun s => ?_)))
  have e : v2 ≤ 3 ↔ v2 < 4 := by
    rw [Int32.le_iff_toInt_le, Int32.lt_iff_toInt_lt, sk_t3, sk_t4]
    omega
  refine br_c (fun t => ?_) (fun t => br_f p (br_f q (br_f s (br_f (fun w => t (e.mp w)) ⟨rfl, same⟩))))
  have z : sk_cl v1 v2 := by
    rw [Int32.lt_iff_toInt_lt] at p q s t
    rw [sk_t0] at p s
    rw [sk_t3] at q
    rw [sk_t4] at t
    unfold sk_cl
    omega
  refine br_c (fun a => ?_) (fun a => br_c (fun b => ?_) (fun b => ?_))
  · exact br_f p (br_f q (br_f s (br_t (e.mpr t) (br_t a ⟨rfl, same⟩))))
  · obtain ⟨x, y, hx, hy, rfl, rfl⟩ := sk_cl_of z
    have hm : x * 4 + y < 16 := by omega
    have hv : vp_in (nI (x * 4 + y)) 16 := vp_in_nI hm (by decide)
    have ec : (nI (x * 4 + y)).toNatClampNeg = x * 4 + y := nI_clamp (by omega)
    rw [sk_ix]
    refine nm_e ?_
    rw [ec]
    refine ⟨hv, nm_e ⟨hv, nm_e ?_⟩⟩
    refine br_f p (br_f q (br_f s (br_t (e.mpr t) (br_f a (br_t b ?_)))))
    exact ⟨hv, nm_e ⟨hv, nm_e ⟨rfl, g, upd c (x * 4 + y) v3, r, d, l, G, li, 0, od, sq, ft, sg, rfl, rfl, hX, hY, Or.inl rfl⟩⟩⟩
  · exact br_f p (br_f q (br_f s (br_t (e.mpr t) (br_f a (br_f b ⟨rfl, same⟩)))))
theorem sk_X_r {r d G : Nat → Int32} (h : sk_X r d G) {m : Nat} (h3 : m % 4 ≠ 3) (x : Int32) : sk_X (upd r m x) d G := by
  refine ⟨h.1, fun k hk e => ?_, h.2.2⟩
  rw [pk_un (show k ≠ m by omega)]
  exact h.2.1 k hk e
theorem sk_X_d {r d G : Nat → Int32} (h : sk_X r d G) {m : Nat} (h3 : m < 12) (x : Int32) : sk_X r (upd d m x) G := by
  refine ⟨h.1, h.2.1, fun k hk e => ?_⟩
  rw [pk_un (show k ≠ m by omega)]
  exact h.2.2 k hk e
theorem sk_E_r {r d sg : Nat → Int32} (h : sk_E r d sg) {m : Nat} (hm : m < 16) (h3 : m % 4 ≠ 3) (x : Int32) : sk_E (upd r m x) d (upd sg m x) := by
  intro c hc
  obtain ⟨a, b, e, f⟩ := h c hc
  refine ⟨?_, ?_, fun w => ?_, f⟩
  · by_cases z : c = m
    · rw [z, pk_us, pk_us]
    · rw [pk_un z, pk_un z]
      exact a
  · rw [pk_un (show c + 16 ≠ m by omega)]
    exact b
  · rw [pk_un (show c ≠ m by omega)]
    exact e w
theorem sk_E_d {r d sg : Nat → Int32} (h : sk_E r d sg) {m : Nat} (h3 : m < 12) (x : Int32) : sk_E r (upd d m x) (upd sg (m + 16) x) := by
  intro c hc
  obtain ⟨a, b, e, f⟩ := h c hc
  refine ⟨?_, ?_, e, fun w => ?_⟩
  · rw [pk_un (show c ≠ m + 16 by omega)]
    exact a
  · by_cases z : c = m
    · rw [z, pk_us, pk_us]
    · rw [pk_un z, pk_un (show c + 16 ≠ m + 16 by omega)]
      exact b
  · rw [pk_un (show c ≠ m by omega)]
    exact f w
theorem i_vc_sign {k : Nat} {u : SX} {v : SY} (I : i_Rel k u v) (hk : k + 5 ≤ 2560) (v1 : Int32) (v2 : Int32) (v3 : Int32) (v4 : Int32) : wpX_sign (fun r u' => wpY_sign (fun r' v' => r' = r ∧ i_Rel (k + 5) u' v') v v1 v2 (lw_bz v3) v4) u v1 v2 (lw_bz v3) v4 := by
  obtain ⟨g, c, r, d, l, G, li, kn, od, sq, ft, sg, rfl, rfl, hX, hY, hK⟩ := I
  have same : i_Rel (k + 5) (g, c, r, d, l, G) (li, kn, od, sq, ft, g, c, sg) := ⟨g, c, r, d, l, G, li, kn, od, sq, ft, sg, rfl, rfl, hX, hY, hK⟩
  generalize lw_bz v3 = w
  unfold wpX_sign wpY_sign wX_sign_61 wY_sign_18 wY_sign_29 wY_sign_58 wpX_hasNeighbour
  dsimp only
  refine xl_isCell (fun z => br_f (by decide) ?_) (fun z => br_t rfl ?_)
  · obtain ⟨x, y, hx, hy, rfl, rfl⟩ := sk_cl_of z
    have hm : x * 4 + y < 16 := by omega
    have hv : vp_in (nI (x * 4 + y)) 16 := vp_in_nI hm (by decide)
    have ec : (nI (x * 4 + y)).toNatClampNeg = x * 4 + y := nI_clamp (by omega)
    obtain ⟨e1, e2, _, _⟩ := hY.2.2 (x * 4 + y) hm
    by_cases hw : w = 0
    · refine br_t hw ?_
      by_cases h3 : y = 3
      · have h3' : nI y = 3 := congrArg nI h3
        refine br_t (by rw [h3']; decide) (br_t rfl ?_)
        exact yl_bad (fun _ => br_t rfl (br_t hw (br_t hw (br_t h3' ⟨rfl, same⟩)))) (fun q => absurd z q)
      · have h3' : ¬ nI y = 3 := fun q => h3 ((nI_eq (b := 3) (by omega) (by decide)).mp q)
        refine br_f (nI_ge (b := 3) (by omega) (by decide)) (br_f (by decide) ?_)
        refine br_c (fun a => ?_) (fun a => br_c (fun b => ?_) (fun b => ?_))
        · exact yl_bad (fun _ => br_t rfl (br_t hw (br_t hw (br_f h3' (br_t a ⟨rfl, same⟩))))) (fun q => absurd z q)
        · rw [sk_ix]
          refine nm_e (br_t hw ⟨hv, br_t hw ⟨hv, ?_⟩⟩)
          rw [ec]
          refine nm_e ?_
          refine yl_bad (fun _ => br_t rfl (br_t hw (br_t hw (br_f h3' (br_f a (br_t b (br_t hw ?_))))))) (fun q => absurd z q)
          refine nm_r (Int32.add_zero _) ⟨vp_in_nI (N := 32) (by omega) (by decide), ?_⟩
          rw [ec]
          exact nm_e ⟨vp_in_nI (N := 32) (by omega) (by decide), nm_e ⟨e1, g, c, upd r (x * 4 + y) v4, d, l, G, li, 0, od, sq, ft, upd sg (x * 4 + y) v4, rfl, rfl, sk_X_r hX (by omega) v4, ⟨hY.1, hY.2.1, sk_E_r hY.2.2 hm (by omega) v4⟩, Or.inl rfl⟩⟩
        · exact yl_bad (fun _ => br_t rfl (br_t hw (br_t hw (br_f h3' (br_f a (br_f b ⟨rfl, same⟩)))))) (fun q => absurd z q)
    · refine br_f hw ?_
      by_cases h3 : x = 3
      · have h3' : nI x = 3 := congrArg nI h3
        refine br_t (by rw [h3']; decide) (br_t rfl ?_)
        exact yl_bad (fun _ => br_t rfl (br_f hw (br_t h3' ⟨rfl, same⟩))) (fun q => absurd z q)
      · have h3' : ¬ nI x = 3 := fun q => h3 ((nI_eq (b := 3) (by omega) (by decide)).mp q)
        refine br_f (nI_ge (b := 3) (by omega) (by decide)) (br_f (by decide) ?_)
        refine br_c (fun a => ?_) (fun a => br_c (fun b => ?_) (fun b => ?_))
        · exact yl_bad (fun _ => br_t rfl (br_f hw (br_f h3' (br_f hw (br_t a ⟨rfl, same⟩))))) (fun q => absurd z q)
        · rw [sk_ix]
          refine nm_e (br_f hw ⟨hv, br_f hw ⟨hv, ?_⟩⟩)
          rw [ec]
          refine nm_e ?_
          have e16 : nI (x * 4 + y) + 16 = nI (x * 4 + y + 16) := nI_add _ 16
          have ec6 : (nI (x * 4 + y + 16)).toNatClampNeg = x * 4 + y + 16 := nI_clamp (by omega)
          refine yl_bad (fun _ => br_t rfl (br_f hw (br_f h3' (br_f hw (br_f a (br_t b (br_f hw ?_))))))) (fun q => absurd z q)
          refine nm_r e16 ⟨vp_in_nI (N := 32) (by omega) (by decide), ?_⟩
          rw [ec6]
          exact nm_e ⟨vp_in_nI (N := 32) (by omega) (by decide), nm_e ⟨e2, g, c, r, upd d (x * 4 + y) v4, l, G, li, 0, od, sq, ft, upd sg (x * 4 + y + 16) v4, rfl, rfl, sk_X_d hX (by omega) v4, ⟨hY.1, hY.2.1, sk_E_d hY.2.2 (by omega) v4⟩, Or.inl rfl⟩⟩
        · exact yl_bad (fun _ => br_t rfl (br_f hw (br_f h3' (br_f hw (br_f a (br_f b ⟨rfl, same⟩)))))) (fun q => absurd z q)
  · exact yl_bad (fun q => absurd q z) (fun _ => br_f (by decide) ⟨rfl, same⟩)
/-! clear -/
def sk_z (i : Nat) (s : Nat → Int32) : Nat → Int32 := upd s i 0
def sk_zz (i : Nat) (s : Nat → Int32) : Nat → Int32 := upd (upd s i 0) (i + 16) 0
theorem sk_z0 (s : Nat → Int32) : ∀ n c, c < n → sk_it sk_z n s c = 0
  | 0, c, h => absurd h (Nat.not_lt_zero c)
  | n + 1, c, h => by
    show upd (sk_it sk_z n s) n 0 c = 0
    by_cases e : c = n
    · rw [e, pk_us]
    · rw [pk_un e]
      exact sk_z0 s n c (by omega)
theorem sk_zz0 (s : Nat → Int32) : ∀ n c, n ≤ 16 → c < n → sk_it sk_zz n s c = 0 ∧ sk_it sk_zz n s (c + 16) = 0
  | 0, c, _, h => absurd h (Nat.not_lt_zero c)
  | n + 1, c, hn, h => by
    show upd (upd (sk_it sk_zz n s) n 0) (n + 16) 0 c = 0 ∧ upd (upd (sk_it sk_zz n s) n 0) (n + 16) 0 (c + 16) = 0
    rw [pk_un (show c ≠ n + 16 by omega)]
    by_cases e : c = n
    · rw [e, pk_us, pk_us]
      exact ⟨rfl, rfl⟩
    · rw [pk_un e, pk_un (show c + 16 ≠ n + 16 by omega), pk_un (show c + 16 ≠ n by omega)]
      exact sk_zz0 s n c (by omega) (by omega)
theorem xa_clear {post : SX → Prop} {g c r d l G : Nat → Int32} (h : post (sk_it sk_z 16 g, sk_it sk_z 16 c, sk_it sk_z 16 r, sk_it sk_z 16 d, l, G)) : wpX_clear post (g, c, r, d, l, G) := by
  refine loop_0 (σ := Unit) (fun n k _ => wX_clear_2 post n (nI k) (sk_it sk_z k g) c (sk_it sk_z k r) (sk_it sk_z k d) l G) (fun _ _ => True) 16 () trivial ?_ ?_
  · intro n s _
    refine br_t (nI_le (a := 16) (b := 16) (Nat.le_refl _) (by decide)) ?_
    refine loop_0 (σ := Unit) (fun n k _ => wX_clear_37 post n (nI k) (sk_it sk_z 16 g) (sk_it sk_z k c) (sk_it sk_z 16 r) (sk_it sk_z 16 d) l G) (fun _ _ => True) 16 () trivial ?_ ?_
    · intro n s _
      exact br_t (nI_le (a := 16) (b := 16) (Nat.le_refl _) (by decide)) h
    · intro n k s hk _ ih
      have hv : vp_in (nI k) 16 := vp_in_nI hk (by decide)
      have ec : (nI k).toNatClampNeg = k := nI_clamp (by omega)
      show wX_clear_37 post (n + 1) (nI k) (sk_it sk_z 16 g) (sk_it sk_z k c) (sk_it sk_z 16 r) (sk_it sk_z 16 d) l G
      refine br_f (nI_ge (b := 16) hk (by decide)) ⟨hv, ?_⟩
      rw [ec]
      exact nm_e (nm_r (nI_1 k) (ih () trivial))
  · intro n k s hk _ ih
    have hv : vp_in (nI k) 16 := vp_in_nI hk (by decide)
    have ec : (nI k).toNatClampNeg = k := nI_clamp (by omega)
    show wX_clear_2 post (n + 1) (nI k) (sk_it sk_z k g) c (sk_it sk_z k r) (sk_it sk_z k d) l G
    refine br_f (nI_ge (b := 16) hk (by decide)) ⟨hv, ?_⟩
    rw [ec]
    exact nm_e ⟨hv, nm_e ⟨hv, nm_e (nm_r (nI_1 k) (ih () trivial))⟩⟩
theorem ya_clear {post : SY → Prop} {li kn : Int32} {od sq ft g c sg : Nat → Int32} (h : post (li, 0, od, sq, ft, sk_it sk_z 16 g, sk_it sk_z 16 c, sk_it sk_zz 16 sg)) : wpY_clear post (li, kn, od, sq, ft, g, c, sg) := by
  refine loop_0 (σ := Unit) (fun n k _ => wY_clear_2 post li kn n (nI k) od sq ft (sk_it sk_z k g) (sk_it sk_z k c) (sk_it sk_zz k sg)) (fun _ _ => True) 16 () trivial ?_ ?_
  · intro n s _
    exact br_t (nI_le (a := 16) (b := 16) (Nat.le_refl _) (by decide)) h
  · intro n k s hk _ ih
    have hv : vp_in (nI k) 16 := vp_in_nI hk (by decide)
    have ec : (nI k).toNatClampNeg = k := nI_clamp (by omega)
    have e16 : nI k + 16 = nI (k + 16) := nI_add k 16
    have ec6 : (nI (k + 16)).toNatClampNeg = k + 16 := nI_clamp (by omega)
    show wY_clear_2 post li kn (n + 1) (nI k) od sq ft (sk_it sk_z k g) (sk_it sk_z k c) (sk_it sk_zz k sg)
    refine br_f (nI_ge (b := 16) hk (by decide)) ⟨hv, ?_⟩
    rw [e16, ec, ec6]
    exact nm_e ⟨hv, nm_e ⟨vp_in_nI (N := 32) (by omega) (by decide), nm_e ⟨vp_in_nI (N := 32) (by omega) (by decide), nm_e (nm_r (nI_1 k) (ih () trivial))⟩⟩⟩
theorem i_vc_clear {k : Nat} {u : SX} {v : SY} (I : i_Rel k u v) (hk : k + 5 ≤ 2560) : wpX_clear (fun u' => wpY_clear (fun v' => i_Rel (k + 5) u' v') v) u := by
  obtain ⟨g, c, r, d, l, G, li, kn, od, sq, ft, sg, rfl, rfl, hX, hY, hK⟩ := I
  refine xa_clear ?_
  refine ya_clear ?_
  refine ⟨sk_it sk_z 16 g, sk_it sk_z 16 c, sk_it sk_z 16 r, sk_it sk_z 16 d, l, G, li, 0, od, sq, ft, sk_it sk_zz 16 sg, rfl, rfl, ⟨hX.1, fun j hj _ => sk_z0 r 16 j hj, fun j hj _ => sk_z0 d 16 j hj⟩, ⟨hY.1, hY.2.1, fun j hj => ?_⟩, Or.inl rfl⟩
  obtain ⟨a, b⟩ := sk_zz0 sg 16 j (Nat.le_refl _) hj
  rw [a, b, sk_z0 r 16 j hj, sk_z0 d 16 j hj]
  exact ⟨rfl, rfl, fun _ => rfl, fun _ => rfl⟩
theorem i_vc_solutions {k : Nat} {u : SX} {v : SY} (I : i_Rel k u v) (hk : k + 5 ≤ 2560) : wpX_solutions (fun r => wpY_solutions (fun r' v' => r' = r ∧ i_Rel (k + 5) u v') v) u := by
  obtain ⟨g, c, r, d, l, G, li, kn, od, sq, ft, sg, rfl, rfl, hX, hY, hK⟩ := I
  refine xa_solutions hX ?_
  exact ya_solutions hY hK (fun ft' hf => ⟨rfl, g, c, r, d, l, G, li, 1, od, sq, ft', sg, rfl, rfl, hX, hY, Or.inr ⟨rfl, hf⟩⟩)
theorem i_vc_possible {k : Nat} {u : SX} {v : SY} (I : i_Rel k u v) (hk : k + 5 ≤ 2560) (v1 : Int32) (v2 : Int32) : wpX_possible (fun r => wpY_possible (fun r' v' => r' = r ∧ i_Rel (k + 5) u v') v v1 v2) u v1 v2 := by
  obtain ⟨g, c, r, d, l, G, li, kn, od, sq, ft, sg, rfl, rfl, hX, hY, hK⟩ := I
  have same : i_Rel (k + 5) (g, c, r, d, l, G) (li, kn, od, sq, ft, g, c, sg) := ⟨g, c, r, d, l, G, li, kn, od, sq, ft, sg, rfl, rfl, hX, hY, hK⟩
  unfold wpX_possible wpY_possible
  dsimp only
  refine xl_isCell (fun z => br_f (by decide) ?_) (fun z => br_t rfl ?_)
  · obtain ⟨x, y, hx, hy, rfl, rfl⟩ := sk_cl_of z
    refine nm_r sk_ix (xa_possible hX (show x * 4 + y < 16 by omega) ?_)
    refine yl_bad (fun _ => br_t rfl ?_) (fun w => absurd z w)
    refine yl_test hY.1 hY.2.1 hY.2.2 hK (fun ft' hf => ?_)
    exact ya_possible hY hf hx hy ⟨rfl, g, c, r, d, l, G, li, 1, od, sq, ft', sg, rfl, rfl, hX, hY, Or.inr ⟨rfl, hf⟩⟩
  · exact yl_bad (fun w => absurd w z) (fun _ => br_f (by decide) ⟨rfl, same⟩)
theorem i_vc_height {k : Nat} {u : SX} {v : SY} (I : i_Rel k u v) (hk : k + 5 ≤ 2560) (v1 : Int32) (v2 : Int32) (v3 : Int32) : wpX_height (fun r => wpY_height (fun r' v' => r' = r ∧ i_Rel (k + 5) u v') v v1 v2 v3) u v1 v2 v3 := by
  obtain ⟨g, c, r, d, l, G, li, kn, od, sq, ft, sg, rfl, rfl, hX, hY, hK⟩ := I
  have same : i_Rel (k + 5) (g, c, r, d, l, G) (li, kn, od, sq, ft, g, c, sg) := ⟨g, c, r, d, l, G, li, kn, od, sq, ft, sg, rfl, rfl, hX, hY, hK⟩
  unfold wpX_height wpY_height
  dsimp only
  refine xl_isCell (fun z => br_f (by decide) ?_) (fun z => br_t rfl ?_)
  · obtain ⟨x, y, hx, hy, rfl, rfl⟩ := sk_cl_of z
    refine nm_r sk_ix ⟨577, xa_height hX (show x * 4 + y < 16 by omega) v1 576 0 0 rfl ?_⟩
    refine yl_bad (fun _ => br_t rfl ?_) (fun w => absurd z w)
    refine yl_test hY.1 hY.2.1 hY.2.2 hK (fun ft' hf => ?_)
    exact ⟨577, ya_height hY hf hx hy v1 576 0 0 rfl ⟨rfl, g, c, r, d, l, G, li, 1, od, sq, ft', sg, rfl, rfl, hX, hY, Or.inr ⟨rfl, hf⟩⟩⟩
  · exact yl_bad (fun w => absurd w z) (fun _ => br_f (by decide) ⟨rfl, same⟩)
theorem i_vc_votes {k : Nat} {u : SX} {v : SY} (I : i_Rel k u v) (hk : k + 5 ≤ 2560) (v1 : Int32) (v2 : Int32) (v3 : Int32) : wpX_votes (fun r => wpY_votes (fun r' v' => r' = r ∧ i_Rel (k + 5) u v') v v1 v2 v3) u v1 v2 v3 := by
  obtain ⟨g, c, r, d, l, G, li, kn, od, sq, ft, sg, rfl, rfl, hX, hY, hK⟩ := I
  have same : i_Rel (k + 5) (g, c, r, d, l, G) (li, kn, od, sq, ft, g, c, sg) := ⟨g, c, r, d, l, G, li, kn, od, sq, ft, sg, rfl, rfl, hX, hY, hK⟩
  unfold wpX_votes wpY_votes
  dsimp only
  refine xl_isCell (fun z => br_f (by decide) ?_) (fun z => br_t rfl ?_)
  · refine br_c (fun a => ?_) (fun a => br_c (fun b => ?_) (fun b => ?_))
    · exact yl_bad (fun _ => br_t rfl (br_t a ⟨rfl, same⟩)) (fun w => absurd z w)
    · obtain ⟨x, y, hx, hy, rfl, rfl⟩ := sk_cl_of z
      refine nm_r sk_ix (xa_votes hX (show x * 4 + y < 16 by omega) v3 ?_)
      refine yl_bad (fun _ => br_t rfl (br_f a (br_t b ?_))) (fun w => absurd z w)
      refine yl_test hY.1 hY.2.1 hY.2.2 hK (fun ft' hf => ?_)
      exact ya_votes hY hf hx hy v3 ⟨rfl, g, c, r, d, l, G, li, 1, od, sq, ft', sg, rfl, rfl, hX, hY, Or.inr ⟨rfl, hf⟩⟩
    · exact yl_bad (fun _ => br_t rfl (br_f a (br_f b ⟨rfl, same⟩))) (fun w => absurd z w)
  · exact yl_bad (fun w => absurd w z) (fun _ => br_f (by decide) ⟨rfl, same⟩)
theorem i_vc_fixedCells {k : Nat} {u : SX} {v : SY} (I : i_Rel k u v) (hk : k + 5 ≤ 2560) : wpX_fixedCells (fun r => wpY_fixedCells (fun r' v' => r' = r ∧ i_Rel (k + 5) u v') v) u := by
  obtain ⟨g, c, r, d, l, G, li, kn, od, sq, ft, sg, rfl, rfl, hX, hY, hK⟩ := I
  refine xa_fixed hX ?_
  exact ya_fixed hY hK (fun ft' hf => ⟨rfl, g, c, r, d, l, G, li, 1, od, sq, ft', sg, rfl, rfl, hX, hY, Or.inr ⟨rfl, hf⟩⟩)
end
