/-! the lines: 24 codes, four digits each; the grids: one list for both sides -/
theorem nx_or (a b : Nat) : nI a ||| nI b = nI (a ||| b) := by
  apply Int32.toBitVec_inj.1
  show BitVec.ofNat 32 a ||| BitVec.ofNat 32 b = BitVec.ofNat 32 (a ||| b)
  apply BitVec.eq_of_getLsbD_eq
  intro i hi
  simp [hi]
def sk_code (k : Nat) : Nat := [27, 30, 39, 45, 54, 57, 75, 78, 99, 108, 114, 120, 135, 141, 147, 156, 177, 180, 198, 201, 210, 216, 225, 228].getD k 0
def sk_num (k : Nat) : Nat := [1234, 1243, 1324, 1342, 1423, 1432, 2134, 2143, 2314, 2341, 2413, 2431, 3124, 3142, 3214, 3241, 3412, 3421, 4123, 4132, 4213, 4231, 4312, 4321].getD k 0
def sk_M (k : Nat) : Nat := [13051520, 13310272, 3779712, 3562560, 6873920, 9753472, 13860890, 14893093, 3055666, 1921073, 11055117, 5533710, 7343658, 11537685, 9177784, 4982132, 10748615, 5767627, 117545, 182038, 146028, 79260, 170195, 91363].getD k 0
def sk_ap (a b : Nat) : Bool := (sk_M a).testBit b
def sk_dig (k c : Nat) : Nat := sk_code k / 4 ^ (3 - c) % 4 + 1
def sk_d (j : Nat) : Nat := sk_dig (j / 4) (j % 4)
def sk_seen (m : Nat) : Nat → Nat
  | 0 => 0
  | i + 1 => sk_seen m i ||| 2 ^ (m / 4 ^ i % 4)
def sk_msk (x : Nat) : Nat → Nat
  | 0 => 0
  | i + 1 => sk_msk x i ||| 2 ^ (x / 10 ^ i % 10)
def sk_cx (i : Nat) : Nat := ([27, 30, 39, 45, 54, 57, 75, 78, 99, 108, 114, 120, 135, 141, 147, 156, 177, 180, 198, 201, 210, 216, 225, 228].filter (fun t => decide (t < i))).length
def sk_cy (i : Nat) : Nat := ([1234, 1243, 1324, 1342, 1423, 1432, 2134, 2143, 2314, 2341, 2413, 2431, 3124, 3142, 3214, 3241, 3412, 3421, 4123, 4132, 4213, 4231, 4312, 4321].filter (fun t => decide (t < 1111 + i))).length
theorem sk_seen_lt (m : Nat) : ∀ i, sk_seen m i < 2 ^ 4
  | 0 => Nat.two_pow_pos 4
  | i + 1 => Nat.or_lt_two_pow (sk_seen_lt m i) (Nat.pow_lt_pow_right (by decide) (Nat.mod_lt _ (by decide)))
theorem sk_msk_lt (m : Nat) : ∀ i, sk_msk m i < 2 ^ 10
  | 0 => Nat.two_pow_pos 10
  | i + 1 => Nat.or_lt_two_pow (sk_msk_lt m i) (Nat.pow_lt_pow_right (by decide) (Nat.mod_lt _ (by decide)))
theorem sk_xt : ∀ i, i < 256 → sk_seen i 4 = 15 → sk_cx i < 24 ∧ sk_code (sk_cx i) = i ∧ sk_cx (i + 1) = sk_cx i + 1 := by decide +kernel
theorem sk_xf : ∀ i, i < 256 → ¬ sk_seen i 4 = 15 → sk_cx (i + 1) = sk_cx i := by decide +kernel
theorem sk_xe : sk_cx 256 = 24 := by decide +kernel
theorem sk_yt : ∀ i, i < 3211 → sk_msk (1111 + i) 4 = 30 → sk_num (sk_cy i) = 1111 + i ∧ sk_cy (i + 1) = sk_cy i + 1 := by decide +kernel
theorem sk_yf : ∀ i, i < 3211 → ¬ sk_msk (1111 + i) 4 = 30 → sk_cy (i + 1) = sk_cy i := by decide +kernel
theorem sk_yl : ∀ i, i < 3211 → sk_cy i < 24 := by decide +kernel
theorem sk_ye : sk_cy 3211 = 24 := by decide +kernel
theorem sk_code_lt : ∀ k, k < 24 → sk_code k < 256 := by decide +kernel
theorem sk_nd0 : ∀ k, k < 24 → sk_num k / 1000 = sk_dig k 0 := by decide +kernel
theorem sk_nd1 : ∀ k, k < 24 → sk_num k / 100 % 10 = sk_dig k 1 := by decide +kernel
theorem sk_nd2 : ∀ k, k < 24 → sk_num k / 10 % 10 = sk_dig k 2 := by decide +kernel
theorem sk_nd3 : ∀ k, k < 24 → sk_num k % 10 = sk_dig k 3 := by decide +kernel
/-- X's clash, by the codes -/
theorem sk_apX : ∀ a, a < 24 → ∀ b, b < 24 → (sk_ap a b = true ↔ ((sk_code a ^^^ sk_code b) &&& 3 ≠ 0 ∧ (sk_code a ^^^ sk_code b) &&& 12 ≠ 0 ∧ (sk_code a ^^^ sk_code b) &&& 48 ≠ 0 ∧ (sk_code a ^^^ sk_code b) &&& 192 ≠ 0)) := by decide +kernel
/-- Y's apart, by the digits -/
theorem sk_apY : ∀ a, a < 24 → ∀ b, b < 24 → (sk_ap a b = true ↔ (sk_dig a 0 ≠ sk_dig b 0 ∧ sk_dig a 1 ≠ sk_dig b 1 ∧ sk_dig a 2 ≠ sk_dig b 2 ∧ sk_dig a 3 ≠ sk_dig b 3)) := by decide +kernel
theorem sk_dig_r (k c : Nat) : 1 ≤ sk_dig k c ∧ sk_dig k c ≤ 4 := by
  have h : sk_code k / 4 ^ (3 - c) % 4 < 4 := Nat.mod_lt _ (by decide)
  unfold sk_dig
  omega
/-! the list of all grids, as both constructors make it: the newest first -/
def sk_it {α : Type} (f : Nat → α → α) : Nat → α → α
  | 0, s => s
  | i + 1, s => f i (sk_it f i s)
def sk_pk (a b c d : Nat) : Nat := a + 32 * b + 1024 * c + 32768 * d
def sk_sD (a b c d : Nat) (s : List Nat) : List Nat := if sk_ap a d = true ∧ sk_ap b d = true ∧ sk_ap c d = true ∧ s.length < 576 then sk_pk a b c d :: s else s
def sk_sC (a b c : Nat) (s : List Nat) : List Nat := if sk_ap a c = true ∧ sk_ap b c = true then sk_it (sk_sD a b c) 24 s else s
def sk_sB (a b : Nat) (s : List Nat) : List Nat := if sk_ap a b = true then sk_it (sk_sC a b) 24 s else s
def sk_sA (a : Nat) (s : List Nat) : List Nat := sk_it (sk_sB a) 24 s
def sk_R : List Nat := sk_it sk_sA 24 []
def sk_sm (f : Nat → Nat) : Nat → Nat
  | 0 => 0
  | n + 1 => sk_sm f n + f n
def sk_cD (a b c d : Nat) : Nat := if sk_ap a d = true ∧ sk_ap b d = true ∧ sk_ap c d = true then 1 else 0
def sk_cC (a b c : Nat) : Nat := if sk_ap a c = true ∧ sk_ap b c = true then sk_sm (sk_cD a b c) 24 else 0
def sk_cB (a b : Nat) : Nat := if sk_ap a b = true then sk_sm (sk_cC a b) 24 else 0
def sk_cA (a : Nat) : Nat := sk_sm (sk_cB a) 24
theorem sk_total : sk_sm sk_cA 24 = 576 := by decide +kernel
theorem sk_len (f : Nat → List Nat → List Nat) (g : Nat → Nat) (h : ∀ i s, s.length ≤ 576 → (f i s).length = min 576 (s.length + g i)) (s : List Nat) (hs : s.length ≤ 576) : ∀ n, (sk_it f n s).length = min 576 (s.length + sk_sm g n)
  | 0 => by
    show s.length = min 576 (s.length + 0)
    omega
  | n + 1 => by
    have ih := sk_len f g h s hs n
    show (f n (sk_it f n s)).length = min 576 (s.length + (sk_sm g n + g n))
    rw [h n (sk_it f n s) (by omega), ih]
    omega
theorem sk_lD (a b c d : Nat) (s : List Nat) (hs : s.length ≤ 576) : (sk_sD a b c d s).length = min 576 (s.length + sk_cD a b c d) := by
  unfold sk_sD sk_cD
  by_cases h : sk_ap a d = true ∧ sk_ap b d = true ∧ sk_ap c d = true
  · rw [if_pos h]
    by_cases h2 : s.length < 576
    · rw [if_pos ⟨h.1, h.2.1, h.2.2, h2⟩, List.length_cons]
      omega
    · rw [if_neg (fun z => h2 z.2.2.2)]
      omega
  · rw [if_neg h, if_neg (fun z => h ⟨z.1, z.2.1, z.2.2.1⟩)]
    omega
theorem sk_lC (a b c : Nat) (s : List Nat) (hs : s.length ≤ 576) : (sk_sC a b c s).length = min 576 (s.length + sk_cC a b c) := by
  unfold sk_sC sk_cC
  by_cases h : sk_ap a c = true ∧ sk_ap b c = true
  · rw [if_pos h, if_pos h]
    exact sk_len _ _ (fun i s => sk_lD a b c i s) s hs 24
  · rw [if_neg h, if_neg h]
    omega
theorem sk_lB (a b : Nat) (s : List Nat) (hs : s.length ≤ 576) : (sk_sB a b s).length = min 576 (s.length + sk_cB a b) := by
  unfold sk_sB sk_cB
  by_cases h : sk_ap a b = true
  · rw [if_pos h, if_pos h]
    exact sk_len _ _ (fun i s => sk_lC a b i s) s hs 24
  · rw [if_neg h, if_neg h]
    omega
theorem sk_lR : sk_R.length = 576 := by
  have h := sk_len sk_sA sk_cA (fun i s hs => sk_len (sk_sB i) (sk_cB i) (fun j s => sk_lB i j s) s hs 24) [] (by decide) 24
  rw [sk_total] at h
  have e : min 576 (([] : List Nat).length + 576) = 576 := by decide
  exact h.trans e
/-! what is in the list -/
def sk_Ok (q : Nat) : Prop := ∃ a b c d, a < 24 ∧ b < 24 ∧ c < 24 ∧ d < 24 ∧ q = sk_pk a b c d
theorem sk_inv {α : Type} (P : α → Prop) (f : Nat → α → α) (s : α) (h0 : P s) : ∀ n, (∀ i s, i < n → P s → P (f i s)) → P (sk_it f n s)
  | 0, _ => h0
  | n + 1, h => h n _ (by omega) (sk_inv P f s h0 n (fun i s hi => h i s (by omega)))
def sk_Al (s : List Nat) : Prop := ∀ q, q ∈ s → sk_Ok q
theorem sk_Ra : sk_Al sk_R := by
  refine sk_inv sk_Al sk_sA [] (fun q h => by cases h) 24 ?_
  intro a s ha h
  refine sk_inv sk_Al (sk_sB a) s h 24 ?_
  intro b s hb h
  unfold sk_sB
  split
  · refine sk_inv sk_Al (sk_sC a b) s h 24 ?_
    intro c s hc h
    unfold sk_sC
    split
    · refine sk_inv sk_Al (sk_sD a b c) s h 24 ?_
      intro d s hd h
      unfold sk_sD
      split
      · intro q hq
        cases hq with
        | head => exact ⟨a, b, c, d, ha, hb, hc, hd, rfl⟩
        | tail _ hq => exact h q hq
      · exact h
    · exact h
  · exact h
/-- the i-th of a list that is kept newest first -/
def sk_el : List Nat → Nat → Nat
  | [], _ => 0
  | q :: t, i => if i = t.length then q else sk_el t i
theorem sk_elOk : ∀ (s : List Nat), sk_Al s → ∀ i, i < s.length → sk_Ok (sk_el s i)
  | [], _, i, hi => absurd hi (Nat.not_lt_zero i)
  | q :: t, h, i, hi => by
    unfold sk_el
    by_cases e : i = t.length
    · rw [if_pos e]
      exact h q List.mem_cons_self
    · rw [if_neg e]
      rw [List.length_cons] at hi
      exact sk_elOk t (fun p hp => h p (List.mem_cons_of_mem q hp)) i (by omega)
/-- an array that holds the list, each number as e writes it -/
def sk_Ho (e : Nat → Int32) (g : Nat → Int32) (s : List Nat) : Prop := ∀ i, i < s.length → g i = e (sk_el s i)
theorem sk_Ho0 (e g : Nat → Int32) : sk_Ho e g [] := fun i hi => absurd hi (Nat.not_lt_zero i)
theorem sk_Hop {e g : Nat → Int32} {s : List Nat} (q : Nat) (h : sk_Ho e g s) : sk_Ho e (upd g s.length (e q)) (q :: s) := by
  intro i hi
  rw [List.length_cons] at hi
  unfold sk_el
  by_cases z : i = s.length
  · rw [if_pos z, z, pk_us]
  · rw [if_neg z, pk_un z]
    exact h i (by omega)
