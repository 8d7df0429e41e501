/-! X's fields of two bits, and the count of fixed cells -/
theorem sk_hX {G c : Nat} (hG : G < 4294967296) (hc : c < 16) : (((nI G).toUInt32 >>> ((2 * (15 - nI c)).toUInt32 &&& Int32.toUInt32 31)).toInt32 &&& 3) + 1 = nI (G / 4 ^ (15 - c) % 4 + 1) := by
  have e : 2 ^ (2 * (15 - c)) = 4 ^ (15 - c) := Nat.pow_mul 2 2 (15 - c)
  have hs : 2 * (15 - c) < 32 := by omega
  have h1 : (2 : Int32) * (15 - nI c) = nI (2 * (15 - c)) := by
    show nI 2 * (nI 15 - nI c) = _
    rw [pk_sub (show c ≤ 15 by omega), pk_mul]
  have h2 := pk_ushrN hG (nI (2 * (15 - c))) (2 * (15 - c)) (s_u _ hs)
  have h3 : nI (G / 4 ^ (15 - c)) &&& 3 = nI (G / 4 ^ (15 - c) % 4) := pk_andN (n := G / 4 ^ (15 - c)) (Nat.lt_of_le_of_lt (Nat.div_le_self _ _) hG) (m := 3) 2 (by decide)
  rw [h1, h2, e, h3, nI_1]
def sk_fl (x : Int32) (c : Nat) : Int32 := (x.toUInt32 >>> ((nI (2 * c)).toUInt32 &&& Int32.toUInt32 31)).toInt32 &&& 3
theorem sk_b3 : ∀ i, i < 32 → bt 3 i = decide (i < 2) := by decide +kernel
theorem sk_fl_b (x : Int32) {c i : Nat} (hc : c < 16) (hi : i < 32) : bt (sk_fl x c) i = (bt x (2 * c + i) && decide (i < 2)) := by
  unfold sk_fl
  rw [b_and, b_ushr (2 * c) (by omega), sk_b3 i hi]
theorem sk_fl0 (x : Int32) {c : Nat} (hc : c < 16) : sk_fl x c = 0 ↔ bt x (2 * c) = false ∧ bt x (2 * c + 1) = false := by
  constructor
  · intro h
    have h0 := sk_fl_b x (i := 0) hc (by decide)
    have h1 := sk_fl_b x (i := 1) hc (by decide)
    rw [h, b_0] at h0 h1
    constructor
    · cases e : bt x (2 * c)
      · rfl
      · rw [Nat.add_zero, e] at h0
        exact absurd h0 (by decide)
    · cases e : bt x (2 * c + 1)
      · rfl
      · rw [e] at h1
        exact absurd h1 (by decide)
  · intro h
    apply b_ext
    intro i hi
    rw [sk_fl_b x hc hi, b_0]
    have hi' : i = 0 ∨ i = 1 ∨ 2 ≤ i := by omega
    rcases hi' with rfl | rfl | h2
    · rw [Nat.add_zero, h.1]; rfl
    · rw [h.2]; rfl
    · rw [decide_eq_false (Nat.not_lt.mpr h2), Bool.and_false]
theorem sk_fl_or (v g f : Int32) {c : Nat} (hc : c < 16) : sk_fl (v ||| (g ^^^ f)) c = 0 ↔ sk_fl v c = 0 ∧ (bt g (2 * c) = bt f (2 * c) ∧ bt g (2 * c + 1) = bt f (2 * c + 1)) := by
  rw [sk_fl0 _ hc, sk_fl0 _ hc, b_or, b_xor, b_or, b_xor]
  generalize bt v (2 * c) = a
  generalize bt v (2 * c + 1) = b
  generalize bt g (2 * c) = p
  generalize bt g (2 * c + 1) = q
  generalize bt f (2 * c) = x
  generalize bt f (2 * c + 1) = y
  cases a <;> cases b <;> cases p <;> cases q <;> cases x <;> cases y <;> decide
theorem sk_bt_nI {G k : Nat} (hk : k < 32) : bt (nI G) k = G.testBit k := by
  show (BitVec.ofNat 32 G).getLsbD k = _
  rw [BitVec.getLsbD_ofNat, decide_eq_true hk, Bool.true_and]
theorem sk_quad (z w : Nat) : (decide (z % 2 = 1) = decide (w % 2 = 1) ∧ decide (z / 2 % 2 = 1) = decide (w / 2 % 2 = 1)) ↔ z % 4 = w % 4 := by
  rw [decide_eq_decide, decide_eq_decide]
  omega
theorem sk_bits {G F c : Nat} (hc : c < 16) : (bt (nI G) (2 * c) = bt (nI F) (2 * c) ∧ bt (nI G) (2 * c + 1) = bt (nI F) (2 * c + 1)) ↔ G / 4 ^ c % 4 = F / 4 ^ c % 4 := by
  have e : 2 ^ (2 * c) = 4 ^ c := Nat.pow_mul 2 2 c
  have h1 : 2 * c < 32 := by omega
  have h2 : 2 * c + 1 < 32 := by omega
  rw [sk_bt_nI h1, sk_bt_nI h1, sk_bt_nI h2, sk_bt_nI h2]
  rw [Nat.testBit_eq_decide_div_mod_eq, Nat.testBit_eq_decide_div_mod_eq, Nat.testBit_eq_decide_div_mod_eq, Nat.testBit_eq_decide_div_mod_eq]
  rw [Nat.pow_succ, ← Nat.div_div_eq_div_mul, ← Nat.div_div_eq_div_mul, e]
  exact sk_quad _ _
/-- two grids agree in a field of two bits just where they have one height -/
theorem sk_same {i j c : Nat} (hi : i < 576) (hj : j < 576) (hc : c < 16) : (bt (nI (sk_gN (sk_q i))) (2 * c) = bt (nI (sk_gN (sk_q j))) (2 * c) ∧ bt (nI (sk_gN (sk_q i))) (2 * c + 1) = bt (nI (sk_gN (sk_q j))) (2 * c + 1)) ↔ sk_H i (15 - c) = sk_H j (15 - c) := by
  rw [sk_bits hc, ← (sk_gN_H hi).2 (15 - c) (by omega), ← (sk_gN_H hj).2 (15 - c) (by omega), show 15 - (15 - c) = c by omega]
  exact Nat.add_right_cancel_iff.symm
theorem sk_and_le (P Q : Nat → Bool) : ∀ n, sk_cn (fun i => P i && Q i) n ≤ sk_cn P n
  | 0 => Nat.le_refl 0
  | n + 1 => by
    have h := sk_and_le P Q n
    show sk_cn (fun i => P i && Q i) n + (P n && Q n).toNat ≤ sk_cn P n + (P n).toNat
    have h2 : (P n && Q n).toNat ≤ (P n).toNat := by cases P n <;> cases Q n <;> decide
    omega
theorem sk_and_eq (P Q : Nat → Bool) : ∀ n, sk_cn (fun i => P i && Q i) n = sk_cn P n ↔ ∀ i, i < n → P i = true → Q i = true
  | 0 => ⟨fun _ i hi => absurd hi (Nat.not_lt_zero i), fun _ => rfl⟩
  | n + 1 => by
    have ih := sk_and_eq P Q n
    have hl := sk_and_le P Q n
    show sk_cn (fun i => P i && Q i) n + (P n && Q n).toNat = sk_cn P n + (P n).toNat ↔ _
    constructor
    · intro h
      have h2 : (P n && Q n).toNat ≤ (P n).toNat := by cases P n <;> cases Q n <;> decide
      have h3 := ih.mp (by omega)
      have h4 : (P n && Q n).toNat = (P n).toNat := by omega
      intro i hi hp
      by_cases e : i = n
      · subst e
        rw [hp] at h4
        cases hq : Q i
        · rw [hq] at h4
          exact absurd h4 (by decide)
        · rfl
      · exact h3 i (by omega) hp
    · intro h
      rw [ih.mpr (fun i hi => h i (by omega))]
      cases hp : P n
      · rfl
      · exact congrArg (fun b => sk_cn P n + (true && b).toNat) (h n (by omega) hp)
theorem sk_cn4 (Q : Nat → Bool) (m : Nat) : sk_cn Q (m + 4) = sk_cn Q m + (Q (m + 0)).toNat + (Q (m + 1)).toNat + (Q (m + 2)).toNat + (Q (m + 3)).toNat := rfl
theorem sk_rev (Q : Nat → Bool) : sk_cn Q 16 = sk_cn (fun c => Q (15 - c)) 16 := by
  show 0 + (Q 0).toNat + (Q 1).toNat + (Q 2).toNat + (Q 3).toNat + (Q 4).toNat + (Q 5).toNat + (Q 6).toNat + (Q 7).toNat + (Q 8).toNat + (Q 9).toNat + (Q 10).toNat + (Q 11).toNat + (Q 12).toNat + (Q 13).toNat + (Q 14).toNat + (Q 15).toNat = 0 + (Q 15).toNat + (Q 14).toNat + (Q 13).toNat + (Q 12).toNat + (Q 11).toNat + (Q 10).toNat + (Q 9).toNat + (Q 8).toNat + (Q 7).toNat + (Q 6).toNat + (Q 5).toNat + (Q 4).toNat + (Q 3).toNat + (Q 2).toNat + (Q 1).toNat + (Q 0).toNat
  omega
theorem sk_pos (P : Nat → Bool) {i : Nat} (h : P i = true) : ∀ n, i < n → 0 < sk_cn P n
  | 0, hi => absurd hi (Nat.not_lt_zero i)
  | n + 1, hi => by
    show 0 < sk_cn P n + (P n).toNat
    by_cases e : i = n
    · subst e
      rw [h]
      exact Nat.succ_pos _
    · have h2 := sk_pos P h n (by omega)
      omega
theorem sk_four (f : Bool) (h : Nat) (h1 : 1 ≤ h) (h4 : h ≤ 4) : (f && decide (h = 1)).toNat + (f && decide (h = 2)).toNat + (f && decide (h = 3)).toNat + (f && decide (h = 4)).toNat = f.toNat := by
  have hh : h = 1 ∨ h = 2 ∨ h = 3 ∨ h = 4 := by omega
  rcases hh with rfl | rfl | rfl | rfl <;> cases f <;> rfl
theorem sk_fx_t {P : Nat → Bool} {i0 : Nat} (h0 : i0 < 576) (hp : P i0 = true) (k i : Nat) (hi : i < 4) : sk_fx P (4 * k + i) = true ↔ ∀ j, j < 576 → P j = true → sk_H j k = i + 1 := by
  unfold sk_fx
  rw [show (4 * k + i) / 4 = k by omega, show (4 * k + i) % 4 = i by omega, decide_eq_true (sk_pos P hp 576 h0), Bool.true_and, decide_eq_true_iff]
  have h := sk_and_eq P (fun j => decide (nI (sk_H j k) = nI (i + 1))) 576
  refine h.trans ⟨fun z j hj hpj => ?_, fun z j hj hpj => ?_⟩
  · have hr := sk_H_r j k
    exact (nI_eq (by omega) (by omega)).mp (of_decide_eq_true (z j hj hpj))
  · exact decide_eq_true (by rw [z j hj hpj])
theorem sk_fixed {P : Nat → Bool} {x : Int32} {i0 : Nat} (h0 : i0 < 576) (hp : P i0 = true) (hx : ∀ c, c < 16 → (sk_fl x c = 0 ↔ ∀ j, j < 576 → P j = true → sk_H j (15 - c) = sk_H i0 (15 - c))) : sk_cn (fun c => decide (sk_fl x c = 0)) 16 = sk_fc P := by
  rw [sk_rev]
  have hF : ∀ k, k < 16 → (sk_fl x (15 - k) = 0 ↔ ∀ j, j < 576 → P j = true → sk_H j k = sk_H i0 k) := by
    intro k hk
    have h := hx (15 - k) (by omega)
    rw [show 15 - (15 - k) = k by omega] at h
    exact h
  have key : ∀ k, k < 16 → ∀ i, i < 4 → sk_fx P (4 * k + i) = (decide (sk_fl x (15 - k) = 0) && decide (sk_H i0 k = i + 1)) := by
    intro k hk i hi
    rw [Bool.eq_iff_iff, sk_fx_t h0 hp k i hi, Bool.and_eq_true, decide_eq_true_iff, decide_eq_true_iff, hF k hk]
    constructor
    · intro z
      have e := z i0 h0 hp
      exact ⟨fun j hj hpj => by rw [z j hj hpj, e], e⟩
    · intro z j hj hpj
      rw [z.1 j hj hpj, z.2]
  have main : ∀ k, k ≤ 16 → sk_cn (sk_fx P) (4 * k) = sk_cn (fun c => decide (sk_fl x (15 - c) = 0)) k := by
    intro k
    induction k with
    | zero => exact fun _ => rfl
    | succ k ih =>
      intro hk
      have e := ih (by omega)
      have hr := sk_H_r i0 k
      have h4 := sk_four (decide (sk_fl x (15 - k) = 0)) (sk_H i0 k) hr.1 hr.2
      rw [show 4 * (k + 1) = 4 * k + 4 by omega, sk_cn4]
      show _ = sk_cn (fun c => decide (sk_fl x (15 - c) = 0)) k + (decide (sk_fl x (15 - k) = 0)).toNat
      rw [key k (by omega) 0 (by omega), key k (by omega) 1 (by omega), key k (by omega) 2 (by omega), key k (by omega) 3 (by omega), e]
      show sk_cn (fun c => decide (sk_fl x (15 - c) = 0)) k + (decide (sk_fl x (15 - k) = 0) && decide (sk_H i0 k = 1)).toNat + (decide (sk_fl x (15 - k) = 0) && decide (sk_H i0 k = 2)).toNat + (decide (sk_fl x (15 - k) = 0) && decide (sk_H i0 k = 3)).toNat + (decide (sk_fl x (15 - k) = 0) && decide (sk_H i0 k = 4)).toNat = _
      omega
  exact (main 16 (by omega)).symm
theorem sk_fc0 {P : Nat → Bool} (h : sk_cn P 576 = 0) : sk_fc P = 0 := by
  have h2 : ∀ n, sk_cn (sk_fx P) n = 0 := by
    intro n
    induction n with
    | zero => rfl
    | succ n ih =>
      show sk_cn (sk_fx P) n + (sk_fx P n).toNat = 0
      rw [ih]
      unfold sk_fx
      rw [h]
      rfl
  exact h2 64
