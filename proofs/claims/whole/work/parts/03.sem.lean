/-! the 576 grids by their heights; what a solution is; the answers as both sides count them -/
def sk_q (i : Nat) : Nat := sk_el sk_R i
def sk_row (i r : Nat) : Nat := sk_q i / 32 ^ r % 32
def sk_H (i c : Nat) : Nat := sk_dig (sk_row i (c / 4)) (c % 4)
/-- a packed number's grid as X packs it -/
def sk_gN (q : Nat) : Nat := sk_code (q % 32) * 16777216 + sk_code (q / 32 % 32) * 65536 + sk_code (q / 1024 % 32) * 256 + sk_code (q / 32768 % 32)
theorem sk_H_r (i c : Nat) : 1 ≤ sk_H i c ∧ sk_H i c ≤ 4 := sk_dig_r _ _
theorem sk_qOk {i : Nat} (h : i < 576) : sk_Ok (sk_q i) := sk_elOk sk_R sk_Ra i (by rw [sk_lR]; exact h)
theorem sk_pk_rows {a b c d : Nat} (ha : a < 24) (hb : b < 24) (hc : c < 24) (hd : d < 24) : sk_pk a b c d % 32 = a ∧ sk_pk a b c d / 32 % 32 = b ∧ sk_pk a b c d / 1024 % 32 = c ∧ sk_pk a b c d / 32768 % 32 = d ∧ sk_pk a b c d < 1048576 := by
  unfold sk_pk
  omega
theorem sk_q_lt {i : Nat} (h : i < 576) : sk_q i < 1048576 := by
  obtain ⟨a, b, c, d, ha, hb, hc, hd, e⟩ := sk_qOk h
  rw [e]
  exact (sk_pk_rows ha hb hc hd).2.2.2.2
theorem sk_row_lt {i r : Nat} (h : i < 576) (hr : r < 4) : sk_row i r < 24 := by
  obtain ⟨a, b, c, d, ha, hb, hc, hd, e⟩ := sk_qOk h
  obtain ⟨e0, e1, e2, e3, _⟩ := sk_pk_rows ha hb hc hd
  unfold sk_row
  rw [e]
  have hr' : r = 0 ∨ r = 1 ∨ r = 2 ∨ r = 3 := by omega
  rcases hr' with rfl | rfl | rfl | rfl
  · show sk_pk a b c d / 1 % 32 < 24
    rw [Nat.div_one, e0]; exact ha
  · show sk_pk a b c d / 32 % 32 < 24
    rw [e1]; exact hb
  · show sk_pk a b c d / 1024 % 32 < 24
    rw [e2]; exact hc
  · show sk_pk a b c d / 32768 % 32 < 24
    rw [e3]; exact hd
theorem sk_split (A B C D : Nat) (hA : A < 256) (hB : B < 256) (hC : C < 256) (hD : D < 256) :
    (A * 16777216 + B * 65536 + C * 256 + D < 4294967296) ∧
    (A * 16777216 + B * 65536 + C * 256 + D) / 1073741824 % 4 = A / 64 % 4 ∧ (A * 16777216 + B * 65536 + C * 256 + D) / 268435456 % 4 = A / 16 % 4 ∧
    (A * 16777216 + B * 65536 + C * 256 + D) / 67108864 % 4 = A / 4 % 4 ∧ (A * 16777216 + B * 65536 + C * 256 + D) / 16777216 % 4 = A % 4 := by
  refine ⟨by omega, by omega, by omega, by omega, by omega⟩
theorem sk_split2 (A B C D : Nat) (hA : A < 256) (hB : B < 256) (hC : C < 256) (hD : D < 256) :
    (A * 16777216 + B * 65536 + C * 256 + D) / 4194304 % 4 = B / 64 % 4 ∧ (A * 16777216 + B * 65536 + C * 256 + D) / 1048576 % 4 = B / 16 % 4 ∧
    (A * 16777216 + B * 65536 + C * 256 + D) / 262144 % 4 = B / 4 % 4 ∧ (A * 16777216 + B * 65536 + C * 256 + D) / 65536 % 4 = B % 4 := by
  refine ⟨by omega, by omega, by omega, by omega⟩
theorem sk_split3 (A B C D : Nat) (hA : A < 256) (hB : B < 256) (hC : C < 256) (hD : D < 256) :
    (A * 16777216 + B * 65536 + C * 256 + D) / 16384 % 4 = C / 64 % 4 ∧ (A * 16777216 + B * 65536 + C * 256 + D) / 4096 % 4 = C / 16 % 4 ∧
    (A * 16777216 + B * 65536 + C * 256 + D) / 1024 % 4 = C / 4 % 4 ∧ (A * 16777216 + B * 65536 + C * 256 + D) / 256 % 4 = C % 4 := by
  refine ⟨by omega, by omega, by omega, by omega⟩
theorem sk_split4 (A B C D : Nat) (hA : A < 256) (hB : B < 256) (hC : C < 256) (hD : D < 256) :
    (A * 16777216 + B * 65536 + C * 256 + D) / 64 % 4 = D / 64 % 4 ∧ (A * 16777216 + B * 65536 + C * 256 + D) / 16 % 4 = D / 16 % 4 ∧
    (A * 16777216 + B * 65536 + C * 256 + D) / 4 % 4 = D / 4 % 4 ∧ (A * 16777216 + B * 65536 + C * 256 + D) % 4 = D % 4 := by
  refine ⟨by omega, by omega, by omega, by omega⟩
theorem sk_le16 {c : Nat} (h : c < 16) : c = 0 ∨ c = 1 ∨ c = 2 ∨ c = 3 ∨ c = 4 ∨ c = 5 ∨ c = 6 ∨ c = 7 ∨ c = 8 ∨ c = 9 ∨ c = 10 ∨ c = 11 ∨ c = 12 ∨ c = 13 ∨ c = 14 ∨ c = 15 := by omega
theorem sk_gN_H {i : Nat} (h : i < 576) : sk_gN (sk_q i) < 4294967296 ∧ ∀ c, c < 16 → sk_gN (sk_q i) / 4 ^ (15 - c) % 4 + 1 = sk_H i c := by
  have hA := sk_code_lt _ (sk_row_lt h (r := 0) (by decide))
  have hB := sk_code_lt _ (sk_row_lt h (r := 1) (by decide))
  have hC := sk_code_lt _ (sk_row_lt h (r := 2) (by decide))
  have hD := sk_code_lt _ (sk_row_lt h (r := 3) (by decide))
  have eg : sk_gN (sk_q i) = sk_code (sk_row i 0) * 16777216 + sk_code (sk_row i 1) * 65536 + sk_code (sk_row i 2) * 256 + sk_code (sk_row i 3) := by
    unfold sk_gN sk_row
    rw [show (32 : Nat) ^ 0 = 1 from rfl, Nat.div_one]
  obtain ⟨l, a0, a1, a2, a3⟩ := sk_split _ _ _ _ hA hB hC hD
  obtain ⟨b0, b1, b2, b3⟩ := sk_split2 _ _ _ _ hA hB hC hD
  obtain ⟨c0, c1, c2, c3⟩ := sk_split3 _ _ _ _ hA hB hC hD
  obtain ⟨d0, d1, d2, d3⟩ := sk_split4 _ _ _ _ hA hB hC hD
  rw [eg]
  refine ⟨l, fun c hc => ?_⟩
  unfold sk_H sk_dig
  rcases sk_le16 hc with rfl | rfl | rfl | rfl | rfl | rfl | rfl | rfl | rfl | rfl | rfl | rfl | rfl | rfl | rfl | rfl
  · show _ / 1073741824 % 4 + 1 = sk_code (sk_row i 0) / 64 % 4 + 1
    rw [a0]
  · show _ / 268435456 % 4 + 1 = sk_code (sk_row i 0) / 16 % 4 + 1
    rw [a1]
  · show _ / 67108864 % 4 + 1 = sk_code (sk_row i 0) / 4 % 4 + 1
    rw [a2]
  · show _ / 16777216 % 4 + 1 = sk_code (sk_row i 0) / 1 % 4 + 1
    rw [Nat.div_one, a3]
  · show _ / 4194304 % 4 + 1 = sk_code (sk_row i 1) / 64 % 4 + 1
    rw [b0]
  · show _ / 1048576 % 4 + 1 = sk_code (sk_row i 1) / 16 % 4 + 1
    rw [b1]
  · show _ / 262144 % 4 + 1 = sk_code (sk_row i 1) / 4 % 4 + 1
    rw [b2]
  · show _ / 65536 % 4 + 1 = sk_code (sk_row i 1) / 1 % 4 + 1
    rw [Nat.div_one, b3]
  · show _ / 16384 % 4 + 1 = sk_code (sk_row i 2) / 64 % 4 + 1
    rw [c0]
  · show _ / 4096 % 4 + 1 = sk_code (sk_row i 2) / 16 % 4 + 1
    rw [c1]
  · show _ / 1024 % 4 + 1 = sk_code (sk_row i 2) / 4 % 4 + 1
    rw [c2]
  · show _ / 256 % 4 + 1 = sk_code (sk_row i 2) / 1 % 4 + 1
    rw [Nat.div_one, c3]
  · show _ / 64 % 4 + 1 = sk_code (sk_row i 3) / 64 % 4 + 1
    rw [d0]
  · show _ / 16 % 4 + 1 = sk_code (sk_row i 3) / 16 % 4 + 1
    rw [d1]
  · show _ / 4 % 4 + 1 = sk_code (sk_row i 3) / 4 % 4 + 1
    rw [d2]
  · show _ / 1 % 4 + 1 = sk_code (sk_row i 3) / 1 % 4 + 1
    rw [Nat.div_one, Nat.div_one, d3]
/-! visible: four heights in a row, as both loops count them -/
def sk_vs (f : Nat → Int32) : Nat → Int32 × Int32
  | 0 => (0, 0)
  | i + 1 => if f i ≤ (sk_vs f i).1 then sk_vs f i else (f i, (sk_vs f i).2 + 1)
def sk_cell (p j : Nat) : Nat := if p < 4 then p * 4 + j else if p < 8 then (p - 4) * 4 + 3 - j else if p < 12 then j * 4 + (p - 8) else 12 + (p - 12) - j * 4
def sk_vis (i p : Nat) : Int32 := (sk_vs (fun j => nI (sk_H i (sk_cell p j))) 4).2
theorem sk_cell_lt : ∀ p, p < 16 → ∀ j, j < 4 → sk_cell p j < 16 := by decide +kernel
def sk_Sg (s : Int32) (x y : Nat) : Prop := s = 0 ∨ (s = 1 ∧ x < y) ∨ (s ≠ 0 ∧ s ≠ 1 ∧ y < x)
def sk_GO (g : Nat → Int32) (i c : Nat) : Prop := g c = 0 ∨ g c = nI (sk_H i c)
def sk_CO (cl : Nat → Int32) (i c : Nat) : Prop := cl c = 0 ∨ cl c = sk_vis i c
def sk_RO (r : Nat → Int32) (i c : Nat) : Prop := sk_Sg (r c) (sk_H i c) (sk_H i (c + 1))
def sk_DO (d : Nat → Int32) (i c : Nat) : Prop := sk_Sg (d c) (sk_H i c) (sk_H i (c + 4))
def sk_Sol (g cl r d : Nat → Int32) (i : Nat) : Prop := ∀ c, c < 16 → sk_GO g i c ∧ sk_CO cl i c ∧ sk_RO r i c ∧ sk_DO d i c
noncomputable def sk_S (g cl r d : Nat → Int32) (i : Nat) : Bool := @decide (sk_Sol g cl r d i) (Classical.propDecidable _)
theorem sk_S_t {g cl r d : Nat → Int32} {i : Nat} (h : sk_Sol g cl r d i) : sk_S g cl r d i = true := @decide_eq_true _ (Classical.propDecidable _) h
theorem sk_S_f {g cl r d : Nat → Int32} {i : Nat} (h : ¬ sk_Sol g cl r d i) : sk_S g cl r d i = false := @decide_eq_false _ (Classical.propDecidable _) h
/-! the answers -/
def sk_cn (P : Nat → Bool) : Nat → Nat
  | 0 => 0
  | i + 1 => sk_cn P i + (P i).toNat
theorem sk_cn_le (P : Nat → Bool) : ∀ n, sk_cn P n ≤ n
  | 0 => Nat.le_refl 0
  | n + 1 => by
    have h := sk_cn_le P n
    show sk_cn P n + (P n).toNat ≤ n + 1
    have h2 := Bool.toNat_le (P n)
    omega
theorem sk_cn_t {P : Nat → Bool} {i : Nat} (h : P i = true) : sk_cn P (i + 1) = sk_cn P i + 1 := by
  show sk_cn P i + (P i).toNat = _
  rw [h]
  rfl
theorem sk_cn_f {P : Nat → Bool} {i : Nat} (h : P i = false) : sk_cn P (i + 1) = sk_cn P i := by
  show sk_cn P i + (P i).toNat = _
  rw [h]
  rfl
def sk_mk (P : Nat → Bool) (c : Nat) : Nat → Int32
  | 0 => 0
  | i + 1 => if P i = true then sk_mk P c i ||| ((1 : Int32) <<< ((nI (sk_H i c) - 1) &&& 31)) else sk_mk P c i
def sk_ht (P : Nat → Bool) (c : Nat) (n : Int32) : Nat → Nat → Nat → Int32
  | 0, _, _ => 0
  | m + 1, i, k => if P i = true then (if nI k = n then nI (sk_H i c) else sk_ht P c n m (i + 1) (k + 1)) else sk_ht P c n m (i + 1) k
def sk_vo (P : Nat → Bool) (c : Nat) (h : Int32) (i : Nat) : Bool := P i && decide (nI (sk_H i c) = h)
/-- of 64 pairs of cell and height those that all solutions have -/
def sk_fx (P : Nat → Bool) (i : Nat) : Bool := decide (0 < sk_cn P 576) && decide (sk_cn (sk_vo P (i / 4) (nI (i % 4 + 1))) 576 = sk_cn P 576)
def sk_fc (P : Nat → Bool) : Nat := sk_cn (sk_fx P) 64
