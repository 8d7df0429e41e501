/-! the relation, and the conditions on a call's numbers -/
def sk_b (b : Bool) : Int32 := if b = true then 1 else 0
theorem sk_t0 : (0 : Int32).toInt = 0 := by decide
theorem sk_t1 : (1 : Int32).toInt = 1 := by decide
theorem sk_t2 : (2 : Int32).toInt = 2 := by decide
theorem sk_t3 : (3 : Int32).toInt = 3 := by decide
theorem sk_t4 : (4 : Int32).toInt = 4 := by decide
def sk_cl (x y : Int32) : Prop := 0 ≤ x.toInt ∧ x.toInt < 4 ∧ 0 ≤ y.toInt ∧ y.toInt < 4
theorem sk_n4 {x : Int32} (h : 0 ≤ x.toInt) (h2 : x.toInt < 4) : ∃ j : Nat, j < 4 ∧ x = nI j := by
  obtain ⟨j, hj, rfl⟩ := nI_of (x := x) (by rw [Int32.lt_iff_toInt_lt, sk_t0]; omega)
  rw [nI_toInt hj] at h2
  exact ⟨j, by omega, rfl⟩
theorem sk_cl_of {x y : Int32} (h : sk_cl x y) : ∃ a b : Nat, a < 4 ∧ b < 4 ∧ x = nI a ∧ y = nI b := by
  obtain ⟨a, ha, ea⟩ := sk_n4 h.1 h.2.1
  obtain ⟨b, hb, eb⟩ := sk_n4 h.2.2.1 h.2.2.2
  exact ⟨a, b, ha, hb, ea, eb⟩
theorem sk_nI4 {a : Nat} (h : a < 4) : (nI a).toInt = (a : Int) := nI_toInt (by omega)
/-- the tables: X's grids, Y's squares and orders -/
def sk_T (gr od sq : Nat → Int32) : Prop := (∀ i, i < 576 → gr i = nI (sk_gN (sk_q i))) ∧ (∀ i, i < 576 → sq i = nI (sk_q i)) ∧ (∀ j, j < 96 → od j = nI (sk_d j))
/-- the signs -/
def sk_E (r d sg : Nat → Int32) : Prop := ∀ c, c < 16 → sg c = r c ∧ sg (c + 16) = d c ∧ (c % 4 = 3 → r c = 0) ∧ (12 ≤ c → d c = 0)
/-- what Y has tested -/
def sk_K (kn : Int32) (ft g cl r d : Nat → Int32) : Prop := kn = 0 ∨ (kn = 1 ∧ ∀ i, i < 576 → ft i = sk_b (sk_S g cl r d i))
/-! packing -/
theorem sk_pack {A B C D : Nat} (hA : A < 256) (hB : B < 256) (hC : C < 256) (hD : D < 256) : (((nI A <<< ((24 : Int32) &&& 31)) ||| (nI B <<< ((16 : Int32) &&& 31))) ||| (nI C <<< ((8 : Int32) &&& 31))) ||| nI D = nI (A * 16777216 + B * 65536 + C * 256 + D) := by
  have a := pk_shlN (n := A) ((24 : Int32) &&& 31) 24 (by decide) (by omega)
  have b := pk_shlN (n := B) ((16 : Int32) &&& 31) 16 (by decide) (by omega)
  have c := pk_shlN (n := C) ((8 : Int32) &&& 31) 8 (by decide) (by omega)
  have e1 : A * 2 ^ 24 ||| B * 2 ^ 16 = 2 ^ 16 * (A * 256 + B) := by
    have h := Nat.two_pow_add_eq_or_of_lt (i := 24) (b := B * 2 ^ 16) (by omega) A
    rw [Nat.mul_comm A, ← h]
    omega
  have e2 : 2 ^ 16 * (A * 256 + B) ||| C * 2 ^ 8 = 2 ^ 8 * ((A * 256 + B) * 256 + C) := by
    have h := Nat.two_pow_add_eq_or_of_lt (i := 16) (b := C * 2 ^ 8) (by omega) (A * 256 + B)
    rw [← h]
    omega
  have e3 : 2 ^ 8 * ((A * 256 + B) * 256 + C) ||| D = 2 ^ 8 * ((A * 256 + B) * 256 + C) + D := (Nat.two_pow_add_eq_or_of_lt (i := 8) (b := D) (by omega) _).symm
  rw [a, b, c, nx_or, nx_or, nx_or, e1, e2, e3]
  exact congrArg nI (by omega)
theorem sk_pack' {a b c d : Nat} (ha : a < 24) (hb : b < 24) (hc : c < 24) (hd : d < 24) : (((nI (sk_code a) <<< ((24 : Int32) &&& 31)) ||| (nI (sk_code b) <<< ((16 : Int32) &&& 31))) ||| (nI (sk_code c) <<< ((8 : Int32) &&& 31))) ||| nI (sk_code d) = nI (sk_gN (sk_pk a b c d)) := by
  obtain ⟨e0, e1, e2, e3, _⟩ := sk_pk_rows ha hb hc hd
  rw [sk_pack (sk_code_lt a ha) (sk_code_lt b hb) (sk_code_lt c hc) (sk_code_lt d hd)]
  unfold sk_gN
  rw [e0, e1, e2, e3]
theorem sk_fld {q r : Nat} (hq : q < 1048576) (hr : r < 4) : (nI q >>> ((5 * nI r) &&& 31)) &&& 31 = nI (q / 32 ^ r % 32) := by
  have e : 2 ^ (5 * r) = 32 ^ r := Nat.pow_mul 2 5 r
  have h1 : (5 : Int32) * nI r = nI (5 * r) := pk_mul 5 r
  have h2 := pk_shrN (n := q) (by omega) (nI (5 * r) &&& 31) (5 * r) (s_l _ (by omega))
  have h3 : nI (q / 32 ^ r) &&& 31 = nI (q / 32 ^ r % 32) := pk_andN (n := q / 32 ^ r) (Nat.lt_of_le_of_lt (Nat.div_le_self _ _) (by omega)) (m := 31) 5 (by decide)
  rw [h1, h2, e, h3]
