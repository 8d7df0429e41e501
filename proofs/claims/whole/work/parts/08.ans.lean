/-! the answers: X and Y each against the pure count -/
theorem sk_ht1 {P : Nat → Bool} {c m i k : Nat} {n : Int32} (z : P i = true) (e : nI k = n) : sk_ht P c n (m + 1) i k = nI (sk_H i c) := by
  show (if P i = true then (if nI k = n then nI (sk_H i c) else sk_ht P c n m (i + 1) (k + 1)) else sk_ht P c n m (i + 1) k) = _
  rw [if_pos z, if_pos e]
theorem sk_ht2 {P : Nat → Bool} {c m i k : Nat} {n : Int32} (z : P i = true) (e : ¬ nI k = n) : sk_ht P c n (m + 1) i k = sk_ht P c n m (i + 1) (k + 1) := by
  show (if P i = true then (if nI k = n then nI (sk_H i c) else sk_ht P c n m (i + 1) (k + 1)) else sk_ht P c n m (i + 1) k) = _
  rw [if_pos z, if_neg e]
theorem sk_ht3 {P : Nat → Bool} {c m i k : Nat} {n : Int32} (z : P i = false) : sk_ht P c n (m + 1) i k = sk_ht P c n m (i + 1) k := by
  show (if P i = true then (if nI k = n then nI (sk_H i c) else sk_ht P c n m (i + 1) (k + 1)) else sk_ht P c n m (i + 1) k) = _
  rw [if_neg (by rw [z]; decide)]
theorem sk_mk1 {P : Nat → Bool} {c i : Nat} (z : P i = true) : sk_mk P c (i + 1) = sk_mk P c i ||| ((1 : Int32) <<< ((nI (sk_H i c) - 1) &&& 31)) := if_pos z
theorem sk_mk0 {P : Nat → Bool} {c i : Nat} (z : P i = false) : sk_mk P c (i + 1) = sk_mk P c i := if_neg (by rw [z]; decide)
theorem sk_vo1 {P : Nat → Bool} {c i : Nat} {h : Int32} (z : P i = true) (e : nI (sk_H i c) = h) : sk_vo P c h i = true := by
  unfold sk_vo
  rw [z, decide_eq_true e]
  rfl
theorem sk_vo2 {P : Nat → Bool} {c i : Nat} {h : Int32} (e : ¬ nI (sk_H i c) = h) : sk_vo P c h i = false := by
  unfold sk_vo
  rw [decide_eq_false e, Bool.and_false]
theorem sk_vo3 {P : Nat → Bool} {c i : Nat} {h : Int32} (z : P i = false) : sk_vo P c h i = false := by
  unfold sk_vo
  rw [z, Bool.false_and]
theorem sk_cn0 {P : Nat → Bool} : ∀ n, (∀ j, j < n → P j = false) → sk_cn P n = 0
  | 0, _ => rfl
  | n + 1, h => by
    rw [sk_cn_f (h n (by omega))]
    exact sk_cn0 n (fun j hj => h j (by omega))
def sk_X (r d G : Nat → Int32) : Prop := (∀ i, i < 576 → G i = nI (sk_gN (sk_q i))) ∧ (∀ k, k < 16 → k % 4 = 3 → r k = 0) ∧ (∀ k, k < 16 → 12 ≤ k → d k = 0)
theorem sk_XG {r d G : Nat → Int32} (hX : sk_X r d G) {i : Nat} (hi : i < 576) : G (nI i).toNatClampNeg = nI (sk_gN (sk_q i)) := by
  rw [nI_clamp (by omega)]
  exact hX.1 i hi
theorem xa_solutions {post : Int32 → Prop} {g c r d l G : Nat → Int32} (hX : sk_X r d G) (h : post (nI (sk_cn (sk_S g c r d) 576))) : wpX_solutions post (g, c, r, d, l, G) := by
  refine loop_0 (σ := Unit) (fun n k _ => wX_solutions_4 post g c r d l G n (nI (sk_cn (sk_S g c r d) k)) (nI k)) (fun _ _ => True) 576 () trivial ?_ ?_
  · intro n s _
    exact br_t (nI_le (a := 576) (b := 576) (Nat.le_refl _) (by decide)) h
  · intro n k s hk _ ih
    have ih' : wX_solutions_4 post g c r d l G n (nI (sk_cn (sk_S g c r d) (k + 1))) (nI (k + 1)) := ih () trivial
    show wX_solutions_4 post g c r d l G (n + 1) (nI (sk_cn (sk_S g c r d) k)) (nI k)
    refine br_f (nI_ge (b := 576) hk (by decide)) ⟨vp_in_nI hk (by decide), ?_⟩
    refine xl_sol hk g c r d l G hX.2.1 hX.2.2 (sk_XG hX hk) (fun z => ?_) (fun z => ?_)
    · rw [sk_cn_t z] at ih'
      exact br_f (by decide) (nm_r (nI_1 _) (nm_r (nI_1 k) ih'))
    · rw [sk_cn_f z] at ih'
      exact br_t rfl (nm_r (nI_1 k) ih')
theorem xa_possible {post : Int32 → Prop} {g c r d l G : Nat → Int32} (hX : sk_X r d G) {m : Nat} (hm : m < 16) (h : post (sk_mk (sk_S g c r d) m 576)) : ∃ n, wX_possible_22 post (nI m) g c r d l G n 0 0 := by
  refine loop_0 (σ := Unit) (fun n k _ => wX_possible_22 post (nI m) g c r d l G n (sk_mk (sk_S g c r d) m k) (nI k)) (fun _ _ => True) 576 () trivial ?_ ?_
  · intro n s _
    exact br_t (nI_le (a := 576) (b := 576) (Nat.le_refl _) (by decide)) h
  · intro n k s hk _ ih
    have ih' : wX_possible_22 post (nI m) g c r d l G n (sk_mk (sk_S g c r d) m (k + 1)) (nI (k + 1)) := ih () trivial
    show wX_possible_22 post (nI m) g c r d l G (n + 1) (sk_mk (sk_S g c r d) m k) (nI k)
    refine br_f (nI_ge (b := 576) hk (by decide)) ⟨vp_in_nI hk (by decide), ?_⟩
    refine xl_sol hk g c r d l G hX.2.1 hX.2.2 (sk_XG hX hk) (fun z => ?_) (fun z => ?_)
    · rw [sk_mk1 z] at ih'
      refine br_f (by decide) ⟨vp_in_nI hk (by decide), ?_⟩
      exact xl_ht hk hm (sk_XG hX hk) rfl (nm_e (nm_r (nI_1 k) ih'))
    · rw [sk_mk0 z] at ih'
      exact br_t rfl (nm_r (nI_1 k) ih')
theorem xa_height {post : Int32 → Prop} {g c r d l G : Nat → Int32} (hX : sk_X r d G) {m : Nat} (hm : m < 16) (x : Int32) : ∀ e i k, i + e = 576 → post (sk_ht (sk_S g c r d) m x e i k) → wX_height_23 post x (nI m) g c r d l G (e + 1) (nI k) (nI i)
  | 0, i, k, hi, h => by
    have e : i = 576 := by omega
    subst e
    exact br_t (nI_le (a := 576) (b := 576) (Nat.le_refl _) (by decide)) h
  | e + 1, i, k, hi, h => by
    have hk : i < 576 := by omega
    refine br_f (nI_ge (b := 576) hk (by decide)) ⟨vp_in_nI hk (by decide), ?_⟩
    refine xl_sol hk g c r d l G hX.2.1 hX.2.2 (sk_XG hX hk) (fun z => br_f (by decide) ?_) (fun z => br_t rfl (nm_r (nI_1 i) ?_))
    · refine br_c (fun y => ⟨vp_in_nI hk (by decide), ?_⟩) (fun y => nm_r (nI_1 k) (nm_r (nI_1 i) ?_))
      · rw [sk_ht1 z y] at h
        exact xl_ht hk hm (sk_XG hX hk) rfl h
      · rw [sk_ht2 z y] at h
        exact xa_height hX hm x e (i + 1) (k + 1) (by omega) h
    · rw [sk_ht3 z] at h
      exact xa_height hX hm x e (i + 1) k (by omega) h
theorem xa_votes {post : Int32 → Prop} {g c r d l G : Nat → Int32} (hX : sk_X r d G) {m : Nat} (hm : m < 16) (x : Int32) (h : post (nI (sk_cn (sk_vo (sk_S g c r d) m x) 576))) : ∃ n, wX_votes_36 post x (nI m) g c r d l G n 0 0 := by
  refine loop_0 (σ := Unit) (fun n k _ => wX_votes_36 post x (nI m) g c r d l G n (nI (sk_cn (sk_vo (sk_S g c r d) m x) k)) (nI k)) (fun _ _ => True) 576 () trivial ?_ ?_
  · intro n s _
    exact br_t (nI_le (a := 576) (b := 576) (Nat.le_refl _) (by decide)) h
  · intro n k s hk _ ih
    have ih' : wX_votes_36 post x (nI m) g c r d l G n (nI (sk_cn (sk_vo (sk_S g c r d) m x) (k + 1))) (nI (k + 1)) := ih () trivial
    show wX_votes_36 post x (nI m) g c r d l G (n + 1) (nI (sk_cn (sk_vo (sk_S g c r d) m x) k)) (nI k)
    refine br_f (nI_ge (b := 576) hk (by decide)) ⟨vp_in_nI hk (by decide), ?_⟩
    refine xl_ht hk hm (sk_XG hX hk) rfl ?_
    refine br_c (fun y => ⟨vp_in_nI hk (by decide), ?_⟩) (fun y => ?_)
    · refine xl_sol hk g c r d l G hX.2.1 hX.2.2 (sk_XG hX hk) (fun z => ?_) (fun z => ?_)
      · rw [sk_cn_t (sk_vo1 z y)] at ih'
        exact br_f (by decide) (nm_r (nI_1 _) (nm_r (nI_1 k) ih'))
      · rw [sk_cn_f (sk_vo3 z)] at ih'
        exact br_t rfl (nm_r (nI_1 k) ih')
    · rw [sk_cn_f (sk_vo2 y)] at ih'
      exact nm_r (nI_1 k) ih'
theorem xa_equal {post : Int32 → Prop} (x : Int32) (h : post (nI (sk_cn (fun c => decide (sk_fl x c = 0)) 16))) : wpX_equalCells post x := by
  refine loop_0 (σ := Unit) (fun n k _ => wX_equalCells_4 post x n (nI (sk_cn (fun c => decide (sk_fl x c = 0)) k)) (nI k)) (fun _ _ => True) 16 () trivial ?_ ?_
  · intro n s _
    exact br_t (nI_le (a := 16) (b := 16) (Nat.le_refl _) (by decide)) h
  · intro n k s hk _ ih
    have ih' : wX_equalCells_4 post x n (nI (sk_cn (fun c => decide (sk_fl x c = 0)) (k + 1))) (nI (k + 1)) := ih () trivial
    have e2 : (2 : Int32) * nI k = nI (2 * k) := pk_mul 2 k
    show wX_equalCells_4 post x (n + 1) (nI (sk_cn (fun c => decide (sk_fl x c = 0)) k)) (nI k)
    refine br_f (nI_ge (b := 16) hk (by decide)) ?_
    rw [e2]
    refine br_c (fun z => ?_) (fun z => ?_)
    · rw [sk_cn_t (P := fun c => decide (sk_fl x c = 0)) (decide_eq_true z)] at ih'
      exact nm_r (nI_1 _) (nm_r (nI_1 k) ih')
    · rw [sk_cn_f (P := fun c => decide (sk_fl x c = 0)) (decide_eq_false z)] at ih'
      exact nm_r (nI_1 k) ih'
def sk_FI (P : Nat → Bool) (k : Nat) (s : Int32 × Int32 × Int32) : Prop := (s.1 = 0 ∧ s.2.2 = 0 ∧ ∀ j, j < k → P j = false) ∨ (s.1 = 1 ∧ ∃ i0, i0 < k ∧ P i0 = true ∧ s.2.1 = nI (sk_gN (sk_q i0)) ∧ ∀ c, c < 16 → (sk_fl s.2.2 c = 0 ↔ ∀ j, j < k → P j = true → sk_H j (15 - c) = sk_H i0 (15 - c)))
theorem sk_FI_f {P : Nat → Bool} {k : Nat} {s : Int32 × Int32 × Int32} (z : P k = false) (I : sk_FI P k s) : sk_FI P (k + 1) s := by
  rcases I with ⟨a, b, e⟩ | ⟨a, i0, hi, hp, hf, hc⟩
  · refine Or.inl ⟨a, b, lt_s e z⟩
  · refine Or.inr ⟨a, i0, by omega, hp, hf, fun c h16 => ?_⟩
    rw [hc c h16]
    constructor
    · exact fun q => lt_s q (fun w => absurd (w.symm.trans z) (by decide))
    · exact fun q j hj => q j (by omega)
theorem sk_fl_00 (g : Int32) {c : Nat} (hc : c < 16) : sk_fl (0 ||| (g ^^^ g)) c = 0 := by
  rw [sk_fl_or 0 g g hc, sk_fl0 _ hc, b_0, b_0]
  exact ⟨⟨rfl, rfl⟩, rfl, rfl⟩
theorem sk_FI_0 {P : Nat → Bool} {k : Nat} (z : P k = true) (e : ∀ j, j < k → P j = false) : sk_FI P (k + 1) (1, nI (sk_gN (sk_q k)), 0 ||| (nI (sk_gN (sk_q k)) ^^^ nI (sk_gN (sk_q k)))) := by
  refine Or.inr ⟨rfl, k, by omega, z, rfl, fun c hc => ?_⟩
  refine ⟨fun _ => lt_s (fun j hj w => absurd ((e j hj).symm.trans w) (by decide)) (fun _ => rfl), fun _ => sk_fl_00 _ hc⟩
theorem sk_FI_1 {P : Nat → Bool} {k : Nat} (hk : k < 576) {v : Int32} {i0 : Nat} (z : P k = true) (hi : i0 < k) (hp : P i0 = true) (hc : ∀ c, c < 16 → (sk_fl v c = 0 ↔ ∀ j, j < k → P j = true → sk_H j (15 - c) = sk_H i0 (15 - c))) : sk_FI P (k + 1) (1, nI (sk_gN (sk_q i0)), v ||| (nI (sk_gN (sk_q k)) ^^^ nI (sk_gN (sk_q i0)))) := by
  refine Or.inr ⟨rfl, i0, by omega, hp, rfl, fun c h16 => ?_⟩
  show sk_fl (v ||| (nI (sk_gN (sk_q k)) ^^^ nI (sk_gN (sk_q i0)))) c = 0 ↔ _
  rw [sk_fl_or _ _ _ h16, sk_same hk (by omega) h16, hc c h16]
  constructor
  · exact fun q => lt_s q.1 (fun _ => q.2)
  · exact fun q => ⟨fun j hj => q j (by omega), q k (by omega) z⟩
theorem xa_fixed {post : Int32 → Prop} {g c r d l G : Nat → Int32} (hX : sk_X r d G) (h : post (nI (sk_fc (sk_S g c r d)))) : wpX_fixedCells post (g, c, r, d, l, G) := by
  refine loop_0 (σ := Int32 × Int32 × Int32) (fun n k s => wX_fixedCells_9 post g c r d l G n s.1 s.2.1 s.2.2 (nI k)) (fun k s => sk_FI (sk_S g c r d) k s) 576 (0, 0, 0) (Or.inl ⟨rfl, rfl, lt_0⟩) ?_ ?_
  · intro n s I
    show wX_fixedCells_9 post g c r d l G (n + 1) s.1 s.2.1 s.2.2 (nI 576)
    refine br_t (nI_le (a := 576) (b := 576) (Nat.le_refl _) (by decide)) ?_
    rcases I with ⟨a, b, e⟩ | ⟨a, i0, hi, hp, hf, hc⟩
    · rw [sk_fc0 (sk_cn0 576 e)] at h
      exact br_t a h
    · refine br_f (by rw [a]; decide) ?_
      refine xa_equal _ ?_
      rw [sk_fixed hi hp hc]
      exact h
  · intro n k s hk I ih
    have hv : vp_in (nI k) 576 := vp_in_nI hk (by decide)
    have nx : ∀ x1 x2 x3 : Int32, sk_FI (sk_S g c r d) (k + 1) (x1, x2, x3) → wX_fixedCells_9 post g c r d l G n x1 x2 x3 (nI (k + 1)) := fun x1 x2 x3 w => ih (x1, x2, x3) w
    show wX_fixedCells_9 post g c r d l G (n + 1) s.1 s.2.1 s.2.2 (nI k)
    obtain ⟨x1, x2, x3⟩ := s
    refine br_f (nI_ge (b := 576) hk (by decide)) ⟨hv, ?_⟩
    refine xl_sol hk g c r d l G hX.2.1 hX.2.2 (sk_XG hX hk) (fun z => br_f (by decide) ?_) (fun z => br_t rfl (nm_r (nI_1 k) (nx _ _ _ (sk_FI_f z I))))
    rcases I with ⟨a, b, e⟩ | ⟨a, i0, hi, hp, hf, hc⟩
    · refine br_t a ⟨hv, nm_r (sk_XG hX hk) ⟨hv, ?_⟩⟩
      rw [sk_XG hX hk]
      refine nm_e (nm_r (nI_1 k) (nx _ _ _ ?_))
      have b' : x3 = 0 := b
      rw [b']
      exact sk_FI_0 z e
    · refine br_f (by have a' : x1 = 1 := a; show ¬ x1 = 0; rw [a']; decide) ⟨hv, ?_⟩
      rw [sk_XG hX hk]
      refine nm_e (nm_r (nI_1 k) (nx _ _ _ ?_))
      have a' : x1 = 1 := a
      have f' : x2 = nI (sk_gN (sk_q i0)) := hf
      rw [a', f']
      exact sk_FI_1 hk z hi hp hc
