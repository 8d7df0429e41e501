/-! X: the methods that only read -/
theorem xl_isCell {post : Int32 → Prop} {p0 p1 : Int32} (h1 : sk_cl p0 p1 → post 1) (h0 : ¬ sk_cl p0 p1 → post 0) : wpX_isCell post p0 p1 := by
  unfold wpX_isCell
  unfold sk_cl at h1 h0
  simp only [Int32.lt_iff_toInt_lt, Int32.le_iff_toInt_le, sk_t0, sk_t4]
  exact ⟨fun a => h0 (by omega), fun a => ⟨fun b => h0 (by omega), fun b => ⟨fun c => h0 (by omega), fun c => ⟨fun d => h0 (by omega), fun d => h1 (by omega)⟩⟩⟩⟩
theorem xl_ht {post : Int32 → Prop} {i c : Nat} (hi : i < 576) (hc : c < 16) {x y : Int32} (hx : x = nI (sk_gN (sk_q i))) (hy : y = nI c) (h : post (nI (sk_H i c))) : wpX_heightAt post x y := by
  subst hx hy
  unfold wpX_heightAt
  rw [sk_hX (sk_gN_H hi).1 hc, (sk_gN_H hi).2 c hc]
  exact h
theorem xl_gv {post : Int32 → Prop} {i : Nat} (hi : i < 576) (g c r d l G : Nat → Int32) (h1 : (∀ k, k < 16 → sk_GO g i k) → post 1) (h0 : ¬ (∀ k, k < 16 → sk_GO g i k) → post 0) : wpX_givensHold post (g, c, r, d, l, G) (nI (sk_gN (sk_q i))) := by
  refine loop_0 (σ := Unit) (fun n k _ => wX_givensHold_2 post (nI (sk_gN (sk_q i))) g c r d l G n (nI k)) (fun k _ => ∀ j, j < k → sk_GO g i j) 16 () lt_0 ?_ ?_
  · intro n s I
    exact br_t (nI_le (a := 16) (b := 16) (Nat.le_refl _) (by decide)) (h1 I)
  · intro n k s hk I ih
    have hv : vp_in (nI k) 16 := vp_in_nI hk (by decide)
    have ec : (nI k).toNatClampNeg = k := nI_clamp (by omega)
    have nx : sk_GO g i k → ∀ y, y = nI k + 1 → wX_givensHold_2 post (nI (sk_gN (sk_q i))) g c r d l G n y := fun hg => nm_r (nI_1 k) (ih () (lt_s I hg))
    show wX_givensHold_2 post (nI (sk_gN (sk_q i))) g c r d l G (n + 1) (nI k)
    refine br_f (nI_ge (b := 16) hk (by decide)) ⟨hv, ?_⟩
    rw [ec]
    refine br_c (fun z => nx (Or.inl z)) (fun z => ⟨hv, ?_⟩)
    refine xl_ht hi hk rfl rfl ?_
    exact br_c (fun e => nx (Or.inr e)) (fun e => h0 (fun a => (a k hk).elim z e))
theorem sk_leH (i c j m : Nat) : nI (sk_H i c) ≤ nI (sk_H j m) ↔ sk_H i c ≤ sk_H j m := by
  have a := sk_H_r i c
  have b := sk_H_r j m
  exact nI_leI (by omega) (by omega)
theorem sk_sgl {post : Int32 → Prop} {s : Int32} {i c m : Nat} (z : ¬ s = 0) (h1 : sk_Sg s (sk_H i c) (sk_H i m) → post 1) (h0 : ¬ sk_Sg s (sk_H i c) (sk_H i m) → post 0) : ((s = 1 → ((nI (sk_H i m) ≤ nI (sk_H i c) → post 0) ∧ (¬ nI (sk_H i m) ≤ nI (sk_H i c) → post 1))) ∧ (¬ s = 1 → ((nI (sk_H i c) ≤ nI (sk_H i m) → post 0) ∧ (¬ nI (sk_H i c) ≤ nI (sk_H i m) → post 1)))) := by
  rw [sk_leH, sk_leH]
  refine br_c (fun e => br_c (fun l => h0 ?_) (fun l => h1 (Or.inr (Or.inl ⟨e, by omega⟩)))) (fun e => br_c (fun l => h0 ?_) (fun l => h1 (Or.inr (Or.inr ⟨z, e, by omega⟩))))
  · intro q
    rcases q with q | q | q
    · exact z q
    · exact Nat.not_lt.mpr l q.2
    · exact q.2.1 e
  · intro q
    rcases q with q | q | q
    · exact z q
    · exact e q.1
    · exact Nat.not_lt.mpr l q.2.2
theorem xl_sg {post : Int32 → Prop} {i c m : Nat} (hi : i < 576) (hc : c < 16) {s x y : Int32} (hm : s = 0 ∨ m < 16) (hx : x = nI c) (hy : y = nI m) (h1 : sk_Sg s (sk_H i c) (sk_H i m) → post 1) (h0 : ¬ sk_Sg s (sk_H i c) (sk_H i m) → post 0) : wpX_signHolds post s (nI (sk_gN (sk_q i))) x y := by
  unfold wpX_signHolds
  refine br_c (fun z => h1 (Or.inl z)) (fun z => ?_)
  refine xl_ht hi hc rfl hx ?_
  refine xl_ht hi (hm.resolve_left z) rfl hy ?_
  exact sk_sgl z h1 h0
theorem xl_sn {post : Int32 → Prop} {i : Nat} (hi : i < 576) (g c r d l G : Nat → Int32) (hr : ∀ k, k < 16 → k % 4 = 3 → r k = 0) (hd : ∀ k, k < 16 → 12 ≤ k → d k = 0) (h1 : (∀ k, k < 16 → sk_RO r i k ∧ sk_DO d i k) → post 1) (h0 : ¬ (∀ k, k < 16 → sk_RO r i k ∧ sk_DO d i k) → post 0) : wpX_signsHold post (g, c, r, d, l, G) (nI (sk_gN (sk_q i))) := by
  refine loop_0 (σ := Unit) (fun n k _ => wX_signsHold_2 post (nI (sk_gN (sk_q i))) g c r d l G n (nI k)) (fun k _ => ∀ j, j < k → sk_RO r i j ∧ sk_DO d i j) 16 () lt_0 ?_ ?_
  · intro n s I
    exact br_t (nI_le (a := 16) (b := 16) (Nat.le_refl _) (by decide)) (h1 I)
  · intro n k s hk I ih
    have hv : vp_in (nI k) 16 := vp_in_nI hk (by decide)
    have ec : (nI k).toNatClampNeg = k := nI_clamp (by omega)
    have nx : sk_RO r i k ∧ sk_DO d i k → ∀ y, y = nI k + 1 → wX_signsHold_2 post (nI (sk_gN (sk_q i))) g c r d l G n y := fun hg => nm_r (nI_1 k) (ih () (lt_s I hg))
    have e4 : nI k + 4 = nI (k + 4) := nI_add k 4
    have m1 : r k = 0 ∨ k + 1 < 16 := by
      by_cases z : k % 4 = 3
      · exact Or.inl (hr k hk z)
      · exact Or.inr (by omega)
    have m4 : d k = 0 ∨ k + 4 < 16 := by
      by_cases z : 12 ≤ k
      · exact Or.inl (hd k hk z)
      · exact Or.inr (by omega)
    show wX_signsHold_2 post (nI (sk_gN (sk_q i))) g c r d l G (n + 1) (nI k)
    refine br_f (nI_ge (b := 16) hk (by decide)) ⟨hv, ?_⟩
    rw [ec]
    refine xl_sg (m := k + 1) hi hk m1 rfl (nI_1 k) (fun a => br_f (by decide) ⟨hv, ?_⟩) (fun a => br_t rfl (h0 (fun z => a (z k hk).1)))
    refine xl_sg (m := k + 4) hi hk m4 rfl e4 (fun b => br_f (by decide) (nx ⟨a, b⟩)) (fun b => br_t rfl (h0 (fun z => b (z k hk).2)))
theorem sk_c0 : ∀ k, k < 4 → ∀ j, j < 4 → nI k * 4 + nI j * 1 = nI (sk_cell k j) := by decide +kernel
theorem sk_c1 : ∀ k, k < 4 → ∀ j, j < 4 → ((nI k * 4) + 4) - 1 + nI j * (-1) = nI (sk_cell (4 + k) j) := by decide +kernel
theorem sk_c2 : ∀ k, k < 4 → ∀ j, j < 4 → nI k + nI j * 4 = nI (sk_cell (8 + k) j) := by decide +kernel
theorem sk_c3 : ∀ k, k < 4 → ∀ j, j < 4 → 12 + nI k + nI j * (-4) = nI (sk_cell (12 + k) j) := by decide +kernel
theorem xl_vl {post : Int32 → Prop} {i p : Nat} (hi : i < 576) (hp : p < 16) {x3 x4 : Int32} (hs : ∀ j, j < 4 → x3 + nI j * x4 = nI (sk_cell p j)) (h : post (sk_vis i p)) : ∃ n, wX_visibleFrom_21 post (nI (sk_gN (sk_q i))) x3 x4 n 0 0 0 := by
  refine loop_0 (σ := Unit) (fun n k _ => wX_visibleFrom_21 post (nI (sk_gN (sk_q i))) x3 x4 n (sk_vs (fun j => nI (sk_H i (sk_cell p j))) k).1 (sk_vs (fun j => nI (sk_H i (sk_cell p j))) k).2 (nI k)) (fun _ _ => True) 4 () trivial ?_ ?_
  · intro n s _
    exact br_t (nI_le (a := 4) (b := 4) (Nat.le_refl _) (by decide)) h
  · intro n k s hk _ ih
    have ih' : wX_visibleFrom_21 post (nI (sk_gN (sk_q i))) x3 x4 n (sk_vs (fun j => nI (sk_H i (sk_cell p j))) (k + 1)).1 (sk_vs (fun j => nI (sk_H i (sk_cell p j))) (k + 1)).2 (nI (k + 1)) := ih () trivial
    show wX_visibleFrom_21 post (nI (sk_gN (sk_q i))) x3 x4 (n + 1) (sk_vs (fun j => nI (sk_H i (sk_cell p j))) k).1 (sk_vs (fun j => nI (sk_H i (sk_cell p j))) k).2 (nI k)
    refine br_f (nI_ge (b := 4) hk (by decide)) ?_
    refine xl_ht hi (sk_cell_lt p hp k hk) rfl (hs k hk) ?_
    refine br_c (fun z => ?_) (fun z => ?_)
    · have e : sk_vs (fun j => nI (sk_H i (sk_cell p j))) (k + 1) = sk_vs (fun j => nI (sk_H i (sk_cell p j))) k := if_pos z
      rw [e] at ih'
      exact nm_r (nI_1 k) ih'
    · have e : sk_vs (fun j => nI (sk_H i (sk_cell p j))) (k + 1) = (nI (sk_H i (sk_cell p k)), (sk_vs (fun j => nI (sk_H i (sk_cell p j))) k).2 + 1) := if_neg z
      rw [e] at ih'
      exact nm_e (nm_r (nI_1 k) ih')
theorem sk_side {p : Nat} (hp : p < 16) : (p / 4 = 0 ∧ p = p % 4) ∨ (p / 4 = 1 ∧ p = 4 + p % 4) ∨ (p / 4 = 2 ∧ p = 8 + p % 4) ∨ (p / 4 = 3 ∧ p = 12 + p % 4) := by omega
theorem xl_vf {post : Int32 → Prop} {i p : Nat} (hi : i < 576) (hp : p < 16) {a b : Int32} (ha : a = nI (p / 4)) (hb : b = nI (p % 4)) (h : post (sk_vis i p)) : wpX_visibleFrom post (nI (sk_gN (sk_q i))) a b := by
  have hk : p % 4 < 4 := Nat.mod_lt _ (by decide)
  unfold wpX_visibleFrom wpX_firstCell wpX_stepFrom
  subst hb
  rcases sk_side hp with ⟨e, e2⟩ | ⟨e, e2⟩ | ⟨e, e2⟩ | ⟨e, e2⟩
  · rw [e] at ha
    subst ha
    refine br_f (by decide) (br_f (by decide) (br_t (by decide) ?_))
    refine br_f (by decide) (br_f (by decide) (br_t (by decide) ?_))
    exact xl_vl hi hp (fun j hj => (sk_c0 _ hk j hj).trans (by rw [← e2])) h
  · rw [e] at ha
    subst ha
    refine br_f (by decide) (br_f (by decide) (br_f (by decide) (br_t (by decide) ?_)))
    refine br_f (by decide) (br_f (by decide) (br_f (by decide) (br_t (by decide) ?_)))
    exact xl_vl hi hp (fun j hj => (sk_c1 _ hk j hj).trans (by rw [← e2])) h
  · rw [e] at ha
    subst ha
    refine br_f (by decide) (br_f (by decide) (br_f (by decide) (br_f (by decide) (br_t (by decide) ?_))))
    refine br_f (by decide) (br_f (by decide) (br_f (by decide) (br_f (by decide) (br_t (by decide) ?_))))
    exact xl_vl hi hp (fun j hj => (sk_c2 _ hk j hj).trans (by rw [← e2])) h
  · rw [e] at ha
    subst ha
    refine br_f (by decide) (br_t (by decide) ?_)
    refine br_f (by decide) (br_t (by decide) ?_)
    exact xl_vl hi hp (fun j hj => (sk_c3 _ hk j hj).trans (by rw [← e2])) h
theorem xl_cl {post : Int32 → Prop} {i : Nat} (hi : i < 576) (g c r d l G : Nat → Int32) (h1 : (∀ k, k < 16 → sk_CO c i k) → post 1) (h0 : ¬ (∀ k, k < 16 → sk_CO c i k) → post 0) : wpX_cluesHold post (g, c, r, d, l, G) (nI (sk_gN (sk_q i))) := by
  refine loop_0 (σ := Unit) (fun n k _ => wX_cluesHold_2 post (nI (sk_gN (sk_q i))) g c r d l G n (nI k)) (fun k _ => ∀ j, j < k → sk_CO c i j) 16 () lt_0 ?_ ?_
  · intro n s I
    exact br_t (nI_le (a := 16) (b := 16) (Nat.le_refl _) (by decide)) (h1 I)
  · intro n k s hk I ih
    have hv : vp_in (nI k) 16 := vp_in_nI hk (by decide)
    have ec : (nI k).toNatClampNeg = k := nI_clamp (by omega)
    have nx : sk_CO c i k → ∀ y, y = nI k + 1 → wX_cluesHold_2 post (nI (sk_gN (sk_q i))) g c r d l G n y := fun hg => nm_r (nI_1 k) (ih () (lt_s I hg))
    have ed : nI k / 4 = nI (k / 4) := pk_div (d := 4) (by omega) (by decide) (by decide)
    have em : nI k - nI k / 4 * 4 = nI (k % 4) := pk_rem (d := 4) (by omega) (by decide) (by decide)
    show wX_cluesHold_2 post (nI (sk_gN (sk_q i))) g c r d l G (n + 1) (nI k)
    refine br_f (nI_ge (b := 16) hk (by decide)) ⟨hv, ?_⟩
    rw [ec]
    refine br_c (fun z => nx (Or.inl z)) (fun z => ⟨hv, by decide, by decide, ?_⟩)
    refine xl_vf hi hk ed em ?_
    exact br_c (fun e => nx (Or.inr e)) (fun e => h0 (fun a => (a k hk).elim z e))
theorem xl_sol {post : Int32 → Prop} {i : Nat} (hi : i < 576) (g c r d l G : Nat → Int32) (hr : ∀ k, k < 16 → k % 4 = 3 → r k = 0) (hd : ∀ k, k < 16 → 12 ≤ k → d k = 0) {x : Int32} (hx : x = nI (sk_gN (sk_q i))) (h1 : sk_S g c r d i = true → post 1) (h0 : sk_S g c r d i = false → post 0) : wpX_isSolution post (g, c, r, d, l, G) x := by
  subst hx
  unfold wpX_isSolution
  dsimp only
  refine xl_gv hi g c r d l G (fun a => br_f (by decide) ?_) (fun a => br_t rfl (h0 (sk_S_f (fun z => a (fun k hk => (z k hk).1)))))
  refine xl_sn hi g c r d l G hr hd (fun b => br_f (by decide) ?_) (fun b => br_t rfl (h0 (sk_S_f (fun z => b (fun k hk => (z k hk).2.2)))))
  exact xl_cl hi g c r d l G (fun e => br_f (by decide) (h1 (sk_S_t (fun k hk => ⟨a k hk, e k hk, b k hk⟩)))) (fun e => br_t rfl (h0 (sk_S_f (fun z => e (fun k hk => (z k hk).2.1)))))
