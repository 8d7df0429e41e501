/-! Y: the methods that only read, and test -/
theorem yl_bad {post : Int32 → Prop} {li kn : Int32} {od sq ft g c sg : Nat → Int32} {p0 p1 : Int32} (h0 : sk_cl p0 p1 → post 0) (h1 : ¬ sk_cl p0 p1 → post 1) : wpY_badCell post (li, kn, od, sq, ft, g, c, sg) p0 p1 := by
  unfold wpY_badCell
  unfold sk_cl at h1 h0
  dsimp only
  simp only [Int32.lt_iff_toInt_lt, Int32.le_iff_toInt_le, sk_t0, sk_t3]
  exact ⟨fun a => h1 (by omega), fun a => ⟨fun b => h1 (by omega), fun b => ⟨fun c => h1 (by omega), fun c => ⟨fun d => h0 (by omega), fun d => h1 (by omega)⟩⟩⟩⟩
theorem yl_dg {post : Int32 → Prop} {li kn : Int32} {od sq ft g c sg : Nat → Int32} {k m : Nat} (ho : od (k * 4 + m) = nI (sk_dig k m)) (hk : k < 24) (hm : m < 4) {x y : Int32} (hx : x = nI k) (hy : y = nI m) (h : post (nI (sk_dig k m))) : wpY_digit post (li, kn, od, sq, ft, g, c, sg) x y := by
  subst hx hy
  have e : nI k * 4 + nI m = nI (k * 4 + m) := by
    show nI k * nI 4 + nI m = _
    rw [pk_mul, nI_add]
  have hj : k * 4 + m < 96 := by omega
  show vp_in (nI k * 4 + nI m) 96 ∧ post (od (nI k * 4 + nI m).toNatClampNeg)
  rw [e, nI_clamp (by omega), ho]
  exact ⟨vp_in_nI hj (by decide), h⟩
theorem sk_d_dig {k m : Nat} (hm : m < 4) : sk_d (k * 4 + m) = sk_dig k m := by
  unfold sk_d
  rw [show (k * 4 + m) / 4 = k by omega, show (k * 4 + m) % 4 = m by omega]
theorem sk_H_dig {i r m : Nat} (hm : m < 4) : sk_dig (sk_row i r) m = sk_H i (r * 4 + m) := by
  unfold sk_H
  rw [show (r * 4 + m) / 4 = r by omega, show (r * 4 + m) % 4 = m by omega]
theorem yl_at {post : Int32 → Prop} {li kn : Int32} {od sq ft g c sg : Nat → Int32} (ho : ∀ j, j < 96 → od j = nI (sk_d j)) (hq : ∀ i, i < 576 → sq i = nI (sk_q i)) {i r m : Nat} (hi : i < 576) (hr : r < 4) (hm : m < 4) {x y z : Int32} (hx : x = nI i) (hy : y = nI r) (hz : z = nI m) (h : post (nI (sk_H i (r * 4 + m)))) : wpY_at post (li, kn, od, sq, ft, g, c, sg) x y z := by
  subst hx hy hz
  have hk := sk_row_lt hi hr
  unfold wpY_at
  dsimp only
  refine ⟨vp_in_nI hi (by decide), ?_⟩
  rw [nI_clamp (by omega), hq i hi, sk_fld (sk_q_lt hi) hr]
  refine yl_dg (k := sk_row i r) (m := m) ?_ hk hm rfl rfl ?_
  · rw [ho _ (by omega), sk_d_dig hm]
  · rw [sk_H_dig hm]
    exact h
theorem yl_seen {post : Int32 → Prop} {li kn : Int32} {od sq ft g c sg : Nat → Int32} (ho : ∀ j, j < 96 → od j = nI (sk_d j)) (hq : ∀ i, i < 576 → sq i = nI (sk_q i)) {i p j : Nat} (hi : i < 576) (hp : p < 16) (hj : j < 4) (h : post (nI (sk_H i (sk_cell p j)))) : wpY_seen post (li, kn, od, sq, ft, g, c, sg) (nI i) (nI (p / 4)) (nI (p % 4)) (nI j) := by
  have hk : p % 4 < 4 := Nat.mod_lt _ (by decide)
  have e3 : 3 - nI j = nI (3 - j) := pk_sub (a := 3) (by omega)
  have j3 : 3 - j < 4 := by omega
  unfold wpY_seen wY_seen_10 wY_seen_19
  dsimp only
  unfold sk_cell at h
  rcases sk_side hp with ⟨e, e2⟩ | ⟨e, e2⟩ | ⟨e, e2⟩ | ⟨e, e2⟩
  · rw [if_pos (by omega)] at h
    rw [e]
    refine br_f (by decide) (br_f (by decide) (br_f (by decide) ?_))
    exact yl_at ho hq hi hk hj rfl rfl rfl (by rw [show p % 4 * 4 + j = p * 4 + j by omega]; exact h)
  · rw [if_neg (by omega), if_pos (by omega)] at h
    rw [e]
    refine br_t (by decide) (br_f (by decide) ?_)
    exact yl_at ho hq hi hk j3 rfl rfl e3 (by rw [show p % 4 * 4 + (3 - j) = (p - 4) * 4 + 3 - j by omega]; exact h)
  · rw [if_neg (by omega), if_neg (by omega), if_pos (by omega)] at h
    rw [e]
    refine br_f (by decide) (br_f (by decide) (br_t (by decide) ?_))
    exact yl_at ho hq hi hj hk rfl rfl rfl (by rw [show j * 4 + p % 4 = j * 4 + (p - 8) by omega]; exact h)
  · rw [if_neg (by omega), if_neg (by omega), if_neg (by omega)] at h
    rw [e]
    refine br_f (by decide) (br_t (by decide) (br_t (by decide) ?_))
    exact yl_at ho hq hi j3 hk rfl e3 rfl (by rw [show (3 - j) * 4 + p % 4 = 12 + (p - 12) - j * 4 by omega]; exact h)
theorem yl_vis {post : Int32 → Prop} {li kn : Int32} {od sq ft g c sg : Nat → Int32} (ho : ∀ j, j < 96 → od j = nI (sk_d j)) (hq : ∀ i, i < 576 → sq i = nI (sk_q i)) {i p : Nat} (hi : i < 576) (hp : p < 16) {a b : Int32} (ha : a = nI (p / 4)) (hb : b = nI (p % 4)) (h : post (sk_vis i p)) : wpY_visible post (li, kn, od, sq, ft, g, c, sg) (nI i) a b := by
  subst ha hb
  refine loop_0 (σ := Unit) (fun n k _ => wY_visible_9 post (nI i) (nI (p / 4)) (nI (p % 4)) li kn od sq ft g c sg n (sk_vs (fun j => nI (sk_H i (sk_cell p j))) k).2 (sk_vs (fun j => nI (sk_H i (sk_cell p j))) k).1 (nI k)) (fun _ _ => True) 4 () trivial ?_ ?_
  · intro n s _
    exact br_t (nI_le (a := 4) (b := 4) (Nat.le_refl _) (by decide)) h
  · intro n k s hk _ ih
    have ih' : wY_visible_9 post (nI i) (nI (p / 4)) (nI (p % 4)) li kn od sq ft g c sg n (sk_vs (fun j => nI (sk_H i (sk_cell p j))) (k + 1)).2 (sk_vs (fun j => nI (sk_H i (sk_cell p j))) (k + 1)).1 (nI (k + 1)) := ih () trivial
    show wY_visible_9 post (nI i) (nI (p / 4)) (nI (p % 4)) li kn od sq ft g c sg (n + 1) (sk_vs (fun j => nI (sk_H i (sk_cell p j))) k).2 (sk_vs (fun j => nI (sk_H i (sk_cell p j))) k).1 (nI k)
    refine br_f (nI_ge (b := 4) hk (by decide)) ?_
    refine yl_seen ho hq hi hp hk ?_
    refine br_c (fun z => ?_) (fun z => ?_)
    · have e : sk_vs (fun j => nI (sk_H i (sk_cell p j))) (k + 1) = sk_vs (fun j => nI (sk_H i (sk_cell p j))) k := if_pos z
      rw [e] at ih'
      exact nm_r (nI_1 k) ih'
    · have e : sk_vs (fun j => nI (sk_H i (sk_cell p j))) (k + 1) = (nI (sk_H i (sk_cell p k)), (sk_vs (fun j => nI (sk_H i (sk_cell p j))) k).2 + 1) := if_neg z
      rw [e] at ih'
      exact nm_e (nm_r (nI_1 k) ih')
theorem yl_sgR {post : Int32 → Prop} {li kn : Int32} {od sq ft g c sg : Nat → Int32} (ho : ∀ j, j < 96 → od j = nI (sk_d j)) (hq : ∀ i, i < 576 → sq i = nI (sk_q i)) {i k : Nat} (hi : i < 576) (hk : k < 16) {s : Int32} (hs : sg k = s) (hm : s = 0 ∨ k % 4 < 3) (h1 : sk_Sg s (sk_H i k) (sk_H i (k + 1)) → post 1) (h0 : ¬ sk_Sg s (sk_H i k) (sk_H i (k + 1)) → post 0) : wpY_signHolds post (li, kn, od, sq, ft, g, c, sg) (nI i) (nI (k / 4)) (nI (k % 4)) (nI k) := by
  unfold wpY_signHolds wY_signHolds_53
  dsimp only
  refine ⟨vp_in_nI (N := 32) (by omega) (by decide), ?_⟩
  rw [nI_clamp (by omega), hs]
  refine nm_e (br_c (fun z => h1 (Or.inl z)) (fun z => ?_))
  have hm' := hm.resolve_left z
  refine yl_at ho hq hi (show k / 4 < 4 by omega) (show k % 4 < 4 by omega) rfl rfl rfl ?_
  rw [show k / 4 * 4 + k % 4 = k by omega]
  refine br_t (nI_lt (b := 16) hk (by decide)) ?_
  refine yl_at ho hq hi (show k / 4 < 4 by omega) (show k % 4 + 1 < 4 by omega) rfl rfl (nI_1 _) ?_
  rw [show k / 4 * 4 + (k % 4 + 1) = k + 1 by omega]
  exact sk_sgl z h1 h0
theorem yl_sgD {post : Int32 → Prop} {li kn : Int32} {od sq ft g c sg : Nat → Int32} (ho : ∀ j, j < 96 → od j = nI (sk_d j)) (hq : ∀ i, i < 576 → sq i = nI (sk_q i)) {i k : Nat} (hi : i < 576) (hk : k < 16) {s : Int32} (hs : sg (k + 16) = s) (hm : s = 0 ∨ k < 12) (h1 : sk_Sg s (sk_H i k) (sk_H i (k + 4)) → post 1) (h0 : ¬ sk_Sg s (sk_H i k) (sk_H i (k + 4)) → post 0) : wpY_signHolds post (li, kn, od, sq, ft, g, c, sg) (nI i) (nI (k / 4)) (nI (k % 4)) (nI k + 16) := by
  have e16 : nI k + 16 = nI (k + 16) := nI_add k 16
  rw [e16]
  unfold wpY_signHolds wY_signHolds_53
  dsimp only
  refine ⟨vp_in_nI (N := 32) (by omega) (by decide), ?_⟩
  rw [nI_clamp (by omega), hs]
  refine nm_e (br_c (fun z => h1 (Or.inl z)) (fun z => ?_))
  have hm' := hm.resolve_left z
  refine yl_at ho hq hi (show k / 4 < 4 by omega) (show k % 4 < 4 by omega) rfl rfl rfl ?_
  rw [show k / 4 * 4 + k % 4 = k by omega]
  refine br_f (nI_nlt (b := 16) (by omega) (by omega)) ?_
  refine yl_at ho hq hi (show k / 4 + 1 < 4 by omega) (show k % 4 < 4 by omega) rfl (nI_1 _) rfl ?_
  rw [show (k / 4 + 1) * 4 + k % 4 = k + 4 by omega]
  exact sk_sgl z h1 h0
theorem yl_holds {post : Int32 → Prop} {li kn : Int32} {od sq ft g c sg r d : Nat → Int32} (ho : ∀ j, j < 96 → od j = nI (sk_d j)) (hq : ∀ i, i < 576 → sq i = nI (sk_q i)) (hE : sk_E r d sg) {i : Nat} (hi : i < 576) (h1 : sk_S g c r d i = true → post 1) (h0 : sk_S g c r d i = false → post 0) : wpY_holds post (li, kn, od, sq, ft, g, c, sg) (nI i) := by
  refine loop_0 (σ := Unit) (fun n k _ => wY_holds_2 post (nI i) li kn od sq ft g c sg n (nI k)) (fun k _ => ∀ j, j < k → sk_GO g i j ∧ sk_CO c i j ∧ sk_RO r i j ∧ sk_DO d i j) 16 () lt_0 ?_ ?_
  · intro n s I
    exact br_t (nI_le (a := 16) (b := 16) (Nat.le_refl _) (by decide)) (h1 (sk_S_t I))
  · intro n k s hk I ih
    have hv : vp_in (nI k) 16 := vp_in_nI hk (by decide)
    have ec : (nI k).toNatClampNeg = k := nI_clamp (by omega)
    have nx : sk_GO g i k ∧ sk_CO c i k ∧ sk_RO r i k ∧ sk_DO d i k → ∀ y, y = nI k + 1 → wY_holds_2 post (nI i) li kn od sq ft g c sg n y := fun hg => nm_r (nI_1 k) (ih () (lt_s I hg))
    have ed : nI k / 4 = nI (k / 4) := pk_div (d := 4) (by omega) (by decide) (by decide)
    have em : nI k - nI k / 4 * 4 = nI (k % 4) := pk_rem (d := 4) (by omega) (by decide) (by decide)
    obtain ⟨er, ed', zr, zd⟩ := hE k hk
    have m1 : r k = 0 ∨ k % 4 < 3 := by
      by_cases z : k % 4 = 3
      · exact Or.inl (zr z)
      · exact Or.inr (by omega)
    have m4 : d k = 0 ∨ k < 12 := by
      by_cases z : 12 ≤ k
      · exact Or.inl (zd z)
      · exact Or.inr (by omega)
    have k73 : sk_GO g i k → sk_CO c i k → wY_holds_73 post (wY_holds_2 post (nI i) li kn od sq ft g c sg n) (nI i) (nI k) (nI (k / 4)) (nI (k % 4)) li kn od sq ft g c sg := by
      intro a b
      unfold wY_holds_73
      refine yl_sgR ho hq hi hk er m1 (fun p => br_f (by decide) ?_) (fun p => br_t rfl (h0 (sk_S_f (fun z => p (z k hk).2.2.1))))
      exact yl_sgD ho hq hi hk ed' m4 (fun q => br_f (by decide) (nx ⟨a, b, p, q⟩)) (fun q => br_t rfl (h0 (sk_S_f (fun z => q (z k hk).2.2.2))))
    have k45 : sk_GO g i k → wY_holds_45 post (wY_holds_2 post (nI i) li kn od sq ft g c sg n) (nI i) (nI k) (nI (k / 4)) (nI (k % 4)) li kn od sq ft g c sg := by
      intro a
      unfold wY_holds_45
      rw [ec]
      refine ⟨hv, br_c (fun z => k73 a (Or.inl z)) (fun z => ?_)⟩
      refine yl_vis ho hq hi hk rfl rfl ⟨hv, ?_⟩
      exact br_c (fun e => k73 a (Or.inr e.symm)) (fun e => h0 (sk_S_f (fun y => (y k hk).2.1.elim z (fun w => e w.symm))))
    show wY_holds_2 post (nI i) li kn od sq ft g c sg (n + 1) (nI k)
    refine br_f (nI_ge (b := 16) hk (by decide)) ⟨by decide, nm_r ed ⟨by decide, nm_r em ⟨hv, ?_⟩⟩⟩
    rw [ec]
    refine br_c (fun z => k45 (Or.inl z)) (fun z => ?_)
    refine yl_at ho hq hi (show k / 4 < 4 by omega) (show k % 4 < 4 by omega) rfl rfl rfl ⟨hv, ?_⟩
    rw [show k / 4 * 4 + k % 4 = k by omega]
    exact br_c (fun e => k45 (Or.inr e.symm)) (fun e => h0 (sk_S_f (fun y => (y k hk).1.elim z (fun w => e w.symm))))
theorem sk_nb1 : vp_nar .boolean 1 = 1 := rfl
theorem sk_nb0 : vp_nar .boolean 0 = 0 := rfl
theorem yl_test {post : SY → Prop} {li kn : Int32} {od sq ft g c sg r d : Nat → Int32} (ho : ∀ j, j < 96 → od j = nI (sk_d j)) (hq : ∀ i, i < 576 → sq i = nI (sk_q i)) (hE : sk_E r d sg) (hK : sk_K kn ft g c r d) (h : ∀ ft' : Nat → Int32, (∀ i, i < 576 → ft' i = sk_b (sk_S g c r d i)) → post (li, 1, od, sq, ft', g, c, sg)) : wpY_test post (li, kn, od, sq, ft, g, c, sg) := by
  unfold wpY_test
  dsimp only
  rcases hK with rfl | ⟨rfl, hf⟩
  · refine br_t rfl ?_
    refine loop_0 (σ := Nat → Int32) (fun n k s => wY_test_10 post li 0 n (nI k) od sq s g c sg) (fun k s => ∀ j, j < k → s j = sk_b (sk_S g c r d j)) 576 ft lt_0 ?_ ?_
    · intro n s I
      exact br_t (nI_le (a := 576) (b := 576) (Nat.le_refl _) (by decide)) (h s I)
    · intro n k s hk I ih
      have hv : vp_in (nI k) 576 := vp_in_nI hk (by decide)
      have ec : (nI k).toNatClampNeg = k := nI_clamp (by omega)
      have nx : ∀ x, x = sk_b (sk_S g c r d k) → wY_test_10 post li 0 n (nI (k + 1)) od sq (upd s k x) g c sg := by
        intro x ex
        refine ih (upd s k x) ?_
        intro j hj
        by_cases e : j = k
        · rw [e, pk_us, ex]
        · rw [pk_un e]
          exact I j (by omega)
      show wY_test_10 post li 0 (n + 1) (nI k) od sq s g c sg
      refine br_f (nI_ge (b := 576) hk (by decide)) ?_
      refine yl_holds ho hq hE hk (fun z => ⟨hv, ?_⟩) (fun z => ⟨hv, ?_⟩)
      · rw [ec, sk_nb1]
        refine nm_e (nm_r (nI_1 k) (nx 1 ?_))
        rw [z]
        rfl
      · rw [ec, sk_nb0]
        refine nm_e (nm_r (nI_1 k) (nx 0 ?_))
        rw [z]
        rfl
  · exact br_f (by decide) (h ft hf)
