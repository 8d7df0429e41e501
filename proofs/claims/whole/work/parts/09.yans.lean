/-! Y's answers -/
def sk_Y (od sq r d sg : Nat → Int32) : Prop := (∀ j, j < 96 → od j = nI (sk_d j)) ∧ (∀ i, i < 576 → sq i = nI (sk_q i)) ∧ sk_E r d sg
theorem sk_fitT {ft g c r d : Nat → Int32} (hf : ∀ i, i < 576 → ft i = sk_b (sk_S g c r d i)) {i : Nat} (hi : i < 576) {A B : Prop} (a : sk_S g c r d i = false → A) (b : sk_S g c r d i = true → B) : (ft (nI i).toNatClampNeg = 0 → A) ∧ (¬ ft (nI i).toNatClampNeg = 0 → B) := by
  rw [nI_clamp (by omega), hf i hi]
  cases e : sk_S g c r d i
  · exact br_t rfl (a e)
  · exact br_f (by decide) (b e)
theorem ya_solutions {post : Int32 → SY → Prop} {li kn : Int32} {od sq ft g c sg r d : Nat → Int32} (hY : sk_Y od sq r d sg) (hK : sk_K kn ft g c r d) (h : ∀ ft' : Nat → Int32, (∀ i, i < 576 → ft' i = sk_b (sk_S g c r d i)) → post (nI (sk_cn (sk_S g c r d) 576)) (li, 1, od, sq, ft', g, c, sg)) : wpY_solutions post (li, kn, od, sq, ft, g, c, sg) := by
  unfold wpY_solutions
  dsimp only
  refine yl_test hY.1 hY.2.1 hY.2.2 hK (fun ft' hf => ?_)
  have hp := h ft' hf
  refine loop_0 (σ := Unit) (fun n k _ => wY_solutions_8 post li 1 od sq ft' g c sg n (nI (sk_cn (sk_S g c r d) k)) (nI k)) (fun _ _ => True) 576 () trivial ?_ ?_
  · intro n s _
    exact br_t (nI_le (a := 576) (b := 576) (Nat.le_refl _) (by decide)) hp
  · intro n k s hk _ ih
    have ih' : wY_solutions_8 post li 1 od sq ft' g c sg n (nI (sk_cn (sk_S g c r d) (k + 1))) (nI (k + 1)) := ih () trivial
    show wY_solutions_8 post li 1 od sq ft' g c sg (n + 1) (nI (sk_cn (sk_S g c r d) k)) (nI k)
    refine br_f (nI_ge (b := 576) hk (by decide)) ⟨vp_in_nI hk (by decide), sk_fitT hf hk (fun z => ?_) (fun z => ?_)⟩
    · rw [sk_cn_f z] at ih'
      exact nm_r (nI_1 k) ih'
    · rw [sk_cn_t z] at ih'
      exact nm_r (nI_1 _) (nm_r (nI_1 k) ih')
theorem ya_possible {post : Int32 → SY → Prop} {li kn : Int32} {od sq ft g c sg r d : Nat → Int32} (hY : sk_Y od sq r d sg) (hf : ∀ i, i < 576 → ft i = sk_b (sk_S g c r d i)) {a b : Nat} (ha : a < 4) (hb : b < 4) (h : post (sk_mk (sk_S g c r d) (a * 4 + b) 576) (li, kn, od, sq, ft, g, c, sg)) : ∃ n, wY_possible_20 post (nI a) (nI b) li kn od sq ft g c sg n 0 0 := by
  refine loop_0 (σ := Unit) (fun n k _ => wY_possible_20 post (nI a) (nI b) li kn od sq ft g c sg n (sk_mk (sk_S g c r d) (a * 4 + b) k) (nI k)) (fun _ _ => True) 576 () trivial ?_ ?_
  · intro n s _
    exact br_t (nI_le (a := 576) (b := 576) (Nat.le_refl _) (by decide)) h
  · intro n k s hk _ ih
    have ih' : wY_possible_20 post (nI a) (nI b) li kn od sq ft g c sg n (sk_mk (sk_S g c r d) (a * 4 + b) (k + 1)) (nI (k + 1)) := ih () trivial
    show wY_possible_20 post (nI a) (nI b) li kn od sq ft g c sg (n + 1) (sk_mk (sk_S g c r d) (a * 4 + b) k) (nI k)
    refine br_f (nI_ge (b := 576) hk (by decide)) ⟨vp_in_nI hk (by decide), sk_fitT hf hk (fun z => ?_) (fun z => ?_)⟩
    · rw [sk_mk0 z] at ih'
      exact nm_r (nI_1 k) ih'
    · rw [sk_mk1 z] at ih'
      exact yl_at hY.1 hY.2.1 hk ha hb rfl rfl rfl (nm_e (nm_r (nI_1 k) ih'))
theorem ya_height {post : Int32 → SY → Prop} {li kn : Int32} {od sq ft g c sg r d : Nat → Int32} (hY : sk_Y od sq r d sg) (hf : ∀ i, i < 576 → ft i = sk_b (sk_S g c r d i)) {a b : Nat} (ha : a < 4) (hb : b < 4) (x : Int32) : ∀ e i k, i + e = 576 → post (sk_ht (sk_S g c r d) (a * 4 + b) x e i k) (li, kn, od, sq, ft, g, c, sg) → wY_height_21 post x (nI a) (nI b) li kn od sq ft g c sg (e + 1) (nI k) (nI i)
  | 0, i, k, hi, h => by
    have e : i = 576 := by omega
    subst e
    exact br_t (nI_le (a := 576) (b := 576) (Nat.le_refl _) (by decide)) h
  | e + 1, i, k, hi, h => by
    have hk : i < 576 := by omega
    refine br_f (nI_ge (b := 576) hk (by decide)) ⟨vp_in_nI hk (by decide), sk_fitT hf hk (fun z => nm_r (nI_1 i) ?_) (fun z => ?_)⟩
    · rw [sk_ht3 z] at h
      exact ya_height hY hf ha hb x e (i + 1) k (by omega) h
    · refine br_c (fun y => ?_) (fun y => nm_r (nI_1 k) (nm_r (nI_1 i) ?_))
      · rw [sk_ht1 z y] at h
        exact yl_at hY.1 hY.2.1 hk ha hb rfl rfl rfl h
      · rw [sk_ht2 z y] at h
        exact ya_height hY hf ha hb x e (i + 1) (k + 1) (by omega) h
theorem ya_votes {post : Int32 → SY → Prop} {li kn : Int32} {od sq ft g c sg r d : Nat → Int32} (hY : sk_Y od sq r d sg) (hf : ∀ i, i < 576 → ft i = sk_b (sk_S g c r d i)) {a b : Nat} (ha : a < 4) (hb : b < 4) (x : Int32) (h : post (nI (sk_cn (sk_vo (sk_S g c r d) (a * 4 + b) x) 576)) (li, kn, od, sq, ft, g, c, sg)) : ∃ n, wY_votes_34 post (nI a) (nI b) x li kn od sq ft g c sg n 0 0 := by
  refine loop_0 (σ := Unit) (fun n k _ => wY_votes_34 post (nI a) (nI b) x li kn od sq ft g c sg n (nI (sk_cn (sk_vo (sk_S g c r d) (a * 4 + b) x) k)) (nI k)) (fun _ _ => True) 576 () trivial ?_ ?_
  · intro n s _
    exact br_t (nI_le (a := 576) (b := 576) (Nat.le_refl _) (by decide)) h
  · intro n k s hk _ ih
    have ih' : wY_votes_34 post (nI a) (nI b) x li kn od sq ft g c sg n (nI (sk_cn (sk_vo (sk_S g c r d) (a * 4 + b) x) (k + 1))) (nI (k + 1)) := ih () trivial
    show wY_votes_34 post (nI a) (nI b) x li kn od sq ft g c sg (n + 1) (nI (sk_cn (sk_vo (sk_S g c r d) (a * 4 + b) x) k)) (nI k)
    refine br_f (nI_ge (b := 576) hk (by decide)) ⟨vp_in_nI hk (by decide), sk_fitT hf hk (fun z => ?_) (fun z => ?_)⟩
    · rw [sk_cn_f (sk_vo3 z)] at ih'
      exact nm_r (nI_1 k) ih'
    · refine yl_at hY.1 hY.2.1 hk ha hb rfl rfl rfl ?_
      refine br_c (fun y => ?_) (fun y => ?_)
      · rw [sk_cn_t (sk_vo1 z y)] at ih'
        exact nm_r (nI_1 _) (nm_r (nI_1 k) ih')
      · rw [sk_cn_f (sk_vo2 y)] at ih'
        exact nm_r (nI_1 k) ih'
theorem sk_cl4 {a b : Nat} (ha : a < 4) (hb : b < 4) : sk_cl (nI a) (nI b) := by
  unfold sk_cl
  rw [sk_nI4 ha, sk_nI4 hb]
  omega
/-- votes, whole, of a cell and a height that are allowed -/
theorem ya_vote {post : Int32 → SY → Prop} {li kn : Int32} {od sq ft g c sg r d : Nat → Int32} (hY : sk_Y od sq r d sg) (hK : sk_K kn ft g c r d) {a b m : Nat} (ha : a < 4) (hb : b < 4) (hm : m < 4) {x y w : Int32} (hx : x = nI a) (hy : y = nI b) (hw : w = nI (m + 1)) (h : ∀ ft' : Nat → Int32, (∀ i, i < 576 → ft' i = sk_b (sk_S g c r d i)) → post (nI (sk_cn (sk_vo (sk_S g c r d) (a * 4 + b) (nI (m + 1))) 576)) (li, 1, od, sq, ft', g, c, sg)) : wpY_votes post (li, kn, od, sq, ft, g, c, sg) x y w := by
  subst hx hy hw
  unfold wpY_votes
  dsimp only
  refine yl_bad (fun _ => br_t rfl ?_) (fun z => absurd (sk_cl4 ha hb) z)
  refine br_f (nI_nlt (b := 1) (by omega) (by omega)) (br_t (nI_le (b := 4) (by omega) (by decide)) ?_)
  refine yl_test hY.1 hY.2.1 hY.2.2 hK (fun ft' hf => ?_)
  exact ya_votes hY hf ha hb _ (h ft' hf)
theorem sk_fx1 {P : Nat → Bool} {k : Nat} (h0 : 0 < sk_cn P 576) (e : sk_cn (sk_vo P (k / 4) (nI (k % 4 + 1))) 576 = sk_cn P 576) : sk_fx P k = true := by
  unfold sk_fx
  rw [decide_eq_true h0, decide_eq_true e]
  rfl
theorem sk_fx2 {P : Nat → Bool} {k : Nat} (e : ¬ sk_cn (sk_vo P (k / 4) (nI (k % 4 + 1))) 576 = sk_cn P 576) : sk_fx P k = false := by
  unfold sk_fx
  rw [decide_eq_false e, Bool.and_false]
theorem sk_fx0 {P : Nat → Bool} {k : Nat} (h0 : ¬ 0 < sk_cn P 576) : sk_fx P k = false := by
  unfold sk_fx
  rw [decide_eq_false h0, Bool.false_and]
theorem ya_fixed {post : Int32 → SY → Prop} {li kn : Int32} {od sq ft g c sg r d : Nat → Int32} (hY : sk_Y od sq r d sg) (hK : sk_K kn ft g c r d) (h : ∀ ft' : Nat → Int32, (∀ i, i < 576 → ft' i = sk_b (sk_S g c r d i)) → post (nI (sk_fc (sk_S g c r d))) (li, 1, od, sq, ft', g, c, sg)) : wpY_fixedCells post (li, kn, od, sq, ft, g, c, sg) := by
  unfold wpY_fixedCells
  dsimp only
  refine ya_solutions hY hK (fun ft1 hf1 => ?_)
  refine loop_0 (σ := Nat → Int32) (fun n k s => wY_fixedCells_9 post (nI (sk_cn (sk_S g c r d) 576)) n (nI (sk_cn (sk_fx (sk_S g c r d)) k)) (nI k) li 1 od sq s g c sg) (fun _ s => ∀ i, i < 576 → s i = sk_b (sk_S g c r d i)) 64 ft1 hf1 ?_ ?_
  · intro n s I
    exact br_t (nI_le (a := 64) (b := 64) (Nat.le_refl _) (by decide)) (h s I)
  · intro n k s hk I ih
    have hall := sk_cn_le (sk_S g c r d) 576
    have nx : ∀ s', (∀ i, i < 576 → s' i = sk_b (sk_S g c r d i)) → wY_fixedCells_9 post (nI (sk_cn (sk_S g c r d) 576)) n (nI (sk_cn (sk_fx (sk_S g c r d)) (k + 1))) (nI (k + 1)) li 1 od sq s' g c sg := ih
    show wY_fixedCells_9 post (nI (sk_cn (sk_S g c r d) 576)) (n + 1) (nI (sk_cn (sk_fx (sk_S g c r d)) k)) (nI k) li 1 od sq s g c sg
    refine br_f (nI_ge (b := 64) hk (by decide)) ?_
    by_cases h0 : 0 < sk_cn (sk_S g c r d) 576
    · refine br_f (nI_nle h0 (by omega)) ⟨by decide, by decide, by decide, by decide, ?_⟩
      have e16 : nI k / 16 = nI (k / 16) := pk_div (d := 16) (by omega) (by decide) (by decide)
      have e4 : nI k / 4 = nI (k / 4) := pk_div (d := 4) (by omega) (by decide) (by decide)
      have em : nI (k / 4) - nI (k / 4) / 4 * 4 = nI (k / 4 % 4) := pk_rem (d := 4) (by omega) (by decide) (by decide)
      have eh : nI k - nI k / 4 * 4 = nI (k % 4) := pk_rem (d := 4) (by omega) (by decide) (by decide)
      refine ya_vote hY (Or.inr ⟨rfl, I⟩) (a := k / 16) (b := k / 4 % 4) (m := k % 4) (by omega) (by omega) (by omega) e16 (by rw [e4, em]) (by rw [eh, nI_1]) (fun s' hs => ?_)
      rw [show k / 16 * 4 + k / 4 % 4 = k / 4 by omega]
      have hv := sk_cn_le (sk_vo (sk_S g c r d) (k / 4) (nI (k % 4 + 1))) 576
      have n1 := nx s' hs
      refine br_c (fun y => ?_) (fun y => ?_)
      · rw [sk_cn_t (sk_fx1 h0 ((nI_eq (by omega) (by omega)).mp y))] at n1
        exact nm_r (nI_1 _) (nm_r (nI_1 k) n1)
      · rw [sk_cn_f (sk_fx2 (fun w => y (congrArg nI w)))] at n1
        exact nm_r (nI_1 k) n1
    · have n1 := nx s I
      rw [sk_cn_f (sk_fx0 h0)] at n1
      have ez : sk_cn (sk_S g c r d) 576 = 0 := by omega
      refine br_t ?_ (nm_r (nI_1 k) n1)
      rw [ez]
      decide
