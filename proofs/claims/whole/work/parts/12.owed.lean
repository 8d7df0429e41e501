/-! the relation and what is owed -/
def i_Rel (k : Nat) (u : SX) (v : SY) : Prop := ∃ (g c r d l G : Nat → Int32) (li kn : Int32) (od sq ft sg : Nat → Int32), u = (g, c, r, d, l, G) ∧ v = (li, kn, od, sq, ft, g, c, sg) ∧ sk_X r d G ∧ sk_Y od sq r d sg ∧ sk_K kn ft g c r d
theorem i_up {k : Nat} {u : SX} {v : SY} (h : i_Rel k u v) : i_Rel (k + 5) u v := h
theorem i_vc0 : wpX_init (fun u => wpY_init (fun v => i_Rel 0 u v)) := by
  refine xl_init (fun l G hG => ?_)
  refine yl_init (fun od sq ho hq => ?_)
  refine ⟨fun _ => 0, fun _ => 0, fun _ => 0, fun _ => 0, l, G, nI sk_R.length, 0, od, sq, fun _ => 0, fun _ => 0, rfl, rfl, ⟨fun i hi => ?_, fun _ _ _ => rfl, fun _ _ _ => rfl⟩, ⟨ho, fun i hi => ?_, fun _ _ => ⟨rfl, rfl, fun _ => rfl, fun _ => rfl⟩⟩, Or.inl rfl⟩
  · exact hG i (by rw [sk_lR]; exact hi)
  · exact hq i (by rw [sk_lR]; exact hi)
theorem sk_ix {a b : Nat} : nI a * 4 + nI b = nI (a * 4 + b) := by
  show nI a * nI 4 + nI b = _
  rw [pk_mul, nI_add]
theorem i_vc_given {k : Nat} {u : SX} {v : SY} (I : i_Rel k u v) (hk : k + 5 ≤ 2560) (v1 : Int32) (v2 : Int32) (v3 : Int32) : wpX_given (fun r u' => wpY_given (fun r' v' => r' = r ∧ i_Rel (k + 5) u' v') v v1 v2 v3) u v1 v2 v3 := by
  obtain ⟨g, c, r, d, l, G, li, kn, od, sq, ft, sg, rfl, rfl, hX, hY, hK⟩ := I
  have same : i_Rel (k + 5) (g, c, r, d, l, G) (li, kn, od, sq, ft, g, c, sg) := ⟨g, c, r, d, l, G, li, kn, od, sq, ft, sg, rfl, rfl, hX, hY, hK⟩
  unfold wpX_given wpY_given
  dsimp only
  refine xl_isCell (fun z => br_f (by decide) ?_) (fun z => br_t rfl ?_)
  · refine br_c (fun a => ?_) (fun a => br_c (fun b => ?_) (fun b => ?_))
    · exact yl_bad (fun _ => br_t rfl (br_t a ⟨rfl, same⟩)) (fun w => absurd z w)
    · obtain ⟨x, y, hx, hy, rfl, rfl⟩ := sk_cl_of z
      have hm : x * 4 + y < 16 := by omega
      have hv : vp_in (nI (x * 4 + y)) 16 := vp_in_nI hm (by decide)
      have ec : (nI (x * 4 + y)).toNatClampNeg = x * 4 + y := nI_clamp (by omega)
      rw [sk_ix]
      refine nm_e ?_
      rw [ec]
      refine ⟨hv, nm_e ⟨hv, nm_e ?_⟩⟩
      refine yl_bad (fun _ => br_t rfl (br_f a (br_t b ?_))) (fun w => absurd z w)
      exact ⟨hv, nm_e ⟨hv, nm_e ⟨rfl, upd g (x * 4 + y) v3, c, r, d, l, G, li, 0, od, sq, ft, sg, rfl, rfl, hX, hY, Or.inl rfl⟩⟩⟩
    · exact yl_bad (fun _ => br_t rfl (br_f a (br_f b ⟨rfl, same⟩))) (fun w => absurd z w)
  · exact yl_bad (fun w => absurd w z) (fun _ => br_f (by decide) ⟨rfl, same⟩)
theorem i_vc_clue {k : Nat} {u : SX} {v : SY} (I : i_Rel k u v) (hk : k + 5 ≤ 2560) (v1 : Int32) (v2 : Int32) (v3 : Int32) : wpX_clue (fun r u' => wpY_clue (fun r' v' => r' = r ∧ i_Rel (k + 5) u' v') v v1 v2 v3) u v1 v2 v3 := by
  obtain ⟨g, c, r, d, l, G, li, kn, od, sq, ft, sg, rfl, rfl, hX, hY, hK⟩ := I
  have same : i_Rel (k + 5) (g, c, r, d, l, G) (li, kn, od, sq, ft, g, c, sg) := ⟨g, c, r, d, l, G, li, kn, od, sq, ft, sg, rfl, rfl, hX, hY, hK⟩
  unfold wpX_clue wpY_clue
  dsimp only
  refine br_c (fun p => br_t p ⟨rfl, same⟩) (fun p => br_c (fun q => br_f p (br_t q ⟨rfl, same⟩)) (fun q => br_c (fun s => br_f p (br_f q (br_t s ⟨rfl, same⟩))) (fun s => ?_)))
  have e : v2 ≤ 3 ↔ v2 < 4 := by
    rw [Int32.le_iff_toInt_le, Int32.lt_iff_toInt_lt, sk_t3, sk_t4]
    omega
  refine br_c (fun t => ?_) (fun t => br_f p (br_f q (br_f s (br_f (fun w => t (e.mp w)) ⟨rfl, same⟩))))
  have z : sk_cl v1 v2 := by
    rw [Int32.lt_iff_toInt_lt] at p q s t
    rw [sk_t0] at p s
    rw [sk_t3] at q
    rw [sk_t4] at t
    unfold sk_cl
    omega
  refine br_c (fun a => ?_) (fun a => br_c (fun b => ?_) (fun b => ?_))
  · exact br_f p (br_f q (br_f s (br_t (e.mpr t) (br_t a ⟨rfl, same⟩))))
  · obtain ⟨x, y, hx, hy, rfl, rfl⟩ := sk_cl_of z
    have hm : x * 4 + y < 16 := by omega
    have hv : vp_in (nI (x * 4 + y)) 16 := vp_in_nI hm (by decide)
    have ec : (nI (x * 4 + y)).toNatClampNeg = x * 4 + y := nI_clamp (by omega)
    rw [sk_ix]
    refine nm_e ?_
    rw [ec]
    refine ⟨hv, nm_e ⟨hv, nm_e ?_⟩⟩
    refine br_f p (br_f q (br_f s (br_t (e.mpr t) (br_f a (br_t b ?_)))))
    exact ⟨hv, nm_e ⟨hv, nm_e ⟨rfl, g, upd c (x * 4 + y) v3, r, d, l, G, li, 0, od, sq, ft, sg, rfl, rfl, hX, hY, Or.inl rfl⟩⟩⟩
  · exact br_f p (br_f q (br_f s (br_t (e.mpr t) (br_f a (br_f b ⟨rfl, same⟩)))))
theorem sk_X_r {r d G : Nat → Int32} (h : sk_X r d G) {m : Nat} (h3 : m % 4 ≠ 3) (x : Int32) : sk_X (upd r m x) d G := by
  refine ⟨h.1, fun k hk e => ?_, h.2.2⟩
  rw [pk_un (show k ≠ m by omega)]
  exact h.2.1 k hk e
theorem sk_X_d {r d G : Nat → Int32} (h : sk_X r d G) {m : Nat} (h3 : m < 12) (x : Int32) : sk_X r (upd d m x) G := by
  refine ⟨h.1, h.2.1, fun k hk e => ?_⟩
  rw [pk_un (show k ≠ m by omega)]
  exact h.2.2 k hk e
theorem sk_E_r {r d sg : Nat → Int32} (h : sk_E r d sg) {m : Nat} (hm : m < 16) (h3 : m % 4 ≠ 3) (x : Int32) : sk_E (upd r m x) d (upd sg m x) := by
  intro c hc
  obtain ⟨a, b, e, f⟩ := h c hc
  refine ⟨?_, ?_, fun w => ?_, f⟩
  · by_cases z : c = m
    · rw [z, pk_us, pk_us]
    · rw [pk_un z, pk_un z]
      exact a
  · rw [pk_un (show c + 16 ≠ m by omega)]
    exact b
  · rw [pk_un (show c ≠ m by omega)]
    exact e w
theorem sk_E_d {r d sg : Nat → Int32} (h : sk_E r d sg) {m : Nat} (h3 : m < 12) (x : Int32) : sk_E r (upd d m x) (upd sg (m + 16) x) := by
  intro c hc
  obtain ⟨a, b, e, f⟩ := h c hc
  refine ⟨?_, ?_, e, fun w => ?_⟩
  · rw [pk_un (show c ≠ m + 16 by omega)]
    exact a
  · by_cases z : c = m
    · rw [z, pk_us, pk_us]
    · rw [pk_un z, pk_un (show c + 16 ≠ m + 16 by omega)]
      exact b
  · rw [pk_un (show c ≠ m by omega)]
    exact f w
theorem i_vc_sign {k : Nat} {u : SX} {v : SY} (I : i_Rel k u v) (hk : k + 5 ≤ 2560) (v1 : Int32) (v2 : Int32) (v3 : Int32) (v4 : Int32) : wpX_sign (fun r u' => wpY_sign (fun r' v' => r' = r ∧ i_Rel (k + 5) u' v') v v1 v2 (lw_bz v3) v4) u v1 v2 (lw_bz v3) v4 := by
  obtain ⟨g, c, r, d, l, G, li, kn, od, sq, ft, sg, rfl, rfl, hX, hY, hK⟩ := I
  have same : i_Rel (k + 5) (g, c, r, d, l, G) (li, kn, od, sq, ft, g, c, sg) := ⟨g, c, r, d, l, G, li, kn, od, sq, ft, sg, rfl, rfl, hX, hY, hK⟩
  generalize lw_bz v3 = w
  unfold wpX_sign wpY_sign wX_sign_61 wY_sign_18 wY_sign_29 wY_sign_58 wpX_hasNeighbour
  dsimp only
  refine xl_isCell (fun z => br_f (by decide) ?_) (fun z => br_t rfl ?_)
  · obtain ⟨x, y, hx, hy, rfl, rfl⟩ := sk_cl_of z
    have hm : x * 4 + y < 16 := by omega
    have hv : vp_in (nI (x * 4 + y)) 16 := vp_in_nI hm (by decide)
    have ec : (nI (x * 4 + y)).toNatClampNeg = x * 4 + y := nI_clamp (by omega)
    obtain ⟨e1, e2, _, _⟩ := hY.2.2 (x * 4 + y) hm
    by_cases hw : w = 0
    · refine br_t hw ?_
      by_cases h3 : y = 3
      · have h3' : nI y = 3 := congrArg nI h3
        refine br_t (by rw [h3']; decide) (br_t rfl ?_)
        exact yl_bad (fun _ => br_t rfl (br_t hw (br_t hw (br_t h3' ⟨rfl, same⟩)))) (fun q => absurd z q)
      · have h3' : ¬ nI y = 3 := fun q => h3 ((nI_eq (b := 3) (by omega) (by decide)).mp q)
        refine br_f (nI_ge (b := 3) (by omega) (by decide)) (br_f (by decide) ?_)
        refine br_c (fun a => ?_) (fun a => br_c (fun b => ?_) (fun b => ?_))
        · exact yl_bad (fun _ => br_t rfl (br_t hw (br_t hw (br_f h3' (br_t a ⟨rfl, same⟩))))) (fun q => absurd z q)
        · rw [sk_ix]
          refine nm_e (br_t hw ⟨hv, br_t hw ⟨hv, ?_⟩⟩)
          rw [ec]
          refine nm_e ?_
          refine yl_bad (fun _ => br_t rfl (br_t hw (br_t hw (br_f h3' (br_f a (br_t b (br_t hw ?_))))))) (fun q => absurd z q)
          refine nm_r (Int32.add_zero _) ⟨vp_in_nI (N := 32) (by omega) (by decide), ?_⟩
          rw [ec]
          exact nm_e ⟨vp_in_nI (N := 32) (by omega) (by decide), nm_e ⟨e1, g, c, upd r (x * 4 + y) v4, d, l, G, li, 0, od, sq, ft, upd sg (x * 4 + y) v4, rfl, rfl, sk_X_r hX (by omega) v4, ⟨hY.1, hY.2.1, sk_E_r hY.2.2 hm (by omega) v4⟩, Or.inl rfl⟩⟩
        · exact yl_bad (fun _ => br_t rfl (br_t hw (br_t hw (br_f h3' (br_f a (br_f b ⟨rfl, same⟩)))))) (fun q => absurd z q)
    · refine br_f hw ?_
      by_cases h3 : x = 3
      · have h3' : nI x = 3 := congrArg nI h3
        refine br_t (by rw [h3']; decide) (br_t rfl ?_)
        exact yl_bad (fun _ => br_t rfl (br_f hw (br_t h3' ⟨rfl, same⟩))) (fun q => absurd z q)
      · have h3' : ¬ nI x = 3 := fun q => h3 ((nI_eq (b := 3) (by omega) (by decide)).mp q)
        refine br_f (nI_ge (b := 3) (by omega) (by decide)) (br_f (by decide) ?_)
        refine br_c (fun a => ?_) (fun a => br_c (fun b => ?_) (fun b => ?_))
        · exact yl_bad (fun _ => br_t rfl (br_f hw (br_f h3' (br_f hw (br_t a ⟨rfl, same⟩))))) (fun q => absurd z q)
        · rw [sk_ix]
          refine nm_e (br_f hw ⟨hv, br_f hw ⟨hv, ?_⟩⟩)
          rw [ec]
          refine nm_e ?_
          have e16 : nI (x * 4 + y) + 16 = nI (x * 4 + y + 16) := nI_add _ 16
          have ec6 : (nI (x * 4 + y + 16)).toNatClampNeg = x * 4 + y + 16 := nI_clamp (by omega)
          refine yl_bad (fun _ => br_t rfl (br_f hw (br_f h3' (br_f hw (br_f a (br_t b (br_f hw ?_))))))) (fun q => absurd z q)
          refine nm_r e16 ⟨vp_in_nI (N := 32) (by omega) (by decide), ?_⟩
          rw [ec6]
          exact nm_e ⟨vp_in_nI (N := 32) (by omega) (by decide), nm_e ⟨e2, g, c, r, upd d (x * 4 + y) v4, l, G, li, 0, od, sq, ft, upd sg (x * 4 + y + 16) v4, rfl, rfl, sk_X_d hX (by omega) v4, ⟨hY.1, hY.2.1, sk_E_d hY.2.2 (by omega) v4⟩, Or.inl rfl⟩⟩
        · exact yl_bad (fun _ => br_t rfl (br_f hw (br_f h3' (br_f hw (br_f a (br_f b ⟨rfl, same⟩)))))) (fun q => absurd z q)
  · exact yl_bad (fun q => absurd q z) (fun _ => br_f (by decide) ⟨rfl, same⟩)
/-! clear -/
def sk_z (i : Nat) (s : Nat → Int32) : Nat → Int32 := upd s i 0
def sk_zz (i : Nat) (s : Nat → Int32) : Nat → Int32 := upd (upd s i 0) (i + 16) 0
theorem sk_z0 (s : Nat → Int32) : ∀ n c, c < n → sk_it sk_z n s c = 0
  | 0, c, h => absurd h (Nat.not_lt_zero c)
  | n + 1, c, h => by
    show upd (sk_it sk_z n s) n 0 c = 0
    by_cases e : c = n
    · rw [e, pk_us]
    · rw [pk_un e]
      exact sk_z0 s n c (by omega)
theorem sk_zz0 (s : Nat → Int32) : ∀ n c, n ≤ 16 → c < n → sk_it sk_zz n s c = 0 ∧ sk_it sk_zz n s (c + 16) = 0
  | 0, c, _, h => absurd h (Nat.not_lt_zero c)
  | n + 1, c, hn, h => by
    show upd (upd (sk_it sk_zz n s) n 0) (n + 16) 0 c = 0 ∧ upd (upd (sk_it sk_zz n s) n 0) (n + 16) 0 (c + 16) = 0
    rw [pk_un (show c ≠ n + 16 by omega)]
    by_cases e : c = n
    · rw [e, pk_us, pk_us]
      exact ⟨rfl, rfl⟩
    · rw [pk_un e, pk_un (show c + 16 ≠ n + 16 by omega), pk_un (show c + 16 ≠ n by omega)]
      exact sk_zz0 s n c (by omega) (by omega)
theorem xa_clear {post : SX → Prop} {g c r d l G : Nat → Int32} (h : post (sk_it sk_z 16 g, sk_it sk_z 16 c, sk_it sk_z 16 r, sk_it sk_z 16 d, l, G)) : wpX_clear post (g, c, r, d, l, G) := by
  refine loop_0 (σ := Unit) (fun n k _ => wX_clear_2 post n (nI k) (sk_it sk_z k g) c (sk_it sk_z k r) (sk_it sk_z k d) l G) (fun _ _ => True) 16 () trivial ?_ ?_
  · intro n s _
    refine br_t (nI_le (a := 16) (b := 16) (Nat.le_refl _) (by decide)) ?_
    refine loop_0 (σ := Unit) (fun n k _ => wX_clear_37 post n (nI k) (sk_it sk_z 16 g) (sk_it sk_z k c) (sk_it sk_z 16 r) (sk_it sk_z 16 d) l G) (fun _ _ => True) 16 () trivial ?_ ?_
    · intro n s _
      exact br_t (nI_le (a := 16) (b := 16) (Nat.le_refl _) (by decide)) h
    · intro n k s hk _ ih
      have hv : vp_in (nI k) 16 := vp_in_nI hk (by decide)
      have ec : (nI k).toNatClampNeg = k := nI_clamp (by omega)
      show wX_clear_37 post (n + 1) (nI k) (sk_it sk_z 16 g) (sk_it sk_z k c) (sk_it sk_z 16 r) (sk_it sk_z 16 d) l G
      refine br_f (nI_ge (b := 16) hk (by decide)) ⟨hv, ?_⟩
      rw [ec]
      exact nm_e (nm_r (nI_1 k) (ih () trivial))
  · intro n k s hk _ ih
    have hv : vp_in (nI k) 16 := vp_in_nI hk (by decide)
    have ec : (nI k).toNatClampNeg = k := nI_clamp (by omega)
    show wX_clear_2 post (n + 1) (nI k) (sk_it sk_z k g) c (sk_it sk_z k r) (sk_it sk_z k d) l G
    refine br_f (nI_ge (b := 16) hk (by decide)) ⟨hv, ?_⟩
    rw [ec]
    exact nm_e ⟨hv, nm_e ⟨hv, nm_e (nm_r (nI_1 k) (ih () trivial))⟩⟩
theorem ya_clear {post : SY → Prop} {li kn : Int32} {od sq ft g c sg : Nat → Int32} (h : post (li, 0, od, sq, ft, sk_it sk_z 16 g, sk_it sk_z 16 c, sk_it sk_zz 16 sg)) : wpY_clear post (li, kn, od, sq, ft, g, c, sg) := by
  refine loop_0 (σ := Unit) (fun n k _ => wY_clear_2 post li kn n (nI k) od sq ft (sk_it sk_z k g) (sk_it sk_z k c) (sk_it sk_zz k sg)) (fun _ _ => True) 16 () trivial ?_ ?_
  · intro n s _
    exact br_t (nI_le (a := 16) (b := 16) (Nat.le_refl _) (by decide)) h
  · intro n k s hk _ ih
    have hv : vp_in (nI k) 16 := vp_in_nI hk (by decide)
    have ec : (nI k).toNatClampNeg = k := nI_clamp (by omega)
    have e16 : nI k + 16 = nI (k + 16) := nI_add k 16
    have ec6 : (nI (k + 16)).toNatClampNeg = k + 16 := nI_clamp (by omega)
    show wY_clear_2 post li kn (n + 1) (nI k) od sq ft (sk_it sk_z k g) (sk_it sk_z k c) (sk_it sk_zz k sg)
    refine br_f (nI_ge (b := 16) hk (by decide)) ⟨hv, ?_⟩
    rw [e16, ec, ec6]
    exact nm_e ⟨hv, nm_e ⟨vp_in_nI (N := 32) (by omega) (by decide), nm_e ⟨vp_in_nI (N := 32) (by omega) (by decide), nm_e (nm_r (nI_1 k) (ih () trivial))⟩⟩⟩
theorem i_vc_clear {k : Nat} {u : SX} {v : SY} (I : i_Rel k u v) (hk : k + 5 ≤ 2560) : wpX_clear (fun u' => wpY_clear (fun v' => i_Rel (k + 5) u' v') v) u := by
  obtain ⟨g, c, r, d, l, G, li, kn, od, sq, ft, sg, rfl, rfl, hX, hY, hK⟩ := I
  refine xa_clear ?_
  refine ya_clear ?_
  refine ⟨sk_it sk_z 16 g, sk_it sk_z 16 c, sk_it sk_z 16 r, sk_it sk_z 16 d, l, G, li, 0, od, sq, ft, sk_it sk_zz 16 sg, rfl, rfl, ⟨hX.1, fun j hj _ => sk_z0 r 16 j hj, fun j hj _ => sk_z0 d 16 j hj⟩, ⟨hY.1, hY.2.1, fun j hj => ?_⟩, Or.inl rfl⟩
  obtain ⟨a, b⟩ := sk_zz0 sg 16 j (Nat.le_refl _) hj
  rw [a, b, sk_z0 r 16 j hj, sk_z0 d 16 j hj]
  exact ⟨rfl, rfl, fun _ => rfl, fun _ => rfl⟩
theorem i_vc_solutions {k : Nat} {u : SX} {v : SY} (I : i_Rel k u v) (hk : k + 5 ≤ 2560) : wpX_solutions (fun r => wpY_solutions (fun r' v' => r' = r ∧ i_Rel (k + 5) u v') v) u := by
  obtain ⟨g, c, r, d, l, G, li, kn, od, sq, ft, sg, rfl, rfl, hX, hY, hK⟩ := I
  refine xa_solutions hX ?_
  exact ya_solutions hY hK (fun ft' hf => ⟨rfl, g, c, r, d, l, G, li, 1, od, sq, ft', sg, rfl, rfl, hX, hY, Or.inr ⟨rfl, hf⟩⟩)
theorem i_vc_possible {k : Nat} {u : SX} {v : SY} (I : i_Rel k u v) (hk : k + 5 ≤ 2560) (v1 : Int32) (v2 : Int32) : wpX_possible (fun r => wpY_possible (fun r' v' => r' = r ∧ i_Rel (k + 5) u v') v v1 v2) u v1 v2 := by
  obtain ⟨g, c, r, d, l, G, li, kn, od, sq, ft, sg, rfl, rfl, hX, hY, hK⟩ := I
  have same : i_Rel (k + 5) (g, c, r, d, l, G) (li, kn, od, sq, ft, g, c, sg) := ⟨g, c, r, d, l, G, li, kn, od, sq, ft, sg, rfl, rfl, hX, hY, hK⟩
  unfold wpX_possible wpY_possible
  dsimp only
  refine xl_isCell (fun z => br_f (by decide) ?_) (fun z => br_t rfl ?_)
  · obtain ⟨x, y, hx, hy, rfl, rfl⟩ := sk_cl_of z
    refine nm_r sk_ix (xa_possible hX (show x * 4 + y < 16 by omega) ?_)
    refine yl_bad (fun _ => br_t rfl ?_) (fun w => absurd z w)
    refine yl_test hY.1 hY.2.1 hY.2.2 hK (fun ft' hf => ?_)
    exact ya_possible hY hf hx hy ⟨rfl, g, c, r, d, l, G, li, 1, od, sq, ft', sg, rfl, rfl, hX, hY, Or.inr ⟨rfl, hf⟩⟩
  · exact yl_bad (fun w => absurd w z) (fun _ => br_f (by decide) ⟨rfl, same⟩)
theorem i_vc_height {k : Nat} {u : SX} {v : SY} (I : i_Rel k u v) (hk : k + 5 ≤ 2560) (v1 : Int32) (v2 : Int32) (v3 : Int32) : wpX_height (fun r => wpY_height (fun r' v' => r' = r ∧ i_Rel (k + 5) u v') v v1 v2 v3) u v1 v2 v3 := by
  obtain ⟨g, c, r, d, l, G, li, kn, od, sq, ft, sg, rfl, rfl, hX, hY, hK⟩ := I
  have same : i_Rel (k + 5) (g, c, r, d, l, G) (li, kn, od, sq, ft, g, c, sg) := ⟨g, c, r, d, l, G, li, kn, od, sq, ft, sg, rfl, rfl, hX, hY, hK⟩
  unfold wpX_height wpY_height
  dsimp only
  refine xl_isCell (fun z => br_f (by decide) ?_) (fun z => br_t rfl ?_)
  · obtain ⟨x, y, hx, hy, rfl, rfl⟩ := sk_cl_of z
    refine nm_r sk_ix ⟨577, xa_height hX (show x * 4 + y < 16 by omega) v1 576 0 0 rfl ?_⟩
    refine yl_bad (fun _ => br_t rfl ?_) (fun w => absurd z w)
    refine yl_test hY.1 hY.2.1 hY.2.2 hK (fun ft' hf => ?_)
    exact ⟨577, ya_height hY hf hx hy v1 576 0 0 rfl ⟨rfl, g, c, r, d, l, G, li, 1, od, sq, ft', sg, rfl, rfl, hX, hY, Or.inr ⟨rfl, hf⟩⟩⟩
  · exact yl_bad (fun w => absurd w z) (fun _ => br_f (by decide) ⟨rfl, same⟩)
theorem i_vc_votes {k : Nat} {u : SX} {v : SY} (I : i_Rel k u v) (hk : k + 5 ≤ 2560) (v1 : Int32) (v2 : Int32) (v3 : Int32) : wpX_votes (fun r => wpY_votes (fun r' v' => r' = r ∧ i_Rel (k + 5) u v') v v1 v2 v3) u v1 v2 v3 := by
  obtain ⟨g, c, r, d, l, G, li, kn, od, sq, ft, sg, rfl, rfl, hX, hY, hK⟩ := I
  have same : i_Rel (k + 5) (g, c, r, d, l, G) (li, kn, od, sq, ft, g, c, sg) := ⟨g, c, r, d, l, G, li, kn, od, sq, ft, sg, rfl, rfl, hX, hY, hK⟩
  unfold wpX_votes wpY_votes
  dsimp only
  refine xl_isCell (fun z => br_f (by decide) ?_) (fun z => br_t rfl ?_)
  · refine br_c (fun a => ?_) (fun a => br_c (fun b => ?_) (fun b => ?_))
    · exact yl_bad (fun _ => br_t rfl (br_t a ⟨rfl, same⟩)) (fun w => absurd z w)
    · obtain ⟨x, y, hx, hy, rfl, rfl⟩ := sk_cl_of z
      refine nm_r sk_ix (xa_votes hX (show x * 4 + y < 16 by omega) v3 ?_)
      refine yl_bad (fun _ => br_t rfl (br_f a (br_t b ?_))) (fun w => absurd z w)
      refine yl_test hY.1 hY.2.1 hY.2.2 hK (fun ft' hf => ?_)
      exact ya_votes hY hf hx hy v3 ⟨rfl, g, c, r, d, l, G, li, 1, od, sq, ft', sg, rfl, rfl, hX, hY, Or.inr ⟨rfl, hf⟩⟩
    · exact yl_bad (fun _ => br_t rfl (br_f a (br_f b ⟨rfl, same⟩))) (fun w => absurd z w)
  · exact yl_bad (fun w => absurd w z) (fun _ => br_f (by decide) ⟨rfl, same⟩)
theorem i_vc_fixedCells {k : Nat} {u : SX} {v : SY} (I : i_Rel k u v) (hk : k + 5 ≤ 2560) : wpX_fixedCells (fun r => wpY_fixedCells (fun r' v' => r' = r ∧ i_Rel (k + 5) u v') v) u := by
  obtain ⟨g, c, r, d, l, G, li, kn, od, sq, ft, sg, rfl, rfl, hX, hY, hK⟩ := I
  refine xa_fixed hX ?_
  exact ya_fixed hY hK (fun ft' hf => ⟨rfl, g, c, r, d, l, G, li, 1, od, sq, ft', sg, rfl, rfl, hX, hY, Or.inr ⟨rfl, hf⟩⟩)
