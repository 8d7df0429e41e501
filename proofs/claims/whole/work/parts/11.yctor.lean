/-! Y's constructor -/
theorem sk_apZ : ∀ a, a < 24 → ∀ b, b < 24 → (sk_ap a b = true ↔ ∀ j, j < 4 → sk_dig a j ≠ sk_dig b j) := by decide +kernel
theorem yl_ad {post : Int32 → Prop} {li kn : Int32} {od sq ft g c sg : Nat → Int32} {x : Nat} (hx : x < 10000) (h1 : sk_msk x 4 = 30 → post 1) (h0 : ¬ sk_msk x 4 = 30 → post 0) : wpY_allDifferent post (li, kn, od, sq, ft, g, c, sg) (nI x) := by
  have st := loop_0 (σ := Unit) (fun n k _ => wY_allDifferent_7 post li kn od sq ft g c sg n (nI (sk_msk x k)) (nI (x / 10 ^ k)) (nI k)) (fun _ _ => True) 4 () trivial ?_ ?_
  · have st' : ∃ n, wY_allDifferent_7 post li kn od sq ft g c sg n 0 (nI (x / 1)) 0 := st
    rw [Nat.div_one] at st'
    exact st'
  · intro n s _
    have hl := sk_msk_lt x 4
    refine br_t (nI_le (a := 4) (b := 4) (Nat.le_refl _) (by decide)) ?_
    exact br_c (fun z => h1 ((nI_eq (a := sk_msk x 4) (b := 30) (by omega) (by decide)).mp z)) (fun z => h0 (fun w => z (congrArg nI w)))
  · intro n k s hk _ ih
    have ih' : wY_allDifferent_7 post li kn od sq ft g c sg n (nI (sk_msk x k ||| 2 ^ (x / 10 ^ k % 10))) (nI (x / (10 ^ k * 10))) (nI (k + 1)) := ih () trivial
    rw [← Nat.div_div_eq_div_mul] at ih'
    have hle : x / 10 ^ k ≤ x := Nat.div_le_self _ _
    show wY_allDifferent_7 post li kn od sq ft g c sg (n + 1) (nI (sk_msk x k)) (nI (x / 10 ^ k)) (nI k)
    generalize x / 10 ^ k = y at hle ih' ⊢
    have em : nI y - nI y / 10 * 10 = nI (y % 10) := pk_rem (d := 10) (by omega) (by decide) (by decide)
    have ed : nI y / 10 = nI (y / 10) := pk_div (d := 10) (by omega) (by decide) (by decide)
    have hj : y % 10 < 32 := Nat.lt_trans (Nat.mod_lt _ (by decide)) (by decide)
    have e : nI (sk_msk x k) ||| ((1 : Int32) <<< ((nI y - nI y / 10 * 10) &&& 31)) = nI (sk_msk x k ||| 2 ^ (y % 10)) := by
      rw [em, sk_sh1 hj, nx_or]
    exact br_f (nI_ge (b := 4) hk (by decide)) ⟨by decide, nm_r e ⟨by decide, nm_r ed (nm_r (nI_1 k) ih')⟩⟩
theorem yl_ap {post : Int32 → Prop} {li kn : Int32} {od sq ft g c sg : Nat → Int32} (ho : ∀ j, j < 96 → od j = nI (sk_d j)) {a b : Nat} (ha : a < 24) (hb : b < 24) (h1 : sk_ap a b = true → post 1) (h0 : sk_ap a b = false → post 0) : wpY_apart post (li, kn, od, sq, ft, g, c, sg) (nI a) (nI b) := by
  have key := sk_apZ a ha b hb
  refine loop_0 (σ := Unit) (fun n k _ => wY_apart_2 post (nI a) (nI b) li kn od sq ft g c sg n (nI k)) (fun k _ => ∀ j, j < k → sk_dig a j ≠ sk_dig b j) 4 () lt_0 ?_ ?_
  · intro n s I
    exact br_t (nI_le (a := 4) (b := 4) (Nat.le_refl _) (by decide)) (h1 (key.mpr I))
  · intro n k s hk I ih
    have ra := sk_dig_r a k
    have rb := sk_dig_r b k
    show wY_apart_2 post (nI a) (nI b) li kn od sq ft g c sg (n + 1) (nI k)
    refine br_f (nI_ge (b := 4) hk (by decide)) ?_
    refine yl_dg (by rw [ho _ (by omega), sk_d_dig hk]) ha hk rfl rfl ?_
    refine yl_dg (by rw [ho _ (by omega), sk_d_dig hk]) hb hk rfl rfl ?_
    refine br_c (fun z => h0 ?_) (fun z => nm_r (nI_1 k) (ih () (lt_s I (fun w => z (congrArg nI w)))))
    have e : sk_dig a k = sk_dig b k := (nI_eq (by omega) (by omega)).mp z
    cases w : sk_ap a b
    · rfl
    · exact absurd e (key.mp w k hk)
theorem sk_pkI (a b c d : Nat) : ((nI a + (32 * nI b)) + (1024 * nI c)) + (32768 * nI d) = sk_eY (sk_pk a b c d) := by
  show ((nI a + (nI 32 * nI b)) + (nI 1024 * nI c)) + (nI 32768 * nI d) = nI (a + 32 * b + 1024 * c + 32768 * d)
  rw [pk_mul, pk_mul, pk_mul, nI_add, nI_add, nI_add]
theorem yl_gD {post : SY → Prop} {J2 : sk_J} {kn : Int32} {od ft g c sg : Nat → Int32} (ho : ∀ j, j < 96 → od j = nI (sk_d j)) {a b e : Nat} (ha : a < 24) (hb : b < 24) (he : e < 24) (s0 : List Nat) (h0 : s0.length ≤ 576) (G : Nat → Int32) (hG : sk_Ho sk_eY G s0) (h : ∀ G', sk_Ho sk_eY G' (sk_it (sk_sD a b e) 24 s0) → J2 (nI (e + 1)) (nI (sk_it (sk_sD a b e) 24 s0).length) od G' ft g c sg) : ∃ n, wY_list_36 post J2 (nI a) (nI b) (nI e) 1 kn n 0 (nI s0.length) od G ft g c sg := by
  refine loop_0 (σ := Nat → Int32) (fun n k G => wY_list_36 post J2 (nI a) (nI b) (nI e) 1 kn n (nI k) (nI (sk_it (sk_sD a b e) k s0).length) od G ft g c sg) (fun k G => sk_Ho sk_eY G (sk_it (sk_sD a b e) k s0)) 24 G hG ?_ ?_
  · intro n s I
    exact br_t (nI_le (a := 24) (b := 24) (Nat.le_refl _) (by decide)) (nm_r (nI_1 e) (h s I))
  · intro n k s hk I ih
    have hS := sk_itle (sk_sD a b e) (sk_Dle a b e) s0 h0 k
    have I' : sk_Ho sk_eY s (sk_it (sk_sD a b e) k s0) := I
    have ih' : ∀ s', sk_Ho sk_eY s' (sk_sD a b e k (sk_it (sk_sD a b e) k s0)) → wY_list_36 post J2 (nI a) (nI b) (nI e) 1 kn n (nI (k + 1)) (nI (sk_sD a b e k (sk_it (sk_sD a b e) k s0)).length) od s' ft g c sg := ih
    show wY_list_36 post J2 (nI a) (nI b) (nI e) 1 kn (n + 1) (nI k) (nI (sk_it (sk_sD a b e) k s0).length) od s ft g c sg
    generalize sk_it (sk_sD a b e) k s0 = S at hS I' ih' ⊢
    have nx0 : ¬ (sk_ap a k = true ∧ sk_ap b k = true ∧ sk_ap e k = true ∧ S.length < 576) → ∀ y, y = nI k + 1 → wY_list_36 post J2 (nI a) (nI b) (nI e) 1 kn n y (nI S.length) od s ft g c sg := by
      intro w
      have es : sk_sD a b e k S = S := if_neg w
      rw [es] at ih'
      exact nm_r (nI_1 k) (ih' s I')
    have nz : ¬ (sk_ap a k = true ∧ sk_ap b k = true ∧ sk_ap e k = true ∧ S.length < 576) → wY_list_82 post J2 (wY_list_36 post J2 (nI a) (nI b) (nI e) 1 kn n) (nI a) (nI b) (nI e) 1 (nI k) (nI S.length) kn od s ft g c sg := by
      intro w
      unfold wY_list_82 wY_list_83
      exact br_t rfl (nx0 w)
    refine br_f (nI_ge (b := 24) hk (by decide)) (br_f (by decide) ?_)
    refine yl_ap ho ha hk (fun p1 => br_f (by decide) ?_) (fun p1 => br_t rfl (nz (fun w => sk_tf w.1 p1)))
    refine yl_ap ho hb hk (fun p2 => br_f (by decide) ?_) (fun p2 => br_t rfl (nz (fun w => sk_tf w.2.1 p2)))
    refine yl_ap ho he hk (fun p3 => br_f (by decide) ?_) (fun p3 => br_t rfl (nz (fun w => sk_tf w.2.2.1 p3)))
    unfold wY_list_83
    refine br_f (by decide) ?_
    by_cases w : S.length < 576
    · have ec : (nI S.length).toNatClampNeg = S.length := nI_clamp (by omega)
      have es : sk_sD a b e k S = sk_pk a b e k :: S := if_pos ⟨p1, p2, p3, w⟩
      rw [es] at ih'
      have nx := ih' (upd s S.length (sk_eY (sk_pk a b e k))) (sk_Hop _ I')
      refine br_f (nI_ge (b := 576) w (by decide)) ⟨vp_in_nI w (by decide), ?_⟩
      rw [sk_pkI, ec]
      exact nm_e (nm_r (nI_1 _) (nm_r (nI_1 k) nx))
    · exact br_t (nI_le (a := 576) (by omega) (by omega)) (nx0 (fun q => w q.2.2.2))
theorem yl_gC {post : SY → Prop} {kn : Int32} {od ft g c sg : Nat → Int32} (ho : ∀ j, j < 96 → od j = nI (sk_d j)) {a b : Nat} (ha : a < 24) (hb : b < 24) (s0 : List Nat) (h0 : s0.length ≤ 576) (G : Nat → Int32) (hG : sk_Ho sk_eY G s0) (h : ∀ G', sk_Ho sk_eY G' (sk_it (sk_sC a b) 24 s0) → post (nI (sk_it (sk_sC a b) 24 s0).length, kn, od, G', ft, g, c, sg)) : wpY_list post (nI s0.length, kn, od, G, ft, g, c, sg) (nI a) (nI b) := by
  refine loop_0 (σ := Nat → Int32) (fun n k G => wY_list_2 post (nI a) (nI b) kn n (nI k) (nI (sk_it (sk_sC a b) k s0).length) od G ft g c sg) (fun k G => sk_Ho sk_eY G (sk_it (sk_sC a b) k s0)) 24 G hG ?_ ?_
  · intro n s I
    exact br_t (nI_le (a := 24) (b := 24) (Nat.le_refl _) (by decide)) (h s I)
  · intro n k s hk I ih
    have hS := sk_itle (sk_sC a b) (sk_Cle a b) s0 h0 k
    have I' : sk_Ho sk_eY s (sk_it (sk_sC a b) k s0) := I
    have ih' : ∀ s', sk_Ho sk_eY s' (sk_sC a b k (sk_it (sk_sC a b) k s0)) → wY_list_2 post (nI a) (nI b) kn n (nI (k + 1)) (nI (sk_sC a b k (sk_it (sk_sC a b) k s0)).length) od s' ft g c sg := ih
    show wY_list_2 post (nI a) (nI b) kn (n + 1) (nI k) (nI (sk_it (sk_sC a b) k s0).length) od s ft g c sg
    generalize sk_it (sk_sC a b) k s0 = S at hS I' ih' ⊢
    have nz : ¬ (sk_ap a k = true ∧ sk_ap b k = true) → ∃ n36, wY_list_36 post (wY_list_2 post (nI a) (nI b) kn n) (nI a) (nI b) (nI k) 0 kn n36 0 (nI S.length) od s ft g c sg := by
      intro w
      have es : sk_sC a b k S = S := if_neg w
      rw [es] at ih'
      exact ⟨1, br_f (nI_ge (a := 0) (b := 24) (by decide) (by decide)) (br_t rfl (nm_r (nI_1 k) (ih' s I')))⟩
    refine br_f (nI_ge (b := 24) hk (by decide)) ?_
    refine yl_ap ho ha hk (fun p1 => br_f (by decide) ?_) (fun p1 => br_t rfl (nz (fun w => sk_tf w.1 p1)))
    refine yl_ap ho hb hk (fun p2 => br_f (by decide) ?_) (fun p2 => br_t rfl (nz (fun w => sk_tf w.2 p2)))
    have es : sk_sC a b k S = sk_it (sk_sD a b k) 24 S := if_pos ⟨p1, p2⟩
    rw [es] at ih'
    exact yl_gD ho ha hb hk S hS s I' ih'
theorem yl_gB {post : SY → Prop} {J : Int32 → Int32 → Int32 → (Nat → Int32) → (Nat → Int32) → (Nat → Int32) → (Nat → Int32) → (Nat → Int32) → (Nat → Int32) → Prop} {kn : Int32} {od ft g c sg : Nat → Int32} (ho : ∀ j, j < 96 → od j = nI (sk_d j)) {a : Nat} (ha : a < 24) (s0 : List Nat) (h0 : s0.length ≤ 576) (G : Nat → Int32) (hG : sk_Ho sk_eY G s0) (h : ∀ G', sk_Ho sk_eY G' (sk_it (sk_sB a) 24 s0) → J (nI (a + 1)) (nI (sk_it (sk_sB a) 24 s0).length) kn od G' ft g c sg) : ∃ n, wY_init_161 post J (nI a) n 0 (nI s0.length) kn od G ft g c sg := by
  refine loop_0 (σ := Nat → Int32) (fun n k G => wY_init_161 post J (nI a) n (nI k) (nI (sk_it (sk_sB a) k s0).length) kn od G ft g c sg) (fun k G => sk_Ho sk_eY G (sk_it (sk_sB a) k s0)) 24 G hG ?_ ?_
  · intro n s I
    exact br_t (nI_le (a := 24) (b := 24) (Nat.le_refl _) (by decide)) (nm_r (nI_1 a) (h s I))
  · intro n k s hk I ih
    have hS := sk_itle (sk_sB a) (sk_Ble a) s0 h0 k
    have I' : sk_Ho sk_eY s (sk_it (sk_sB a) k s0) := I
    have ih' : ∀ s', sk_Ho sk_eY s' (sk_sB a k (sk_it (sk_sB a) k s0)) → wY_init_161 post J (nI a) n (nI (k + 1)) (nI (sk_sB a k (sk_it (sk_sB a) k s0)).length) kn od s' ft g c sg := ih
    show wY_init_161 post J (nI a) (n + 1) (nI k) (nI (sk_it (sk_sB a) k s0).length) kn od s ft g c sg
    generalize sk_it (sk_sB a) k s0 = S at hS I' ih' ⊢
    refine br_f (nI_ge (b := 24) hk (by decide)) ?_
    refine yl_ap ho ha hk (fun p1 => br_f (by decide) ?_) (fun p1 => br_t rfl ?_)
    · have es : sk_sB a k S = sk_it (sk_sC a k) 24 S := if_pos p1
      rw [es] at ih'
      exact yl_gC ho ha hk S hS s I' (fun G' hG' => nm_r (nI_1 k) (ih' G' hG'))
    · have es : sk_sB a k S = S := if_neg (fun w => sk_tf w p1)
      rw [es] at ih'
      exact nm_r (nI_1 k) (ih' s I')
theorem yl_grids {post : SY → Prop} {kn : Int32} {od G ft g c sg : Nat → Int32} (ho : ∀ j, j < 96 → od j = nI (sk_d j)) (h : ∀ G' : Nat → Int32, sk_Ho sk_eY G' sk_R → post (nI sk_R.length, kn, od, G', ft, g, c, sg)) : ∃ n, wY_init_153 post n 0 0 kn od G ft g c sg := by
  refine loop_0 (σ := Nat → Int32) (fun n k G => wY_init_153 post n (nI k) (nI (sk_it sk_sA k []).length) kn od G ft g c sg) (fun k G => sk_Ho sk_eY G (sk_it sk_sA k [])) 24 G (sk_Ho0 _ _) ?_ ?_
  · intro n s I
    exact br_t (nI_le (a := 24) (b := 24) (Nat.le_refl _) (by decide)) (h s I)
  · intro n k s hk I ih
    have hS := sk_itle sk_sA sk_Ale [] (by decide) k
    have I' : sk_Ho sk_eY s (sk_it sk_sA k []) := I
    have ih' : ∀ s', sk_Ho sk_eY s' (sk_it (sk_sB k) 24 (sk_it sk_sA k [])) → wY_init_153 post n (nI (k + 1)) (nI (sk_it (sk_sB k) 24 (sk_it sk_sA k [])).length) kn od s' ft g c sg := ih
    show wY_init_153 post (n + 1) (nI k) (nI (sk_it sk_sA k []).length) kn od s ft g c sg
    refine br_f (nI_ge (b := 24) hk (by decide)) ?_
    exact yl_gB ho hk (sk_it sk_sA k []) hS s I' ih'
theorem sk_od4 {s : Nat → Int32} {q : Nat} (I : ∀ j, j < 4 * q → s j = nI (sk_d j)) : ∀ j, j < 4 * (q + 1) → upd (upd (upd (upd s (q * 4) (nI (sk_dig q 0))) (q * 4 + 1) (nI (sk_dig q 1))) (q * 4 + 2) (nI (sk_dig q 2))) (q * 4 + 3) (nI (sk_dig q 3)) j = nI (sk_d j) := by
  intro j hj
  have hh : j < 4 * q ∨ j = q * 4 + 0 ∨ j = q * 4 + 1 ∨ j = q * 4 + 2 ∨ j = q * 4 + 3 := by omega
  rcases hh with h | h | h | h | h
  · rw [pk_un (show j ≠ q * 4 + 3 by omega), pk_un (show j ≠ q * 4 + 2 by omega), pk_un (show j ≠ q * 4 + 1 by omega), pk_un (show j ≠ q * 4 by omega)]
    exact I j h
  · rw [pk_un (show j ≠ q * 4 + 3 by omega), pk_un (show j ≠ q * 4 + 2 by omega), pk_un (show j ≠ q * 4 + 1 by omega), h, sk_d_dig (m := 0) (by decide)]
    exact pk_us
  · rw [pk_un (show j ≠ q * 4 + 3 by omega), pk_un (show j ≠ q * 4 + 2 by omega), h, sk_d_dig (m := 1) (by decide)]
    exact pk_us
  · rw [pk_un (show j ≠ q * 4 + 3 by omega), h, sk_d_dig (m := 2) (by decide)]
    exact pk_us
  · rw [h, sk_d_dig (m := 3) (by decide)]
    exact pk_us
theorem yl_init {post : SY → Prop} (h : ∀ od G : Nat → Int32, (∀ j, j < 96 → od j = nI (sk_d j)) → sk_Ho sk_eY G sk_R → post (nI sk_R.length, 0, od, G, (fun _ => 0), (fun _ => 0), (fun _ => 0), (fun _ => 0))) : wpY_init post := by
  have st := loop_0 (σ := Nat → Int32) (fun n k s => wY_init_60 post 0 0 n (nI (sk_cy k)) (nI (1111 + k)) s (fun _ => 0) (fun _ => 0) (fun _ => 0) (fun _ => 0) (fun _ => 0)) (fun k s => ∀ j, j < 4 * sk_cy k → s j = nI (sk_d j)) 3211 (fun _ => 0) (fun j hj => absurd hj (by rw [sk_cy_0]; exact Nat.not_lt_zero j)) ?_ ?_
  · have st' : ∃ n, wY_init_60 post 0 0 n (nI (sk_cy 0)) 1111 (fun _ => 0) (fun _ => 0) (fun _ => 0) (fun _ => 0) (fun _ => 0) (fun _ => 0) := st
    rw [sk_cy_0] at st'
    exact st'
  · intro n s I
    have I' : ∀ j, j < 4 * sk_cy 3211 → s j = nI (sk_d j) := I
    rw [sk_ye] at I'
    show wY_init_60 post 0 0 (n + 1) (nI (sk_cy 3211)) (nI (1111 + 3211)) s (fun _ => 0) (fun _ => 0) (fun _ => 0) (fun _ => 0) (fun _ => 0)
    rw [sk_ye]
    exact br_f (nI_nlt (a := 4444) (b := 1111 + 3211) (by decide) (by decide)) (br_t (nI_le (a := 24) (b := 24) (Nat.le_refl _) (by decide)) (yl_grids I' (fun G hG => h s G I' hG)))
  · intro n k s hk I ih
    have I' : ∀ j, j < 4 * sk_cy k → s j = nI (sk_d j) := I
    have ih' : ∀ s', (∀ j, j < 4 * sk_cy (k + 1) → s' j = nI (sk_d j)) → wY_init_60 post 0 0 n (nI (sk_cy (k + 1))) (nI (1111 + k + 1)) s' (fun _ => 0) (fun _ => 0) (fun _ => 0) (fun _ => 0) (fun _ => 0) := ih
    have hq := sk_yl k hk
    show wY_init_60 post 0 0 (n + 1) (nI (sk_cy k)) (nI (1111 + k)) s (fun _ => 0) (fun _ => 0) (fun _ => 0) (fun _ => 0) (fun _ => 0)
    refine br_f (nI_nlt (a := 4444) (b := 1111 + k) (by omega) (by decide)) (br_f (nI_ge (b := 24) hq (by decide)) ?_)
    refine yl_ad (by omega) (fun z => br_f (by decide) ?_) (fun z => br_t rfl ?_)
    · obtain ⟨hn, hc⟩ := sk_yt k hk z
      rw [hc] at ih'
      generalize sk_cy k = q at hq hn I' ih' ⊢
      have nx := ih' _ (sk_od4 I')
      have b0 := sk_nd0 q hq
      have b1 := sk_nd1 q hq
      have b2 := sk_nd2 q hq
      have b3 := sk_nd3 q hq
      rw [hn] at b0 b1 b2 b3
      have e0 : nI q * 4 = nI (q * 4) := pk_mul q 4
      have e1 : nI (q * 4) + 1 = nI (q * 4 + 1) := nI_add _ 1
      have e2 : nI (q * 4) + 2 = nI (q * 4 + 2) := nI_add _ 2
      have e3 : nI (q * 4) + 3 = nI (q * 4 + 3) := nI_add _ 3
      have d0 : nI (1111 + k) / 1000 = nI (sk_dig q 0) := by
        rw [← b0]
        exact pk_div (d := 1000) (by omega) (by decide) (by decide)
      have dh : nI (1111 + k) / 100 = nI ((1111 + k) / 100) := pk_div (d := 100) (by omega) (by decide) (by decide)
      have dt : nI (1111 + k) / 10 = nI ((1111 + k) / 10) := pk_div (d := 10) (by omega) (by decide) (by decide)
      have d1 : nI (1111 + k) / 100 - nI (1111 + k) / 100 / 10 * 10 = nI (sk_dig q 1) := by
        rw [← b1, dh]
        exact pk_rem (d := 10) (by omega) (by decide) (by decide)
      have d2 : nI (1111 + k) / 10 - nI (1111 + k) / 10 / 10 * 10 = nI (sk_dig q 2) := by
        rw [← b2, dt]
        exact pk_rem (d := 10) (by omega) (by decide) (by decide)
      have d3 : nI (1111 + k) - nI (1111 + k) / 10 * 10 = nI (sk_dig q 3) := by
        rw [← b3]
        exact pk_rem (d := 10) (by omega) (by decide) (by decide)
      have c0 : (nI (q * 4)).toNatClampNeg = q * 4 := nI_clamp (by omega)
      have c1 : (nI (q * 4 + 1)).toNatClampNeg = q * 4 + 1 := nI_clamp (by omega)
      have c2 : (nI (q * 4 + 2)).toNatClampNeg = q * 4 + 2 := nI_clamp (by omega)
      have c3 : (nI (q * 4 + 3)).toNatClampNeg = q * 4 + 3 := nI_clamp (by omega)
      rw [d1, d2, d3, d0, e0, e1, e2, e3, c0, c1, c2, c3]
      exact ⟨by decide, vp_in_nI (by omega) (by decide), nm_e ⟨by decide, by decide, vp_in_nI (by omega) (by decide), nm_e ⟨by decide, by decide, vp_in_nI (by omega) (by decide), nm_e ⟨by decide, vp_in_nI (by omega) (by decide), nm_e (nm_r (nI_1 q) (nm_r (nI_1 (1111 + k)) nx))⟩⟩⟩⟩
    · have hc := sk_yf k hk z
      rw [hc] at ih'
      exact nm_r (nI_1 (1111 + k)) (ih' s I')
