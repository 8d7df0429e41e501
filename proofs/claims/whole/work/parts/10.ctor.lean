/-! the constructors -/
abbrev sk_J : Type := Int32 → Int32 → (Nat → Int32) → (Nat → Int32) → (Nat → Int32) → (Nat → Int32) → (Nat → Int32) → (Nat → Int32) → Prop
def sk_eX (q : Nat) : Int32 := nI (sk_gN q)
def sk_eY (q : Nat) : Int32 := nI q
theorem sk_sh1 {j : Nat} (hj : j < 32) : (1 : Int32) <<< (nI j &&& 31) = nI (2 ^ j) := by
  show nI 1 <<< (nI j &&& 31) = _
  rw [pk_shlN (nI j &&& 31) j (s_l j hj) (by rw [Nat.one_mul]; exact Nat.pow_lt_pow_right (by decide) hj), Nat.one_mul]
theorem sk_tf {b : Bool} (h : b = true) (h2 : b = false) : False := by
  rw [h] at h2
  exact absurd h2 (by decide)
theorem xl_has {post : Int32 → Prop} {m : Nat} (hm : m < 256) (h1 : sk_seen m 4 = 15 → post 1) (h0 : ¬ sk_seen m 4 = 15 → post 0) : wpX_hasAllHeights post (nI m) := by
  refine loop_0 (σ := Unit) (fun n k _ => wX_hasAllHeights_4 post (nI m) n (nI (sk_seen m k)) (nI k)) (fun _ _ => True) 4 () trivial ?_ ?_
  · intro n s _
    have hl := sk_seen_lt m 4
    refine br_t (nI_le (a := 4) (b := 4) (Nat.le_refl _) (by decide)) ?_
    exact br_c (fun z => h1 ((nI_eq (a := sk_seen m 4) (b := 15) (by omega) (by decide)).mp z)) (fun z => h0 (fun w => z (congrArg nI w)))
  · intro n k s hk _ ih
    have e2 : (2 : Int32) * nI k = nI (2 * k) := pk_mul 2 k
    have p2 : 2 ^ (2 * k) = 4 ^ k := Nat.pow_mul 2 2 k
    have a := pk_ushrN (n := m) (by omega) (nI (2 * k)) (2 * k) (s_u _ (by omega))
    have b : nI (m / 4 ^ k) &&& 3 = nI (m / 4 ^ k % 4) := pk_andN (n := m / 4 ^ k) (Nat.lt_of_le_of_lt (Nat.div_le_self _ _) (by omega)) (m := 3) 2 (by decide)
    have hj : m / 4 ^ k % 4 < 4 := Nat.mod_lt _ (by decide)
    have e : nI (sk_seen m k) ||| ((1 : Int32) <<< (((((nI m).toUInt32 >>> ((2 * nI k).toUInt32 &&& Int32.toUInt32 31)).toInt32) &&& 3) &&& 31)) = nI (sk_seen m (k + 1)) := by
      rw [e2, a, p2, b, sk_sh1 (Nat.lt_trans hj (by decide)), nx_or]
      rfl
    exact br_f (nI_ge (b := 4) hk (by decide)) (nm_r e (nm_r (nI_1 k) (ih () trivial)))
theorem sk_cx_le : ∀ i, i < 256 → sk_cx i ≤ 24 := by decide +kernel
theorem sk_cx_0 : sk_cx 0 = 0 := by decide +kernel
theorem sk_cy_0 : sk_cy 0 = 0 := by decide +kernel
theorem xl_lines {post : SX → Prop} {g c r d l G : Nat → Int32} (h : ∀ l' : Nat → Int32, (∀ k, k < 24 → l' k = nI (sk_code k)) → post (g, c, r, d, l', G)) : wpX_listLines post (g, c, r, d, l, G) := by
  have st := loop_0 (σ := Nat → Int32) (fun n k s => wX_listLines_4 post n (nI (sk_cx k)) (nI k) g c r d s G) (fun k s => ∀ j, j < sk_cx k → s j = nI (sk_code j)) 256 l (fun j hj => absurd hj (by rw [sk_cx_0]; exact Nat.not_lt_zero j)) ?_ ?_
  · have st' : ∃ n, wX_listLines_4 post n (nI (sk_cx 0)) (nI 0) g c r d l G := st
    rw [sk_cx_0] at st'
    exact st'
  · intro n s I
    have I' : ∀ j, j < sk_cx 256 → s j = nI (sk_code j) := I
    rw [sk_xe] at I'
    exact br_t (nI_le (a := 256) (b := 256) (Nat.le_refl _) (by decide)) (h s I')
  · intro n k s hk I ih
    have I' : ∀ j, j < sk_cx k → s j = nI (sk_code j) := I
    have ih' : ∀ s', (∀ j, j < sk_cx (k + 1) → s' j = nI (sk_code j)) → wX_listLines_4 post n (nI (sk_cx (k + 1))) (nI (k + 1)) g c r d s' G := ih
    have hle := sk_cx_le k hk
    show wX_listLines_4 post (n + 1) (nI (sk_cx k)) (nI k) g c r d s G
    by_cases z : sk_seen k 4 = 15
    · obtain ⟨h24, hcode, hn⟩ := sk_xt k hk z
      rw [hn] at ih'
      have nx := ih' (upd s (sk_cx k) (nI k)) (fun j hj => by
        by_cases e : j = sk_cx k
        · rw [e, pk_us, hcode]
        · rw [pk_un e]
          exact I' j (by omega))
      have ec : (nI (sk_cx k)).toNatClampNeg = sk_cx k := nI_clamp (by omega)
      refine br_f (nI_ge (b := 256) hk (by decide)) (br_f (nI_ge (b := 24) h24 (by decide)) ?_)
      refine xl_has hk (fun _ => br_f (by decide) ⟨vp_in_nI h24 (by decide), ?_⟩) (fun w => absurd z w)
      rw [ec]
      exact nm_e (nm_r (nI_1 _) (nm_r (nI_1 k) nx))
    · have hn := sk_xf k hk z
      rw [hn] at ih'
      have nx := ih' s I'
      refine br_f (nI_ge (b := 256) hk (by decide)) ?_
      exact br_c (fun _ => nm_r (nI_1 k) nx) (fun _ => xl_has hk (fun w => absurd w z) (fun _ => br_t rfl (nm_r (nI_1 k) nx)))
theorem xl_clash {post : Int32 → Prop} {a b : Nat} (ha : a < 24) (hb : b < 24) {x y : Int32} (hx : x = nI (sk_code a)) (hy : y = nI (sk_code b)) (h0 : sk_ap a b = true → post 0) (h1 : sk_ap a b = false → post 1) : wpX_clash post x y := by
  subst hx hy
  have key := sk_apX a ha b hb
  have hl : sk_code a ^^^ sk_code b < 2 ^ 8 := Nat.xor_lt_two_pow (sk_code_lt a ha) (sk_code_lt b hb)
  have nf : ¬ ((sk_code a ^^^ sk_code b) &&& 3 ≠ 0 ∧ (sk_code a ^^^ sk_code b) &&& 12 ≠ 0 ∧ (sk_code a ^^^ sk_code b) &&& 48 ≠ 0 ∧ (sk_code a ^^^ sk_code b) &&& 192 ≠ 0) → sk_ap a b = false := by
    intro w
    cases e : sk_ap a b
    · rfl
    · exact absurd (key.mp e) w
  have c : ∀ m : Nat, nI (sk_code a ^^^ sk_code b) &&& nI m = 0 ↔ (sk_code a ^^^ sk_code b) &&& m = 0 := by
    intro m
    have hm : (sk_code a ^^^ sk_code b) &&& m ≤ sk_code a ^^^ sk_code b := Nat.and_le_left
    rw [nx_and]
    exact nI_eq (b := 0) (by omega) (by decide)
  unfold wpX_clash
  refine nm_r (nx_xor _ _) ?_
  refine br_c (fun z => h1 (nf (fun q => q.1 ((c 3).mp z)))) (fun z3 => br_c (fun z => h1 (nf (fun q => q.2.1 ((c 12).mp z)))) (fun z12 => br_c (fun z => h1 (nf (fun q => q.2.2.1 ((c 48).mp z)))) (fun z48 => br_c (fun z => h1 (nf (fun q => q.2.2.2 ((c 192).mp z)))) (fun z192 => h0 (key.mpr ?_)))))
  exact ⟨fun w => z3 ((c 3).mpr w), fun w => z12 ((c 12).mpr w), fun w => z48 ((c 48).mpr w), fun w => z192 ((c 192).mpr w)⟩
theorem sk_itle (f : Nat → List Nat → List Nat) (h : ∀ i s, s.length ≤ 576 → (f i s).length ≤ 576) (s : List Nat) (hs : s.length ≤ 576) : ∀ n, (sk_it f n s).length ≤ 576
  | 0 => hs
  | n + 1 => h n _ (sk_itle f h s hs n)
theorem sk_Dle (a b c : Nat) : ∀ i s, s.length ≤ 576 → (sk_sD a b c i s).length ≤ 576 := by
  intro i s hs
  rw [sk_lD a b c i s hs]
  omega
theorem sk_Cle (a b : Nat) : ∀ i s, s.length ≤ 576 → (sk_sC a b i s).length ≤ 576 := by
  intro i s hs
  rw [sk_lC a b i s hs]
  omega
theorem sk_Ble (a : Nat) : ∀ i s, s.length ≤ 576 → (sk_sB a i s).length ≤ 576 := by
  intro i s hs
  rw [sk_lB a i s hs]
  omega
theorem sk_Ale : ∀ i s, s.length ≤ 576 → (sk_sA i s).length ≤ 576 := fun i s hs => sk_itle (sk_sB i) (sk_Ble i) s hs 24
theorem sk_el1 {l : Nat → Int32} (hl : ∀ k, k < 24 → l k = nI (sk_code k)) {a : Nat} (ha : a < 24) : l (nI a).toNatClampNeg = nI (sk_code a) := by
  rw [nI_clamp (by omega)]
  exact hl a ha
theorem xl_gD {post : SX → Prop} {J4 J12 J42 : sk_J} {g c r d l : Nat → Int32} (hl : ∀ k, k < 24 → l k = nI (sk_code k)) {a b e : Nat} (ha : a < 24) (hb : b < 24) (he : e < 24) (s0 : List Nat) (h0 : s0.length ≤ 576) (G : Nat → Int32) (hG : sk_Ho sk_eX G s0) (h : ∀ G', sk_Ho sk_eX G' (sk_it (sk_sD a b e) 24 s0) → J42 (nI (sk_it (sk_sD a b e) 24 s0).length) (nI (e + 1)) g c r d l G') : ∃ n, wX_listGrids_93 post J4 J12 J42 (nI a) (nI b) (nI e) n (nI s0.length) 0 g c r d l G := by
  refine loop_0 (σ := Nat → Int32) (fun n k G => wX_listGrids_93 post J4 J12 J42 (nI a) (nI b) (nI e) n (nI (sk_it (sk_sD a b e) k s0).length) (nI k) g c r d l G) (fun k G => sk_Ho sk_eX G (sk_it (sk_sD a b e) k s0)) 24 G hG ?_ ?_
  · intro n s I
    exact br_t (nI_le (a := 24) (b := 24) (Nat.le_refl _) (by decide)) (nm_r (nI_1 e) (h s I))
  · intro n k s hk I ih
    have hS := sk_itle (sk_sD a b e) (sk_Dle a b e) s0 h0 k
    have I' : sk_Ho sk_eX s (sk_it (sk_sD a b e) k s0) := I
    have ih' : ∀ s', sk_Ho sk_eX s' (sk_sD a b e k (sk_it (sk_sD a b e) k s0)) → wX_listGrids_93 post J4 J12 J42 (nI a) (nI b) (nI e) n (nI (sk_sD a b e k (sk_it (sk_sD a b e) k s0)).length) (nI (k + 1)) g c r d l s' := ih
    show wX_listGrids_93 post J4 J12 J42 (nI a) (nI b) (nI e) (n + 1) (nI (sk_it (sk_sD a b e) k s0).length) (nI k) g c r d l s
    generalize sk_it (sk_sD a b e) k s0 = S at hS I' ih' ⊢
    have nx0 : ¬ (sk_ap a k = true ∧ sk_ap b k = true ∧ sk_ap e k = true ∧ S.length < 576) → ∀ y, y = nI k + 1 → wX_listGrids_93 post J4 J12 J42 (nI a) (nI b) (nI e) n (nI S.length) y g c r d l s := by
      intro w
      have es : sk_sD a b e k S = S := if_neg w
      rw [es] at ih'
      exact nm_r (nI_1 k) (ih' s I')
    have va := vp_in_nI ha (by decide : 24 < 2 ^ 31)
    have vb := vp_in_nI hb (by decide : 24 < 2 ^ 31)
    have ve := vp_in_nI he (by decide : 24 < 2 ^ 31)
    have vk := vp_in_nI hk (by decide : 24 < 2 ^ 31)
    refine br_f (nI_ge (b := 24) hk (by decide)) ⟨va, vk, ?_⟩
    refine xl_clash ha hk (sk_el1 hl ha) (sk_el1 hl hk) (fun p1 => br_t rfl ⟨vb, vk, ?_⟩) (fun p1 => br_f (by decide) (nx0 (fun w => sk_tf w.1 p1)))
    refine xl_clash hb hk (sk_el1 hl hb) (sk_el1 hl hk) (fun p2 => br_t rfl ⟨ve, vk, ?_⟩) (fun p2 => br_f (by decide) (nx0 (fun w => sk_tf w.2.1 p2)))
    refine xl_clash he hk (sk_el1 hl he) (sk_el1 hl hk) (fun p3 => br_t rfl ?_) (fun p3 => br_f (by decide) (nx0 (fun w => sk_tf w.2.2.1 p3)))
    by_cases w : S.length < 576
    · have ec : (nI S.length).toNatClampNeg = S.length := nI_clamp (by omega)
      have es : sk_sD a b e k S = sk_pk a b e k :: S := if_pos ⟨p1, p2, p3, w⟩
      rw [es] at ih'
      have nx := ih' (upd s S.length (sk_eX (sk_pk a b e k))) (sk_Hop _ I')
      refine br_f (nI_ge (b := 576) w (by decide)) ⟨va, vb, ve, vk, vp_in_nI w (by decide), ?_⟩
      rw [sk_el1 hl ha, sk_el1 hl hb, sk_el1 hl he, sk_el1 hl hk, sk_pack' ha hb he hk, ec]
      exact nm_e (nm_r (nI_1 _) (nm_r (nI_1 k) nx))
    · exact br_t (nI_le (a := 576) (by omega) (by omega)) (nx0 (fun q => w q.2.2.2))
theorem xl_gC {post : SX → Prop} {J4 J12 : sk_J} {g c r d l : Nat → Int32} (hl : ∀ k, k < 24 → l k = nI (sk_code k)) {a b : Nat} (ha : a < 24) (hb : b < 24) (s0 : List Nat) (h0 : s0.length ≤ 576) (G : Nat → Int32) (hG : sk_Ho sk_eX G s0) (h : ∀ G', sk_Ho sk_eX G' (sk_it (sk_sC a b) 24 s0) → J12 (nI (sk_it (sk_sC a b) 24 s0).length) (nI (b + 1)) g c r d l G') : ∃ n, wX_listGrids_42 post J4 J12 (nI a) (nI b) n (nI s0.length) 0 g c r d l G := by
  refine loop_0 (σ := Nat → Int32) (fun n k G => wX_listGrids_42 post J4 J12 (nI a) (nI b) n (nI (sk_it (sk_sC a b) k s0).length) (nI k) g c r d l G) (fun k G => sk_Ho sk_eX G (sk_it (sk_sC a b) k s0)) 24 G hG ?_ ?_
  · intro n s I
    exact br_t (nI_le (a := 24) (b := 24) (Nat.le_refl _) (by decide)) (nm_r (nI_1 b) (h s I))
  · intro n k s hk I ih
    have hS := sk_itle (sk_sC a b) (sk_Cle a b) s0 h0 k
    have I' : sk_Ho sk_eX s (sk_it (sk_sC a b) k s0) := I
    have ih' : ∀ s', sk_Ho sk_eX s' (sk_sC a b k (sk_it (sk_sC a b) k s0)) → wX_listGrids_42 post J4 J12 (nI a) (nI b) n (nI (sk_sC a b k (sk_it (sk_sC a b) k s0)).length) (nI (k + 1)) g c r d l s' := ih
    show wX_listGrids_42 post J4 J12 (nI a) (nI b) (n + 1) (nI (sk_it (sk_sC a b) k s0).length) (nI k) g c r d l s
    generalize sk_it (sk_sC a b) k s0 = S at hS I' ih' ⊢
    have nx0 : ¬ (sk_ap a k = true ∧ sk_ap b k = true) → ∀ y, y = nI k + 1 → wX_listGrids_42 post J4 J12 (nI a) (nI b) n (nI S.length) y g c r d l s := by
      intro w
      have es : sk_sC a b k S = S := if_neg w
      rw [es] at ih'
      exact nm_r (nI_1 k) (ih' s I')
    have va := vp_in_nI ha (by decide : 24 < 2 ^ 31)
    have vb := vp_in_nI hb (by decide : 24 < 2 ^ 31)
    have vk := vp_in_nI hk (by decide : 24 < 2 ^ 31)
    refine br_f (nI_ge (b := 24) hk (by decide)) ⟨va, vk, ?_⟩
    refine xl_clash ha hk (sk_el1 hl ha) (sk_el1 hl hk) (fun p1 => br_t rfl ⟨vb, vk, ?_⟩) (fun p1 => br_f (by decide) (nx0 (fun w => sk_tf w.1 p1)))
    refine xl_clash hb hk (sk_el1 hl hb) (sk_el1 hl hk) (fun p2 => br_t rfl ?_) (fun p2 => br_f (by decide) (nx0 (fun w => sk_tf w.2 p2)))
    have es : sk_sC a b k S = sk_it (sk_sD a b k) 24 S := if_pos ⟨p1, p2⟩
    rw [es] at ih'
    exact xl_gD hl ha hb hk S hS s I' ih'
theorem xl_gB {post : SX → Prop} {J4 : sk_J} {g c r d l : Nat → Int32} (hl : ∀ k, k < 24 → l k = nI (sk_code k)) {a : Nat} (ha : a < 24) (s0 : List Nat) (h0 : s0.length ≤ 576) (G : Nat → Int32) (hG : sk_Ho sk_eX G s0) (h : ∀ G', sk_Ho sk_eX G' (sk_it (sk_sB a) 24 s0) → J4 (nI (sk_it (sk_sB a) 24 s0).length) (nI (a + 1)) g c r d l G') : ∃ n, wX_listGrids_12 post J4 (nI a) n (nI s0.length) 0 g c r d l G := by
  refine loop_0 (σ := Nat → Int32) (fun n k G => wX_listGrids_12 post J4 (nI a) n (nI (sk_it (sk_sB a) k s0).length) (nI k) g c r d l G) (fun k G => sk_Ho sk_eX G (sk_it (sk_sB a) k s0)) 24 G hG ?_ ?_
  · intro n s I
    exact br_t (nI_le (a := 24) (b := 24) (Nat.le_refl _) (by decide)) (nm_r (nI_1 a) (h s I))
  · intro n k s hk I ih
    have hS := sk_itle (sk_sB a) (sk_Ble a) s0 h0 k
    have I' : sk_Ho sk_eX s (sk_it (sk_sB a) k s0) := I
    have ih' : ∀ s', sk_Ho sk_eX s' (sk_sB a k (sk_it (sk_sB a) k s0)) → wX_listGrids_12 post J4 (nI a) n (nI (sk_sB a k (sk_it (sk_sB a) k s0)).length) (nI (k + 1)) g c r d l s' := ih
    show wX_listGrids_12 post J4 (nI a) (n + 1) (nI (sk_it (sk_sB a) k s0).length) (nI k) g c r d l s
    generalize sk_it (sk_sB a) k s0 = S at hS I' ih' ⊢
    have nx0 : ¬ (sk_ap a k = true) → ∀ y, y = nI k + 1 → wX_listGrids_12 post J4 (nI a) n (nI S.length) y g c r d l s := by
      intro w
      have es : sk_sB a k S = S := if_neg w
      rw [es] at ih'
      exact nm_r (nI_1 k) (ih' s I')
    have va := vp_in_nI ha (by decide : 24 < 2 ^ 31)
    have vk := vp_in_nI hk (by decide : 24 < 2 ^ 31)
    refine br_f (nI_ge (b := 24) hk (by decide)) ⟨va, vk, ?_⟩
    refine xl_clash ha hk (sk_el1 hl ha) (sk_el1 hl hk) (fun p1 => br_t rfl ?_) (fun p1 => br_f (by decide) (nx0 (fun w => sk_tf w p1)))
    have es : sk_sB a k S = sk_it (sk_sC a k) 24 S := if_pos p1
    rw [es] at ih'
    exact xl_gC hl ha hk S hS s I' ih'
theorem xl_grids {post : SX → Prop} {g c r d l G : Nat → Int32} (hl : ∀ k, k < 24 → l k = nI (sk_code k)) (h : ∀ G', sk_Ho sk_eX G' sk_R → post (g, c, r, d, l, G')) : wpX_listGrids post (g, c, r, d, l, G) := by
  refine loop_0 (σ := Nat → Int32) (fun n k G => wX_listGrids_4 post n (nI (sk_it sk_sA k []).length) (nI k) g c r d l G) (fun k G => sk_Ho sk_eX G (sk_it sk_sA k [])) 24 G (sk_Ho0 _ _) ?_ ?_
  · intro n s I
    exact br_t (nI_le (a := 24) (b := 24) (Nat.le_refl _) (by decide)) (h s I)
  · intro n k s hk I ih
    have hS := sk_itle sk_sA sk_Ale [] (by decide) k
    have I' : sk_Ho sk_eX s (sk_it sk_sA k []) := I
    have ih' : ∀ s', sk_Ho sk_eX s' (sk_it (sk_sB k) 24 (sk_it sk_sA k [])) → wX_listGrids_4 post n (nI (sk_it (sk_sB k) 24 (sk_it sk_sA k [])).length) (nI (k + 1)) g c r d l s' := ih
    show wX_listGrids_4 post (n + 1) (nI (sk_it sk_sA k []).length) (nI k) g c r d l s
    refine br_f (nI_ge (b := 24) hk (by decide)) ?_
    exact xl_gB hl hk (sk_it sk_sA k []) hS s I' ih'
theorem xl_init {post : SX → Prop} (h : ∀ l G : Nat → Int32, sk_Ho sk_eX G sk_R → post ((fun _ => 0), (fun _ => 0), (fun _ => 0), (fun _ => 0), l, G)) : wpX_init post := by
  unfold wpX_init
  refine xl_lines (fun l hl => ?_)
  exact xl_grids hl (fun G hG => h l G hG)
