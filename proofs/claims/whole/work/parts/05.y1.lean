/-! Y: its guards, counting, storing, and the calls that make a matrix -/
theorem sk_ygS {u : SY} {x : Int32} {A B : Prop} (a : ¬ sk_in 5 x → A) (b : sk_in 5 x → B) : wpY_slot (fun r => (r = 0 → A) ∧ (¬ r = 0 → B)) u x := by
  obtain ⟨f, m⟩ := u
  rcases sk_rg x (n := 5) (by decide) with ⟨k, hk, rfl⟩ | h
  · exact br_f (nI_pos (by omega)) (br_f (nI_nlt (a := 4) (by omega) (by decide)) (br_f sk_10 (b ⟨k, hk, rfl⟩)))
  · have hn := sk_no_in (by decide) h
    rcases h with h | ⟨h0, h5⟩
    · exact br_t h (br_t rfl (a hn))
    · exact br_f h0 (br_t (sk_lt1 (n := 4) (by decide) h0 h5) (br_t rfl (a hn)))
theorem sk_ygL {u : SY} {x : Int32} {A B : Prop} (a : ¬ sk_in 6 x → A) (b : sk_in 6 x → B) : wpY_line (fun r => (r = 0 → A) ∧ (¬ r = 0 → B)) u x := by
  obtain ⟨f, m⟩ := u
  rcases sk_rg x (n := 6) (by decide) with ⟨k, hk, rfl⟩ | h
  · exact br_f (nI_pos (by omega)) (br_f (nI_nlt (a := 5) (by omega) (by decide)) (br_f sk_10 (b ⟨k, hk, rfl⟩)))
  · have hn := sk_no_in (by decide) h
    rcases h with h | ⟨h0, h5⟩
    · exact br_t h (br_t rfl (a hn))
    · exact br_f h0 (br_t (sk_lt1 (n := 5) (by decide) h0 h5) (br_t rfl (a hn)))
theorem sk_yc {post : Int32 → Prop} {f m : Nat → Int32} {x y z : Int32} (s i j : Nat) (hs : s < 5) (hi : i < 6) (hj : j < 6) (h : post (f (36 * s + 6 * i + j))) (ex : x = nI s := by rfl) (ey : y = nI i := by rfl) (ez : z = nI j := by rfl) : wpY_cell post (f, m) x y z := by
  subst ex ey ez
  have e := sk_ijY s i j
  have c : (36 * nI s + 6 * nI i + nI j).toNatClampNeg = 36 * s + 6 * i + j := pk_cl (36 * s + 6 * i + j) e
  refine ⟨pk_in (36 * s + 6 * i + j) 180 (by omega) e, ?_⟩
  rw [c]
  exact h
theorem sk_ycn {post : Int32 → Prop} {f m : Nat → Int32} {t : Nat} (ht : t < 5) (h : post (sk_cn f (36 * t) 36)) : wpY_count post (f, m) (nI t) :=
  loop_0 (fun n i (s : Int32) => wY_count_4 post (nI t) f m n s (nI i)) (fun i s => s = sk_cn f (36 * t) i) 36 0 rfl
    (fun n s hs => by
      subst hs
      refine br_t (nI_le (Nat.le_refl 36) (by decide)) ?_
      unfold wY_count_46
      exact sk_ygS (fun z => absurd (sk_iS ht) z) fun _ => h)
    (fun n i s hi hs ih => by
      subst hs
      have e : 36 * nI t + nI i = nI (36 * t + i) := sk_ixY t i
      have ec : (36 * nI t + nI i).toNatClampNeg = 36 * t + i := pk_cl (36 * t + i) e
      refine br_f (nI_ge (b := 36) hi (by decide)) (sk_ygS (fun z => absurd (sk_iS ht) z) fun _ => ⟨pk_in (36 * t + i) 180 (by omega) e, ?_⟩)
      rw [ec]
      refine br_c (fun hz x ex => ?_) (fun hz y ey x ex => ?_)
      · rw [ex, nI_1 i]; exact ih _ (sk_cn_z hz).symm
      · rw [ey, ex, nI_1 i]; exact ih _ (sk_cn_n hz).symm)
theorem sk_yco0 {post : Int32 → Prop} {f m : Nat → Int32} {x : Int32} (hc : ¬ sk_in 5 x) (h : post (-1)) : wpY_count post (f, m) x := by
  refine ⟨1, br_f (by decide) ?_⟩
  refine sk_ygS (fun _ => ?_) fun q => absurd q hc
  unfold wY_count_46
  exact sk_ygS (fun _ => h) fun q => absurd q hc
theorem sk_yst {post : Int32 → SY → Prop} {f m G : Nat → Int32} {t : Nat} (ht : t < 5) (hG : ∀ j, j < 36 → m j = G j) (h : post (sk_cn (sk_st f t G 36) (36 * t) 36) (sk_st f t G 36, m)) : wpY_keep post (f, m) (nI t) :=
  loop_0 (fun n i (s : Nat → Int32) => wY_keep_2 post (nI t) n (nI i) s m) (fun i s => s = sk_st f t G i) 36 f (sk_st0 f t G).symm
    (fun n s hs => by subst hs; exact br_t (nI_le (Nat.le_refl 36) (by decide)) (sk_ycn ht h))
    (fun n i s hi hs ih => by
      subst hs
      have e := sk_ixY t i
      have ec : (36 * nI t + nI i).toNatClampNeg = 36 * t + i := pk_cl (36 * t + i) e
      have ei : (nI i).toNatClampNeg = i := pk_cl i
      refine br_f (nI_ge (b := 36) hi (by decide)) ⟨vp_in_nI hi (by decide), pk_in (36 * t + i) 180 (by omega) e, fun y ey x ex => ?_⟩
      rw [ex, nI_1 i, ey, ec, ei, hG i hi]
      exact ih _ (sk_stS f t G i))
theorem sk_yen {post : Int32 → Prop} {f m : Nat → Int32} {a b i j : Nat} (ha : a < 5) (hb : b < 5) (hi : i < 6) (hj : j < 6) (h : post (sk_en f a b i j)) : wpY_entry post (f, m) (nI a) (nI b) (nI i) (nI j) :=
  loop_0 (fun n k (s : Int32) => wY_entry_6 post (nI a) (nI b) (nI i) (nI j) f m n s (nI k)) (fun k s => s = sk_sm (fun k => f (36 * a + 6 * i + k) * f (36 * b + 6 * k + j)) k) 6 0 rfl
    (fun n s hs => by subst hs; exact br_t (nI_le (Nat.le_refl 6) (by decide)) h)
    (fun n k s hk hs ih => by
      subst hs
      refine br_f (nI_ge (b := 6) hk (by decide)) (sk_yc a i k ha hi hk (sk_yc b k j hb hk hj (fun y ey x ex => ?_)))
      rw [ex, nI_1 k, ey]
      exact ih _ rfl)
theorem sk_yadL {post : Int32 → SY → Prop} {f m : Nat → Int32} {t a b : Nat} (ht : t < 5) (ha : a < 5) (hb : b < 5) (h : sk_P post f t (sk_ga f a b)) : ∃ n, wY_add_29 post (nI t) (nI a) (nI b) n 0 f m :=
  loop_0 (fun n i (s : Nat → Int32) => wY_add_29 post (nI t) (nI a) (nI b) n (nI i) f s) (fun i s => ∀ j, j < i → s j = sk_ga f a b j) 36 m (fun j hj => absurd hj (Nat.not_lt_zero j))
    (fun n s hs => br_t (nI_le (Nat.le_refl 36) (by decide)) (sk_yst (G := sk_ga f a b) ht hs (h s)))
    (fun n i s hi hs ih => by
      have ea := sk_ixY a i
      have eb := sk_ixY b i
      have ca : (36 * nI a + nI i).toNatClampNeg = 36 * a + i := pk_cl (36 * a + i) ea
      have cb : (36 * nI b + nI i).toNatClampNeg = 36 * b + i := pk_cl (36 * b + i) eb
      have ci : (nI i).toNatClampNeg = i := pk_cl i
      refine br_f (nI_ge (b := 36) hi (by decide)) ⟨pk_in (36 * a + i) 180 (by omega) ea, pk_in (36 * b + i) 180 (by omega) eb, vp_in_nI hi (by decide), fun y ey x ex => ?_⟩
      rw [ex, nI_1 i, ey, ca, cb, ci]
      exact ih _ (sk_fill hs rfl))
theorem sk_yad {post : Int32 → SY → Prop} {f m : Nat → Int32} {t a b : Nat} (ht : t < 5) (ha : a < 5) (hb : b < 5) (h : sk_P post f t (sk_ga f a b)) : wpY_add post (f, m) (nI t) (nI a) (nI b) := by
  unfold wpY_add
  exact sk_ygS (fun z => absurd (sk_iS ht) z) fun _ => sk_ygS (fun z => absurd (sk_iS ha) z) fun _ => sk_ygS (fun z => absurd (sk_iS hb) z) fun _ => sk_yadL ht ha hb h
theorem sk_yad0 {post : Int32 → SY → Prop} {f m : Nat → Int32} {x y z : Int32} (hc : ¬ (sk_in 5 x ∧ sk_in 5 y ∧ sk_in 5 z)) (h : post (-1) (f, m)) : wpY_add post (f, m) x y z := by
  unfold wpY_add
  exact sk_ygS (fun _ => h) fun h1 => sk_ygS (fun _ => h) fun h2 => sk_ygS (fun _ => h) fun h3 => absurd ⟨h1, h2, h3⟩ hc
theorem sk_yewL {post : Int32 → SY → Prop} {f m : Nat → Int32} {t a b : Nat} (ht : t < 5) (ha : a < 5) (hb : b < 5) (h : sk_P post f t (sk_ge f a b)) : ∃ n, wY_entrywise_29 post (nI t) (nI a) (nI b) n 0 f m :=
  loop_0 (fun n i (s : Nat → Int32) => wY_entrywise_29 post (nI t) (nI a) (nI b) n (nI i) f s) (fun i s => ∀ j, j < i → s j = sk_ge f a b j) 36 m (fun j hj => absurd hj (Nat.not_lt_zero j))
    (fun n s hs => br_t (nI_le (Nat.le_refl 36) (by decide)) (sk_yst (G := sk_ge f a b) ht hs (h s)))
    (fun n i s hi hs ih => by
      have ea := sk_ixY a i
      have eb := sk_ixY b i
      have ca : (36 * nI a + nI i).toNatClampNeg = 36 * a + i := pk_cl (36 * a + i) ea
      have cb : (36 * nI b + nI i).toNatClampNeg = 36 * b + i := pk_cl (36 * b + i) eb
      have ci : (nI i).toNatClampNeg = i := pk_cl i
      refine br_f (nI_ge (b := 36) hi (by decide)) ⟨pk_in (36 * a + i) 180 (by omega) ea, pk_in (36 * b + i) 180 (by omega) eb, vp_in_nI hi (by decide), fun y ey x ex => ?_⟩
      rw [ex, nI_1 i, ey, ca, cb, ci]
      exact ih _ (sk_fill hs rfl))
theorem sk_yew {post : Int32 → SY → Prop} {f m : Nat → Int32} {t a b : Nat} (ht : t < 5) (ha : a < 5) (hb : b < 5) (h : sk_P post f t (sk_ge f a b)) : wpY_entrywise post (f, m) (nI t) (nI a) (nI b) := by
  unfold wpY_entrywise
  exact sk_ygS (fun z => absurd (sk_iS ht) z) fun _ => sk_ygS (fun z => absurd (sk_iS ha) z) fun _ => sk_ygS (fun z => absurd (sk_iS hb) z) fun _ => sk_yewL ht ha hb h
theorem sk_yew0 {post : Int32 → SY → Prop} {f m : Nat → Int32} {x y z : Int32} (hc : ¬ (sk_in 5 x ∧ sk_in 5 y ∧ sk_in 5 z)) (h : post (-1) (f, m)) : wpY_entrywise post (f, m) x y z := by
  unfold wpY_entrywise
  exact sk_ygS (fun _ => h) fun h1 => sk_ygS (fun _ => h) fun h2 => sk_ygS (fun _ => h) fun h3 => absurd ⟨h1, h2, h3⟩ hc
theorem sk_yprL {post : Int32 → SY → Prop} {f m : Nat → Int32} {t a b : Nat} (ht : t < 5) (ha : a < 5) (hb : b < 5) (h : sk_P post f t (sk_gp f a b)) : ∃ n, wY_product_29 post (nI t) (nI a) (nI b) n 0 f m :=
  loop_0 (fun n i (s : Nat → Int32) => wY_product_29 post (nI t) (nI a) (nI b) n (nI i) f s) (fun i s => ∀ j, j < i → s j = sk_gp f a b j) 36 m (fun j hj => absurd hj (Nat.not_lt_zero j))
    (fun n s hs => br_t (nI_le (Nat.le_refl 36) (by decide)) (sk_yst (G := sk_gp f a b) ht hs (h s)))
    (fun n i s hi hs ih => by
      have ci : (nI i).toNatClampNeg = i := pk_cl i
      refine br_f (nI_ge (b := 36) hi (by decide)) ⟨sk_60, sk_60, ?_⟩
      rw [sk_rm hi, sk_dv hi]
      refine sk_yen ha hb (by omega) (by omega) ⟨vp_in_nI hi (by decide), fun y ey x ex => ?_⟩
      rw [ex, nI_1 i, ey, ci]
      exact ih _ (sk_fill hs rfl))
theorem sk_ypr {post : Int32 → SY → Prop} {f m : Nat → Int32} {t a b : Nat} (ht : t < 5) (ha : a < 5) (hb : b < 5) (h : sk_P post f t (sk_gp f a b)) : wpY_product post (f, m) (nI t) (nI a) (nI b) := by
  unfold wpY_product
  exact sk_ygS (fun z => absurd (sk_iS ht) z) fun _ => sk_ygS (fun z => absurd (sk_iS ha) z) fun _ => sk_ygS (fun z => absurd (sk_iS hb) z) fun _ => sk_yprL ht ha hb h
theorem sk_ypr0 {post : Int32 → SY → Prop} {f m : Nat → Int32} {x y z : Int32} (hc : ¬ (sk_in 5 x ∧ sk_in 5 y ∧ sk_in 5 z)) (h : post (-1) (f, m)) : wpY_product post (f, m) x y z := by
  unfold wpY_product
  exact sk_ygS (fun _ => h) fun h1 => sk_ygS (fun _ => h) fun h2 => sk_ygS (fun _ => h) fun h3 => absurd ⟨h1, h2, h3⟩ hc
theorem sk_yscL {post : Int32 → SY → Prop} {f m : Nat → Int32} {t a : Nat} {k : Int32} (ht : t < 5) (ha : a < 5) (h : sk_P post f t (sk_gs f a k)) : ∃ n, wY_scale_21 post (nI t) (nI a) k n 0 f m :=
  loop_0 (fun n i (s : Nat → Int32) => wY_scale_21 post (nI t) (nI a) k n (nI i) f s) (fun i s => ∀ j, j < i → s j = sk_gs f a k j) 36 m (fun j hj => absurd hj (Nat.not_lt_zero j))
    (fun n s hs => br_t (nI_le (Nat.le_refl 36) (by decide)) (sk_yst (G := sk_gs f a k) ht hs (h s)))
    (fun n i s hi hs ih => by
      have ea := sk_ixY a i
      have ca : (36 * nI a + nI i).toNatClampNeg = 36 * a + i := pk_cl (36 * a + i) ea
      have ci : (nI i).toNatClampNeg = i := pk_cl i
      refine br_f (nI_ge (b := 36) hi (by decide)) ⟨pk_in (36 * a + i) 180 (by omega) ea, vp_in_nI hi (by decide), fun y ey x ex => ?_⟩
      rw [ex, nI_1 i, ey, ca, ci]
      exact ih _ (sk_fill hs rfl))
theorem sk_ysc {post : Int32 → SY → Prop} {f m : Nat → Int32} {t a : Nat} {k : Int32} (ht : t < 5) (ha : a < 5) (h : sk_P post f t (sk_gs f a k)) : wpY_scale post (f, m) (nI t) (nI a) k := by
  unfold wpY_scale
  exact sk_ygS (fun z => absurd (sk_iS ht) z) fun _ => sk_ygS (fun z => absurd (sk_iS ha) z) fun _ => sk_yscL ht ha h
theorem sk_ysc0 {post : Int32 → SY → Prop} {f m : Nat → Int32} {x y k : Int32} (hc : ¬ (sk_in 5 x ∧ sk_in 5 y)) (h : post (-1) (f, m)) : wpY_scale post (f, m) x y k := by
  unfold wpY_scale
  exact sk_ygS (fun _ => h) fun h1 => sk_ygS (fun _ => h) fun h2 => absurd ⟨h1, h2⟩ hc
theorem sk_ymkL {post : Int32 → SY → Prop} {f m : Nat → Int32} {t a b q : Nat} (ht : t < 5) (ha : a < 5) (hb : b < 5) (hq : q < 5) (h : sk_P post f t (sk_gm f a b q)) : ∃ n, wY_masked_58 post (nI t) (nI a) (nI b) (nI q) n 0 f m :=
  loop_0 (fun n i (s : Nat → Int32) => wY_masked_58 post (nI t) (nI a) (nI b) (nI q) n (nI i) f s) (fun i s => ∀ c, c < i → s c = sk_gm f a b q c) 36 m (fun j hj => absurd hj (Nat.not_lt_zero j))
    (fun n s hs => br_t (nI_le (Nat.le_refl 36) (by decide)) (sk_yst (G := sk_gm f a b q) ht hs (h s)))
    (fun n i s hi hs ih => by
      have ea := sk_ixY q i
      have ca : (36 * nI q + nI i).toNatClampNeg = 36 * q + i := pk_cl (36 * q + i) ea
      have ci : (nI i).toNatClampNeg = i := pk_cl i
      refine br_f (nI_ge (b := 36) hi (by decide)) ⟨pk_in (36 * q + i) 180 (by omega) ea, ?_⟩
      rw [ca]
      refine br_c (fun hz => ⟨vp_in_nI hi (by decide), fun y ey x ex => ?_⟩) (fun hz => ⟨sk_60, sk_60, ?_⟩)
      · rw [ex, nI_1 i, ey, ci]
        exact ih _ (sk_fill hs (if_pos hz).symm)
      · rw [sk_rm hi, sk_dv hi]
        refine sk_yen ha hb (by omega) (by omega) ⟨vp_in_nI hi (by decide), fun y ey x ex => ?_⟩
        rw [ex, nI_1 i, ey, ci]
        exact ih _ (sk_fill hs (if_neg hz).symm))
theorem sk_ymk {post : Int32 → SY → Prop} {f m : Nat → Int32} {t a b q : Nat} {p : Int32} (ht : t < 5) (ha : a < 5) (hb : b < 5) (hq : q < 5) (ea : p &&& 7 = nI a) (eb : (p >>> ((3 : Int32) &&& 31)) &&& 7 = nI b) (eq : p >>> ((6 : Int32) &&& 31) = nI q) (h : sk_P post f t (sk_gm f a b q)) : wpY_masked post (f, m) (nI t) p := by
  unfold wpY_masked
  intro x3 e3 x4 e4 x5 e5
  cases e3.trans ea
  cases e4.trans eb
  cases e5.trans eq
  exact sk_ygS (fun z => absurd (sk_iS ht) z) fun _ => sk_ygS (fun z => absurd (sk_iS ha) z) fun _ => sk_ygS (fun z => absurd (sk_iS hb) z) fun _ => sk_ygS (fun z => absurd (sk_iS hq) z) fun _ => sk_ymkL ht ha hb hq h
theorem sk_ymk0 {post : Int32 → SY → Prop} {f m : Nat → Int32} {x p : Int32} (hc : ¬ (sk_in 5 x ∧ sk_in 5 (p &&& 7) ∧ sk_in 5 ((p >>> ((3 : Int32) &&& 31)) &&& 7) ∧ sk_in 5 (p >>> ((6 : Int32) &&& 31)))) (h : post (-1) (f, m)) : wpY_masked post (f, m) x p := by
  unfold wpY_masked
  intro x3 e3 x4 e4 x5 e5
  cases e3
  cases e4
  cases e5
  exact sk_ygS (fun _ => h) fun h1 => sk_ygS (fun _ => h) fun h2 => sk_ygS (fun _ => h) fun h3 => sk_ygS (fun _ => h) fun h4 => absurd ⟨h1, h2, h3, h4⟩ hc
theorem sk_ytr {post : Int32 → SY → Prop} {f m : Nat → Int32} {t a : Nat} (ht : t < 5) (ha : a < 5) (h : sk_P post f t (sk_gt f a)) : wpY_transpose post (f, m) (nI t) (nI a) := by
  unfold wpY_transpose
  refine sk_ygS (fun z => absurd (sk_iS ht) z) fun _ => sk_ygS (fun z => absurd (sk_iS ha) z) fun _ => ?_
  exact loop_0 (fun n i (s : Nat → Int32) => wY_transpose_20 post (nI t) (nI a) n (nI i) f s) (fun i s => ∀ c, c < i → s c = sk_gt f a c) 36 m (fun j hj => absurd hj (Nat.not_lt_zero j))
    (fun n s hs => br_t (nI_le (Nat.le_refl 36) (by decide)) (sk_yst (G := sk_gt f a) ht hs (h s)))
    (fun n i s hi hs ih => by
      have ci : (nI i).toNatClampNeg = i := pk_cl i
      refine br_f (nI_ge (b := 36) hi (by decide)) ⟨sk_60, sk_60, ?_⟩
      rw [sk_rm hi, sk_dv hi]
      refine sk_yc a (i % 6) (i / 6) ha (by omega) (by omega) ⟨vp_in_nI hi (by decide), fun y ey x ex => ?_⟩
      rw [ex, nI_1 i, ey, ci]
      exact ih _ (sk_fill hs rfl))
theorem sk_ytr0 {post : Int32 → SY → Prop} {f m : Nat → Int32} {x y : Int32} (hc : ¬ (sk_in 5 x ∧ sk_in 5 y)) (h : post (-1) (f, m)) : wpY_transpose post (f, m) x y := by
  unfold wpY_transpose
  exact sk_ygS (fun _ => h) fun h1 => sk_ygS (fun _ => h) fun h2 => absurd ⟨h1, h2⟩ hc
theorem sk_4095 {p : Int32} (h0 : ¬ p < 0) : p < 4096 ↔ p ≤ 4095 := by
  obtain ⟨j, hj, rfl⟩ := nI_of h0
  show nI j < nI 4096 ↔ nI j ≤ nI 4095
  rw [nI_ltI hj (by decide), nI_leI hj (by decide)]
  omega
theorem sk_ysl73 {post : Int32 → SY → Prop} {J : Int32 → (Nat → Int32) → (Nat → Int32) → Prop} {f s : Nat → Int32} {t a i : Nat} {p : Int32} (ha : a < 5) (hi : i < 36) (h : J (nI (i + 1)) f (upd s i 0)) : wY_select_73 post J (nI t) (nI a) p (nI i) 0 f s := by
  have ci : (nI i).toNatClampNeg = i := pk_cl i
  refine br_t rfl ⟨vp_in_nI hi (by decide), fun y ey x ex => ?_⟩
  rw [ex, nI_1 i, ey, ci]
  exact h
theorem sk_yslL {post : Int32 → SY → Prop} {f m : Nat → Int32} {t a : Nat} {p : Int32} (ht : t < 5) (ha : a < 5) (h : sk_P post f t (sk_gl f a p)) : ∃ n, wY_select_32 post (nI t) (nI a) p n 0 f m :=
  loop_0 (fun n i (s : Nat → Int32) => wY_select_32 post (nI t) (nI a) p n (nI i) f s) (fun i s => ∀ c, c < i → s c = sk_gl f a p c) 36 m (fun j hj => absurd hj (Nat.not_lt_zero j))
    (fun n s hs => br_t (nI_le (Nat.le_refl 36) (by decide)) (sk_yst (G := sk_gl f a p) ht hs (h s)))
    (fun n i s hi hs ih => by
      have ea := sk_ixY a i
      have ca : (36 * nI a + nI i).toNatClampNeg = 36 * a + i := pk_cl (36 * a + i) ea
      have ci : (nI i).toNatClampNeg = i := pk_cl i
      have e6 : (6 : Int32) + nI (i % 6) = nI (6 + i % 6) := by rw [sk_6, nI_add]
      refine br_f (nI_ge (b := 36) hi (by decide)) ⟨sk_60, ?_⟩
      rw [sk_rm hi, sk_dv hi, e6]
      refine br_c (fun h1 => ⟨sk_60, br_c (fun h2 => ?_) (fun h2 => ?_)⟩) (fun h1 => ?_)
      · refine br_f sk_10 ⟨pk_in (36 * a + i) 180 (by omega) ea, vp_in_nI hi (by decide), fun y ey x ex => ?_⟩
        rw [ex, nI_1 i, ey, ca, ci]
        exact ih _ (sk_fill hs (if_pos ⟨h1, h2⟩).symm)
      · unfold wY_select_72
        exact sk_ysl73 ha hi (ih _ (sk_fill hs (if_neg (fun q => h2 q.2)).symm))
      · unfold wY_select_72
        exact sk_ysl73 ha hi (ih _ (sk_fill hs (if_neg (fun q => h1 q.1)).symm)))
theorem sk_ysl {post : Int32 → SY → Prop} {f m : Nat → Int32} {t a : Nat} {p : Int32} (ht : t < 5) (ha : a < 5) (h0 : ¬ p < 0) (h4 : p < 4096) (h : sk_P post f t (sk_gl f a p)) : wpY_select post (f, m) (nI t) (nI a) p := by
  unfold wpY_select
  exact sk_ygS (fun z => absurd (sk_iS ht) z) fun _ => sk_ygS (fun z => absurd (sk_iS ha) z) fun _ => br_f h0 (br_t ((sk_4095 h0).mp h4) (sk_yslL ht ha h))
theorem sk_ysl0 {post : Int32 → SY → Prop} {f m : Nat → Int32} {x y p : Int32} (hc : ¬ (sk_in 5 x ∧ sk_in 5 y ∧ ¬ p < 0 ∧ p < 4096)) (h : post (-1) (f, m)) : wpY_select post (f, m) x y p := by
  unfold wpY_select
  exact sk_ygS (fun _ => h) fun h1 => sk_ygS (fun _ => h) fun h2 => br_c (fun _ => h) fun h3 => br_c (fun h4 => absurd ⟨h1, h2, h3, (sk_4095 h3).mpr h4⟩ hc) fun _ => h
