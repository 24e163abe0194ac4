/-! X: product, masked, transpose, select -/
theorem sk_xmp24 {post : SX → Prop} {J2 J11 : Int32 → (Nat → Int32) → (Nat → Int32) → Prop} {f m : Nat → Int32} {a b i j : Nat} (ha : a < 5) (hb : b < 5) (hi : i < 6) (hj : j < 6) (h : J11 (nI (j + 1)) f (upd m (6 * i + j) (sk_en f a b i j))) : ∃ n, wX_makeProduct_24 post J2 J11 (nI a) (nI b) (nI i) (nI j) f m n 0 0 :=
  loop_0 (fun n k (s : Int32) => wX_makeProduct_24 post J2 J11 (nI a) (nI b) (nI i) (nI j) f m n s (nI k)) (fun k s => s = sk_sm (fun k => f (36 * a + 6 * i + k) * f (36 * b + 6 * k + j)) k) 6 0 rfl
    (fun n s hs => by
      subst hs
      have e := sk_ij6 i j
      have ec : (nI i * 6 + nI j).toNatClampNeg = 6 * i + j := pk_cl (6 * i + j) e
      refine br_t (nI_le (Nat.le_refl 6) (by decide)) ⟨pk_in (6 * i + j) 36 (by omega) e, fun y ey x ex => ?_⟩
      rw [ex, nI_1 j, ey, ec]
      exact h)
    (fun n k s hk hs ih => by
      subst hs
      have ea := sk_ijX a i k
      have eb := sk_ijX b k j
      have ca : (nI a * 36 + nI i * 6 + nI k).toNatClampNeg = 36 * a + 6 * i + k := pk_cl (36 * a + 6 * i + k) ea
      have cb : (nI b * 36 + nI k * 6 + nI j).toNatClampNeg = 36 * b + 6 * k + j := pk_cl (36 * b + 6 * k + j) eb
      refine br_f (nI_ge (b := 6) hk (by decide)) ⟨pk_in (36 * a + 6 * i + k) 180 (by omega) ea, pk_in (36 * b + 6 * k + j) 180 (by omega) eb, fun y ey x ex => ?_⟩
      rw [ex, nI_1 k, ey, ca, cb]
      exact ih _ rfl)
theorem sk_xmp11 {post : SX → Prop} {J2 : Int32 → (Nat → Int32) → (Nat → Int32) → Prop} {f m : Nat → Int32} {a b i : Nat} (ha : a < 5) (hb : b < 5) (hi : i < 6) (hm : ∀ c, c < 6 * i → m c = sk_gp f a b c) (h : ∀ m', (∀ c, c < 6 * (i + 1) → m' c = sk_gp f a b c) → J2 (nI (i + 1)) f m') : ∃ n, wX_makeProduct_11 post J2 (nI a) (nI b) (nI i) n 0 f m :=
  loop_0 (fun n j (s : Nat → Int32) => wX_makeProduct_11 post J2 (nI a) (nI b) (nI i) n (nI j) f s) (fun j s => ∀ c, c < 6 * i + j → s c = sk_gp f a b c) 6 m hm
    (fun n s hs => by
      refine br_t (nI_le (Nat.le_refl 6) (by decide)) (fun x ex => ?_)
      rw [ex, nI_1 i]
      exact h s (fun c hc => hs c (by omega)))
    (fun n j s hj hs ih => br_f (nI_ge (b := 6) hj (by decide)) (sk_xmp24 ha hb hi hj (ih _ (sk_fill hs (sk_gp6 hj)))))
theorem sk_xmp {post : SX → Prop} {f m : Nat → Int32} {a b : Nat} (ha : a < 5) (hb : b < 5) (h : ∀ m', (∀ c, c < 36 → m' c = sk_gp f a b c) → post (f, m')) : wpX_makeProduct post (f, m) (nI a) (nI b) :=
  loop_0 (fun n i (s : Nat → Int32) => wX_makeProduct_2 post (nI a) (nI b) n (nI i) f s) (fun i s => ∀ c, c < 6 * i → s c = sk_gp f a b c) 6 m (fun c hc => absurd hc (by omega))
    (fun n s hs => br_t (nI_le (Nat.le_refl 6) (by decide)) (h s (fun c hc => hs c (by omega))))
    (fun n i s hi hs ih => br_f (nI_ge (b := 6) hi (by decide)) (sk_xmp11 ha hb hi hs ih))
theorem sk_xpr {post : Int32 → SX → Prop} {f m : Nat → Int32} {t a b : Nat} (ht : t < 5) (ha : a < 5) (hb : b < 5) (h : sk_P post f t (sk_gp f a b)) : wpX_product post (f, m) (nI t) (nI a) (nI b) := by
  unfold wpX_product
  exact sk_xgS (fun z => absurd (sk_iS ht) z) fun _ => sk_xgS (fun z => absurd (sk_iS ha) z) fun _ => sk_xgS (fun z => absurd (sk_iS hb) z) fun _ => sk_xmp ha hb fun m' hm => sk_xst (G := sk_gp f a b) ht hm (h m')
theorem sk_xpr0 {post : Int32 → SX → Prop} {f m : Nat → Int32} {x y z : Int32} (hc : ¬ (sk_in 5 x ∧ sk_in 5 y ∧ sk_in 5 z)) (h : post (-1) (f, m)) : wpX_product post (f, m) x y z := by
  unfold wpX_product
  exact sk_xgS (fun _ => h) fun h1 => sk_xgS (fun _ => h) fun h2 => sk_xgS (fun _ => h) fun h3 => absurd ⟨h1, h2, h3⟩ hc
theorem sk_xmkL {post : Int32 → SX → Prop} {f m : Nat → Int32} {t a b q : Nat} (ht : t < 5) (hq : q < 5) (hm : ∀ c, c < 36 → m c = sk_gp f a b c) (h : sk_P post f t (sk_gm f a b q)) : ∃ n, wX_masked_61 post (nI t) (nI q) n 0 f m :=
  loop_0 (fun n i (s : Nat → Int32) => wX_masked_61 post (nI t) (nI q) n (nI i) f s) (fun i s => (∀ c, c < i → s c = sk_gm f a b q c) ∧ (∀ c, c < 36 → i ≤ c → s c = sk_gp f a b c)) 36 m ⟨fun j hj => absurd hj (Nat.not_lt_zero j), fun c hc _ => hm c hc⟩
    (fun n s hs => br_t (nI_le (Nat.le_refl 36) (by decide)) (sk_xst (G := sk_gm f a b q) ht hs.1 (h s)))
    (fun n i s hi hs ih => by
      have ea := sk_ixX q i
      have ca : (nI q * 36 + nI i).toNatClampNeg = 36 * q + i := pk_cl (36 * q + i) ea
      have ci : (nI i).toNatClampNeg = i := pk_cl i
      refine br_f (nI_ge (b := 36) hi (by decide)) ⟨pk_in (36 * q + i) 180 (by omega) ea, ?_⟩
      rw [ca]
      refine br_c (fun hz => ⟨vp_in_nI hi (by decide), fun y ey x ex => ?_⟩) (fun hz x ex => ?_)
      · rw [ex, nI_1 i, ey, ci]
        refine ih _ ⟨sk_fill hs.1 (if_pos hz).symm, fun c hc h2 => ?_⟩
        rw [pk_un (by omega)]
        exact hs.2 c hc (by omega)
      · rw [ex, nI_1 i]
        refine ih _ ⟨fun c hc => ?_, fun c hc h2 => hs.2 c hc (by omega)⟩
        by_cases e : c = i
        · rw [e, hs.2 i hi (Nat.le_refl i)]
          exact (if_neg hz).symm
        · exact hs.1 c (by omega))
theorem sk_xmk {post : Int32 → SX → Prop} {f m : Nat → Int32} {t a b q : Nat} {p : Int32} (ht : t < 5) (ha : a < 5) (hb : b < 5) (hq : q < 5) (ea : p &&& 7 = nI a) (eb : (p >>> ((3 : Int32) &&& 31)) &&& 7 = nI b) (eq : p >>> ((6 : Int32) &&& 31) = nI q) (h : sk_P post f t (sk_gm f a b q)) : wpX_masked post (f, m) (nI t) p := by
  unfold wpX_masked
  intro x3 e3 x4 e4 x5 e5
  cases e3.trans ea
  cases e4.trans eb
  cases e5.trans eq
  exact sk_xgS (fun z => absurd (sk_iS ht) z) fun _ => sk_xgS (fun z => absurd (sk_iS ha) z) fun _ => sk_xgS (fun z => absurd (sk_iS hb) z) fun _ => sk_xgS (fun z => absurd (sk_iS hq) z) fun _ => sk_xmp ha hb fun m' hm => sk_xmkL ht hq hm h
theorem sk_xmk0 {post : Int32 → SX → Prop} {f m : Nat → Int32} {x p : Int32} (hc : ¬ (sk_in 5 x ∧ sk_in 5 (p &&& 7) ∧ sk_in 5 ((p >>> ((3 : Int32) &&& 31)) &&& 7) ∧ sk_in 5 (p >>> ((6 : Int32) &&& 31)))) (h : post (-1) (f, m)) : wpX_masked post (f, m) x p := by
  unfold wpX_masked
  intro x3 e3 x4 e4 x5 e5
  cases e3
  cases e4
  cases e5
  exact sk_xgS (fun _ => h) fun h1 => sk_xgS (fun _ => h) fun h2 => sk_xgS (fun _ => h) fun h3 => sk_xgS (fun _ => h) fun h4 => absurd ⟨h1, h2, h3, h4⟩ hc
theorem sk_xtr27 {post : Int32 → SX → Prop} {J : Int32 → (Nat → Int32) → (Nat → Int32) → Prop} {f m : Nat → Int32} {t a i : Nat} (ha : a < 5) (hi : i < 6) (hm : ∀ c, c < 6 * i → m c = sk_gt f a c) (h : ∀ m', (∀ c, c < 6 * (i + 1) → m' c = sk_gt f a c) → J (nI (i + 1)) f m') : ∃ n, wX_transpose_27 post J (nI t) (nI a) (nI i) n 0 f m :=
  loop_0 (fun n j (s : Nat → Int32) => wX_transpose_27 post J (nI t) (nI a) (nI i) n (nI j) f s) (fun j s => ∀ c, c < 6 * i + j → s c = sk_gt f a c) 6 m hm
    (fun n s hs => by
      refine br_t (nI_le (Nat.le_refl 6) (by decide)) (fun x ex => ?_)
      rw [ex, nI_1 i]
      exact h s (fun c hc => hs c (by omega)))
    (fun n j s hj hs ih => by
      have ea := sk_ijX a j i
      have e6 := sk_ij6 i j
      have ca : (nI a * 36 + nI j * 6 + nI i).toNatClampNeg = 36 * a + 6 * j + i := pk_cl (36 * a + 6 * j + i) ea
      have c6 : (nI i * 6 + nI j).toNatClampNeg = 6 * i + j := pk_cl (6 * i + j) e6
      refine br_f (nI_ge (b := 6) hj (by decide)) ⟨pk_in (36 * a + 6 * j + i) 180 (by omega) ea, pk_in (6 * i + j) 36 (by omega) e6, fun y ey x ex => ?_⟩
      rw [ex, nI_1 j, ey, ca, c6]
      exact ih _ (sk_fill hs (sk_gt6 hj)))
theorem sk_xtr {post : Int32 → SX → Prop} {f m : Nat → Int32} {t a : Nat} (ht : t < 5) (ha : a < 5) (h : sk_P post f t (sk_gt f a)) : wpX_transpose post (f, m) (nI t) (nI a) := by
  unfold wpX_transpose
  refine sk_xgS (fun z => absurd (sk_iS ht) z) fun _ => sk_xgS (fun z => absurd (sk_iS ha) z) fun _ => ?_
  exact loop_0 (fun n i (s : Nat → Int32) => wX_transpose_18 post (nI t) (nI a) n (nI i) f s) (fun i s => ∀ c, c < 6 * i → s c = sk_gt f a c) 6 m (fun c hc => absurd hc (by omega))
    (fun n s hs => br_t (nI_le (Nat.le_refl 6) (by decide)) (sk_xst (G := sk_gt f a) ht (fun c hc => hs c (by omega)) (h s)))
    (fun n i s hi hs ih => br_f (nI_ge (b := 6) hi (by decide)) (sk_xtr27 ha hi hs ih))
theorem sk_xtr0 {post : Int32 → SX → Prop} {f m : Nat → Int32} {x y : Int32} (hc : ¬ (sk_in 5 x ∧ sk_in 5 y)) (h : post (-1) (f, m)) : wpX_transpose post (f, m) x y := by
  unfold wpX_transpose
  exact sk_xgS (fun _ => h) fun h1 => sk_xgS (fun _ => h) fun h2 => absurd ⟨h1, h2⟩ hc
theorem sk_gl6 {f : Nat → Int32} {a i j : Nat} {p : Int32} (hj : j < 6) (h : ((p >>> (nI i &&& 31)) &&& 1 = 1) ∧ ((p >>> (nI (6 + j) &&& 31)) &&& 1 = 1)) : f (36 * a + 6 * i + j) = sk_gl f a p (6 * i + j) := by
  show _ = if ((p >>> (nI ((6 * i + j) / 6) &&& 31)) &&& 1 = 1) ∧ ((p >>> (nI (6 + (6 * i + j) % 6) &&& 31)) &&& 1 = 1) then f (36 * a + (6 * i + j)) else 0
  rw [sk_d6 hj, sk_m6 hj, if_pos h, Nat.add_assoc]
theorem sk_gl0 {f : Nat → Int32} {a i j : Nat} {p : Int32} (hj : j < 6) (h : ¬ (((p >>> (nI i &&& 31)) &&& 1 = 1) ∧ ((p >>> (nI (6 + j) &&& 31)) &&& 1 = 1))) : 0 = sk_gl f a p (6 * i + j) := by
  show _ = if ((p >>> (nI ((6 * i + j) / 6) &&& 31)) &&& 1 = 1) ∧ ((p >>> (nI (6 + (6 * i + j) % 6) &&& 31)) &&& 1 = 1) then f (36 * a + (6 * i + j)) else 0
  rw [sk_d6 hj, sk_m6 hj, if_neg h]
theorem sk_xsl52 {post : Int32 → SX → Prop} {J : Int32 → (Nat → Int32) → (Nat → Int32) → Prop} {f m : Nat → Int32} {t a i : Nat} {p : Int32} (ha : a < 5) (hi : i < 6) (hm : ∀ c, c < 6 * i → m c = sk_gl f a p c) (h : ∀ m', (∀ c, c < 6 * (i + 1) → m' c = sk_gl f a p c) → J (nI (i + 1)) f m') : ∃ n, wX_select_52 post J (nI t) (nI a) (p &&& 63) (p >>> (nI 6 &&& 31)) (nI i) n 0 f m :=
  loop_0 (fun n j (s : Nat → Int32) => wX_select_52 post J (nI t) (nI a) (p &&& 63) (p >>> (nI 6 &&& 31)) (nI i) n (nI j) f s) (fun j s => ∀ c, c < 6 * i + j → s c = sk_gl f a p c) 6 m hm
    (fun n s hs => by
      refine br_t (nI_le (Nat.le_refl 6) (by decide)) (fun x ex => ?_)
      rw [ex, nI_1 i]
      exact h s (fun c hc => hs c (by omega)))
    (fun n j s hj hs ih => by
      have ea := sk_ijX a i j
      have e6 := sk_ij6 i j
      have ca : (nI a * 36 + nI i * 6 + nI j).toNatClampNeg = 36 * a + 6 * i + j := pk_cl (36 * a + 6 * i + j) ea
      have c6 : (nI i * 6 + nI j).toNatClampNeg = 6 * i + j := pk_cl (6 * i + j) e6
      refine br_f (nI_ge (b := 6) hj (by decide)) (br_c (fun hz => ?_) (fun hz => ?_))
      · refine br_f sk_10 ⟨pk_in (36 * a + 6 * i + j) 180 (by omega) ea, pk_in (6 * i + j) 36 (by omega) e6, fun y ey x ex => ?_⟩
        rw [ex, nI_1 j, ey, ca, c6]
        exact ih _ (sk_fill hs (sk_gl6 hj ((sk_sel p i j hi hj).mp hz)))
      · refine br_t rfl ⟨pk_in (6 * i + j) 36 (by omega) e6, fun y ey x ex => ?_⟩
        rw [ex, nI_1 j, ey, c6]
        exact ih _ (sk_fill hs (sk_gl0 hj (fun z => hz ((sk_sel p i j hi hj).mpr z)))))
theorem sk_xsl {post : Int32 → SX → Prop} {f m : Nat → Int32} {t a : Nat} {p : Int32} (ht : t < 5) (ha : a < 5) (h0 : ¬ p < 0) (h4 : p < 4096) (h : sk_P post f t (sk_gl f a p)) : wpX_select post (f, m) (nI t) (nI a) p := by
  unfold wpX_select
  refine sk_xgS (fun z => absurd (sk_iS ht) z) fun _ => sk_xgS (fun z => absurd (sk_iS ha) z) fun _ => br_f h0 (br_t h4 ?_)
  intro x4 e4 x5 e5
  cases e4
  cases e5
  exact loop_0 (fun n i (s : Nat → Int32) => wX_select_42 post (nI t) (nI a) (p &&& 63) (p >>> (nI 6 &&& 31)) n (nI i) f s) (fun i s => ∀ c, c < 6 * i → s c = sk_gl f a p c) 6 m (fun c hc => absurd hc (by omega))
    (fun n s hs => br_t (nI_le (Nat.le_refl 6) (by decide)) (sk_xst (G := sk_gl f a p) ht (fun c hc => hs c (by omega)) (h s)))
    (fun n i s hi hs ih => br_f (nI_ge (b := 6) hi (by decide)) (sk_xsl52 ha hi hs ih))
theorem sk_xsl0 {post : Int32 → SX → Prop} {f m : Nat → Int32} {x y p : Int32} (hc : ¬ (sk_in 5 x ∧ sk_in 5 y ∧ ¬ p < 0 ∧ p < 4096)) (h : post (-1) (f, m)) : wpX_select post (f, m) x y p := by
  unfold wpX_select
  exact sk_xgS (fun _ => h) fun h1 => sk_xgS (fun _ => h) fun h2 => br_c (fun _ => h) fun h3 => br_c (fun h4 => absurd ⟨h1, h2, h3, h4⟩ hc) fun _ => h
