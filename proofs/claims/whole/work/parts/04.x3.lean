/-! X: put, and the calls that only read -/
theorem sk_xpu {post : Int32 → SX → Prop} {f m : Nat → Int32} {s i j : Nat} {v : Int32} (hs : s < 5) (hi : i < 6) (hj : j < 6) (h : post 1 (upd f (36 * s + 6 * i + j) v, m)) : wpX_put post (f, m) (nI s) (nI i) (nI j) v := by
  have e := sk_ijX s i j
  have c : (nI s * 36 + nI i * 6 + nI j).toNatClampNeg = 36 * s + 6 * i + j := pk_cl (36 * s + 6 * i + j) e
  unfold wpX_put
  refine sk_xgE (fun z => absurd ⟨sk_iS hs, sk_iL hi, sk_iL hj⟩ z) fun _ => ⟨pk_in (36 * s + 6 * i + j) 180 (by omega) e, fun y ey => ?_⟩
  rw [ey, c]
  exact h
theorem sk_xpu0 {post : Int32 → SX → Prop} {f m : Nat → Int32} {x y z v : Int32} (hc : ¬ (sk_in 5 x ∧ sk_in 6 y ∧ sk_in 6 z)) (h : post 0 (f, m)) : wpX_put post (f, m) x y z v := by
  unfold wpX_put
  exact sk_xgE (fun _ => h) fun q => absurd q hc
theorem sk_xat {post : Int32 → Prop} {f m : Nat → Int32} {s i j : Nat} (hs : s < 5) (hi : i < 6) (hj : j < 6) (h : post (f (36 * s + 6 * i + j))) : wpX_at post (f, m) (nI s) (nI i) (nI j) := by
  have e := sk_ijX s i j
  have c : (nI s * 36 + nI i * 6 + nI j).toNatClampNeg = 36 * s + 6 * i + j := pk_cl (36 * s + 6 * i + j) e
  unfold wpX_at
  refine sk_xgE (fun z => absurd ⟨sk_iS hs, sk_iL hi, sk_iL hj⟩ z) fun _ => ⟨pk_in (36 * s + 6 * i + j) 180 (by omega) e, ?_⟩
  rw [c]
  exact h
theorem sk_xat0 {post : Int32 → Prop} {f m : Nat → Int32} {x y z : Int32} (hc : ¬ (sk_in 5 x ∧ sk_in 6 y ∧ sk_in 6 z)) (h : post 0) : wpX_at post (f, m) x y z := by
  unfold wpX_at
  exact sk_xgE (fun _ => h) fun q => absurd q hc
theorem sk_xco {post : Int32 → Prop} {f m : Nat → Int32} {s : Nat} (hs : s < 5) (h : post (sk_cn f (36 * s) 36)) : wpX_count post (f, m) (nI s) := by
  unfold wpX_count
  exact sk_xgS (fun z => absurd (sk_iS hs) z) fun _ => sk_xcn hs h
theorem sk_xco0 {post : Int32 → Prop} {f m : Nat → Int32} {x : Int32} (hc : ¬ sk_in 5 x) (h : post (-1)) : wpX_count post (f, m) x := by
  unfold wpX_count
  exact sk_xgS (fun _ => h) fun q => absurd q hc
theorem sk_xrp {post : Int32 → Prop} {f m : Nat → Int32} {a i b j : Nat} (ha : a < 5) (hi : i < 6) (hb : b < 5) (hj : j < 6) (h : post (sk_sm (fun k => f (36 * a + 6 * i + k) * f (36 * b + 6 * j + k)) 6)) : wpX_rowsProduct post (f, m) (nI a) (nI i) (nI b) (nI j) := by
  unfold wpX_rowsProduct
  refine sk_xgS (fun z => absurd (sk_iS ha) z) fun _ => sk_xgL (fun z => absurd (sk_iL hi) z) fun _ => sk_xgS (fun z => absurd (sk_iS hb) z) fun _ => sk_xgL (fun z => absurd (sk_iL hj) z) fun _ => ?_
  exact loop_0 (fun n k (s : Int32) => wX_rowsProduct_37 post (nI a) (nI i) (nI b) (nI j) f m n s (nI k)) (fun k s => s = sk_sm (fun k => f (36 * a + 6 * i + k) * f (36 * b + 6 * j + k)) k) 6 0 rfl
    (fun n s hs => by subst hs; exact br_t (nI_le (Nat.le_refl 6) (by decide)) h)
    (fun n k s hk hs ih => by
      subst hs
      have ea := sk_ijX a i k
      have eb := sk_ijX b j k
      have ca : (nI a * 36 + nI i * 6 + nI k).toNatClampNeg = 36 * a + 6 * i + k := pk_cl (36 * a + 6 * i + k) ea
      have cb : (nI b * 36 + nI j * 6 + nI k).toNatClampNeg = 36 * b + 6 * j + k := pk_cl (36 * b + 6 * j + k) eb
      refine br_f (nI_ge (b := 6) hk (by decide)) ⟨pk_in (36 * a + 6 * i + k) 180 (by omega) ea, pk_in (36 * b + 6 * j + k) 180 (by omega) eb, fun y ey x ex => ?_⟩
      rw [ex, nI_1 k, ey, ca, cb]
      exact ih _ rfl)
theorem sk_xrp0 {post : Int32 → Prop} {f m : Nat → Int32} {x y z w : Int32} (hc : ¬ (sk_in 5 x ∧ sk_in 6 y ∧ sk_in 5 z ∧ sk_in 6 w)) (h : post 0) : wpX_rowsProduct post (f, m) x y z w := by
  unfold wpX_rowsProduct
  exact sk_xgS (fun _ => h) fun h1 => sk_xgL (fun _ => h) fun h2 => sk_xgS (fun _ => h) fun h3 => sk_xgL (fun _ => h) fun h4 => absurd ⟨h1, h2, h3, h4⟩ hc
theorem sk_xse {post : Int32 → Prop} {f m : Nat → Int32} {x y : Int32} (p q : Nat) (hx : x = nI p) (hy : y = nI q) (hpq : ∀ k, k < 6 → p + k * q < 180) (g : Nat → Nat) (hg : ∀ k, k < 6 → p + k * q = g k) (h : post (sk_sm (fun k => f (g k)) 6)) : wpX_sumEvery post (f, m) x y := by
  subst hx hy
  exact loop_0 (fun n k (s : Int32) => wX_sumEvery_5 post (nI p) (nI q) f m n s (nI k)) (fun k s => s = sk_sm (fun k => f (g k)) k) 6 0 rfl
    (fun n s hs => by subst hs; exact br_t (nI_le (Nat.le_refl 6) (by decide)) h)
    (fun n k s hk hs ih => by
      subst hs
      have hb := hpq k hk
      have e : nI p + nI k * nI q = nI (p + k * q) := by rw [pk_mul, nI_add]
      have c : (nI p + nI k * nI q).toNatClampNeg = g k := by rw [← hg k hk]; exact pk_cl (p + k * q) e
      refine br_f (nI_ge (b := 6) hk (by decide)) ⟨pk_in (p + k * q) 180 hb e, fun y ey x ex => ?_⟩
      rw [ex, nI_1 k, ey, c]
      exact ih _ rfl)
theorem sk_xsm0 {post : Int32 → Prop} {f m : Nat → Int32} {x y z : Int32} (hc : ¬ sk_in 5 x ∨ (¬ y = 2 ∧ (¬ sk_in 6 z ∨ (¬ y = 0 ∧ ¬ y = 1)))) (h : post 0) : wpX_sum post (f, m) x y z := by
  unfold wpX_sum
  refine sk_xgS (fun _ => h) fun h1 => ?_
  rcases hc with hc | ⟨h2, hc⟩
  · exact absurd h1 hc
  · refine br_f h2 (sk_xgL (fun _ => h) fun h3 => ?_)
    rcases hc with hc | ⟨h0, h1⟩
    · exact absurd h3 hc
    · exact br_f h0 (br_f h1 h)
theorem sk_xsmR {post : Int32 → Prop} {f m : Nat → Int32} {s i : Nat} (hs : s < 5) (hi : i < 6) (h : post (sk_sm (fun k => f (36 * s + 6 * i + k)) 6)) : wpX_sum post (f, m) (nI s) 0 (nI i) := by
  unfold wpX_sum
  refine sk_xgS (fun z => absurd (sk_iS hs) z) fun _ => br_f (by decide) (sk_xgL (fun z => absurd (sk_iL hi) z) fun _ => br_t rfl ?_)
  exact sk_xse (36 * s + 6 * i) 1 (by rw [sk_36, sk_6, pk_mul, pk_mul, nI_add, Nat.mul_comm s, Nat.mul_comm i]) rfl (by omega) (fun k => 36 * s + 6 * i + k) (fun k _ => by rw [Nat.mul_one]) h
theorem sk_xsmC {post : Int32 → Prop} {f m : Nat → Int32} {s i : Nat} (hs : s < 5) (hi : i < 6) (h : post (sk_sm (fun k => f (36 * s + 6 * k + i)) 6)) : wpX_sum post (f, m) (nI s) 1 (nI i) := by
  unfold wpX_sum
  refine sk_xgS (fun z => absurd (sk_iS hs) z) fun _ => br_f (by decide) (sk_xgL (fun z => absurd (sk_iL hi) z) fun _ => br_f (by decide) (br_t rfl ?_))
  exact sk_xse (36 * s + i) 6 (sk_ixX s i) rfl (by omega) (fun k => 36 * s + 6 * k + i) (fun k _ => by omega) h
theorem sk_xsmD {post : Int32 → Prop} {f m : Nat → Int32} {s : Nat} {z : Int32} (hs : s < 5) (h : post (sk_sm (fun k => f (36 * s + 6 * k + k)) 6)) : wpX_sum post (f, m) (nI s) 2 z := by
  unfold wpX_sum
  refine sk_xgS (fun z => absurd (sk_iS hs) z) fun _ => br_t rfl ?_
  exact sk_xse (36 * s) 7 (by rw [sk_36, pk_mul, Nat.mul_comm s]) rfl (by omega) (fun k => 36 * s + 6 * k + k) (fun k _ => by omega) h
theorem sk_xsy19 {post : Int32 → Prop} {J : Int32 → Prop} {f m : Nat → Int32} {s i : Nat} (hs : s < 5) (hi : i < 6) (h0 : ¬ sk_Sy f s → post 0) (h : (∀ j, j < i → f (36 * s + 6 * i + j) = f (36 * s + 6 * j + i)) → J (nI (i + 1))) : ∃ n, wX_symmetric_19 post J (nI s) (nI i) f m n 0 :=
  loop_0 (fun n j (_ : Unit) => wX_symmetric_19 post J (nI s) (nI i) f m n (nI j)) (fun j _ => ∀ j', j' < j → f (36 * s + 6 * i + j') = f (36 * s + 6 * j' + i)) i () (fun j hj => absurd hj (Nat.not_lt_zero j))
    (fun n _ hq => by
      refine br_t (nI_le (Nat.le_refl i) (by omega)) (fun x ex => ?_)
      rw [ex, nI_1 i]
      exact h hq)
    (fun n j _ hj hq ih => by
      have ea := sk_ijX s i j
      have eb := sk_ijX s j i
      have ca : (nI s * 36 + nI i * 6 + nI j).toNatClampNeg = 36 * s + 6 * i + j := pk_cl (36 * s + 6 * i + j) ea
      have cb : (nI s * 36 + nI j * 6 + nI i).toNatClampNeg = 36 * s + 6 * j + i := pk_cl (36 * s + 6 * j + i) eb
      refine br_f (nI_ge (b := i) hj (by omega)) ⟨pk_in (36 * s + 6 * i + j) 180 (by omega) ea, pk_in (36 * s + 6 * j + i) 180 (by omega) eb, ?_⟩
      rw [ca, cb]
      refine br_c (fun hz x ex => ?_) (fun hz => h0 (fun q => hz (q i j hi (by omega))))
      rw [ex, nI_1 j]
      exact ih () (lt_s hq hz))
theorem sk_xsy {post : Int32 → Prop} {f m : Nat → Int32} {s : Nat} (hs : s < 5) (h1 : sk_Sy f s → post 1) (h0 : ¬ sk_Sy f s → post 0) : wpX_symmetric post (f, m) (nI s) := by
  unfold wpX_symmetric
  refine sk_xgS (fun z => absurd (sk_iS hs) z) fun _ => ?_
  exact loop_0 (fun n i (_ : Unit) => wX_symmetric_11 post (nI s) f m n (nI i)) (fun i _ => ∀ i', i' < i → ∀ j, j < i' → f (36 * s + 6 * i' + j) = f (36 * s + 6 * j + i')) 6 () (fun j hj => absurd hj (Nat.not_lt_zero j))
    (fun n _ hq => by
      refine br_t (nI_le (Nat.le_refl 6) (by decide)) (h1 (fun i j hi hj => ?_))
      rcases Nat.lt_trichotomy i j with h | h | h
      · exact (hq j hj i h).symm
      · rw [h]
      · exact hq i hi j h)
    (fun n i _ hi hq ih => br_f (nI_ge (b := 6) hi (by decide)) (sk_xsy19 hs hi h0 (fun hz => ih () (lt_s hq hz))))
theorem sk_xsy0 {post : Int32 → Prop} {f m : Nat → Int32} {x : Int32} (hc : ¬ sk_in 5 x) (h : post 0) : wpX_symmetric post (f, m) x := by
  unfold wpX_symmetric
  exact sk_xgS (fun _ => h) fun q => absurd q hc
theorem sk_xsa {post : Int32 → Prop} {f m : Nat → Int32} {a b : Nat} (ha : a < 5) (hb : b < 5) (h1 : (∀ c, c < 36 → f (36 * a + c) = f (36 * b + c)) → post 1) (h0 : ¬ (∀ c, c < 36 → f (36 * a + c) = f (36 * b + c)) → post 0) : wpX_same post (f, m) (nI a) (nI b) := by
  unfold wpX_same
  refine sk_xgS (fun z => absurd (sk_iS ha) z) fun _ => sk_xgS (fun z => absurd (sk_iS hb) z) fun _ => ?_
  exact loop_0 (fun n i (_ : Unit) => wX_same_18 post (nI a) (nI b) f m n (nI i)) (fun i _ => ∀ c, c < i → f (36 * a + c) = f (36 * b + c)) 36 () (fun j hj => absurd hj (Nat.not_lt_zero j))
    (fun n _ hq => br_t (nI_le (Nat.le_refl 36) (by decide)) (h1 hq))
    (fun n i _ hi hq ih => by
      have ea := sk_ixX a i
      have eb := sk_ixX b i
      have ca : (nI a * 36 + nI i).toNatClampNeg = 36 * a + i := pk_cl (36 * a + i) ea
      have cb : (nI b * 36 + nI i).toNatClampNeg = 36 * b + i := pk_cl (36 * b + i) eb
      refine br_f (nI_ge (b := 36) hi (by decide)) ⟨pk_in (36 * a + i) 180 (by omega) ea, pk_in (36 * b + i) 180 (by omega) eb, ?_⟩
      rw [ca, cb]
      refine br_c (fun hz x ex => ?_) (fun hz => h0 (fun q => hz (q i hi)))
      rw [ex, nI_1 i]
      exact ih () (lt_s hq hz))
theorem sk_xsa0 {post : Int32 → Prop} {f m : Nat → Int32} {x y : Int32} (hc : ¬ (sk_in 5 x ∧ sk_in 5 y)) (h : post 0) : wpX_same post (f, m) x y := by
  unfold wpX_same
  exact sk_xgS (fun _ => h) fun h1 => sk_xgS (fun _ => h) fun h2 => absurd ⟨h1, h2⟩ hc
theorem sk_xne0 {post : Int32 → Prop} {f m : Nat → Int32} {x y z : Int32} (hc : ¬ (sk_in 5 x ∧ sk_in 6 y)) (h : post (-1)) : wpX_next post (f, m) x y z := by
  unfold wpX_next
  exact sk_xgS (fun _ => h) fun h1 => sk_xgL (fun _ => h) fun h2 => absurd ⟨h1, h2⟩ hc
theorem sk_xne {post : Int32 → Prop} {f m : Nat → Int32} {s i : Nat} {z : Int32} (hs : s < 5) (hi : i < 6) (h : ∃ n, wX_next_19 post (nI s) (nI i) z f m n 0) : wpX_next post (f, m) (nI s) (nI i) z := by
  unfold wpX_next
  exact sk_xgS (fun z => absurd (sk_iS hs) z) fun _ => sk_xgL (fun z => absurd (sk_iL hi) z) fun _ => h
