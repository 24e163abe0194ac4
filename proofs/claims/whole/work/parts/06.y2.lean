/-! Y: put, and the calls that only read; next in lockstep -/
theorem sk_ypu {post : Int32 → SY → Prop} {f m : Nat → Int32} {s i j : Nat} {v : Int32} (hs : s < 5) (hi : i < 6) (hj : j < 6) (h : post 1 (upd f (36 * s + 6 * i + j) v, m)) : wpY_put post (f, m) (nI s) (nI i) (nI j) v := by
  have e := sk_ijY s i j
  have c : (36 * nI s + 6 * nI i + nI j).toNatClampNeg = 36 * s + 6 * i + j := pk_cl (36 * s + 6 * i + j) e
  unfold wpY_put
  refine sk_ygS (fun z => absurd (sk_iS hs) z) fun _ => sk_ygL (fun z => absurd (sk_iL hi) z) fun _ => sk_ygL (fun z => absurd (sk_iL hj) z) fun _ => ⟨pk_in (36 * s + 6 * i + j) 180 (by omega) e, fun y ey => ?_⟩
  rw [ey, c]
  exact h
theorem sk_ypu0 {post : Int32 → SY → Prop} {f m : Nat → Int32} {x y z v : Int32} (hc : ¬ (sk_in 5 x ∧ sk_in 6 y ∧ sk_in 6 z)) (h : post 0 (f, m)) : wpY_put post (f, m) x y z v := by
  unfold wpY_put
  exact sk_ygS (fun _ => h) fun h1 => sk_ygL (fun _ => h) fun h2 => sk_ygL (fun _ => h) fun h3 => absurd ⟨h1, h2, h3⟩ hc
theorem sk_yat {post : Int32 → Prop} {f m : Nat → Int32} {s i j : Nat} (hs : s < 5) (hi : i < 6) (hj : j < 6) (h : post (f (36 * s + 6 * i + j))) : wpY_at post (f, m) (nI s) (nI i) (nI j) := by
  unfold wpY_at
  exact sk_ygS (fun z => absurd (sk_iS hs) z) fun _ => sk_ygL (fun z => absurd (sk_iL hi) z) fun _ => sk_ygL (fun z => absurd (sk_iL hj) z) fun _ => sk_yc s i j hs hi hj h
theorem sk_yat0 {post : Int32 → Prop} {f m : Nat → Int32} {x y z : Int32} (hc : ¬ (sk_in 5 x ∧ sk_in 6 y ∧ sk_in 6 z)) (h : post 0) : wpY_at post (f, m) x y z := by
  unfold wpY_at
  exact sk_ygS (fun _ => h) fun h1 => sk_ygL (fun _ => h) fun h2 => sk_ygL (fun _ => h) fun h3 => absurd ⟨h1, h2, h3⟩ hc
theorem sk_yrp {post : Int32 → Prop} {f m : Nat → Int32} {a i b j : Nat} (ha : a < 5) (hi : i < 6) (hb : b < 5) (hj : j < 6) (h : post (sk_sm (fun k => f (36 * a + 6 * i + k) * f (36 * b + 6 * j + k)) 6)) : wpY_rowsProduct post (f, m) (nI a) (nI i) (nI b) (nI j) :=
  loop_0 (fun n k (s : Int32) => wY_rowsProduct_6 post (nI a) (nI i) (nI b) (nI j) f m n s (nI k)) (fun k s => s = sk_sm (fun k => f (36 * a + 6 * i + k) * f (36 * b + 6 * j + k)) k) 6 0 rfl
    (fun n s hs => by subst hs; exact br_t (nI_le (Nat.le_refl 6) (by decide)) h)
    (fun n k s hk hs ih => by
      subst hs
      refine br_f (nI_ge (b := 6) hk (by decide)) (sk_ygS (fun z => absurd (sk_iS ha) z) fun _ => sk_ygS (fun z => absurd (sk_iS hb) z) fun _ => sk_ygL (fun z => absurd (sk_iL hi) z) fun _ => sk_ygL (fun z => absurd (sk_iL hj) z) fun _ => ?_)
      refine sk_yc a i k ha hi hk (sk_yc b j k hb hj hk (fun y ey x ex => ?_))
      rw [ex, nI_1 k, ey]
      exact ih _ rfl)
theorem sk_yrp0 {post : Int32 → Prop} {f m : Nat → Int32} {x y z w : Int32} (hc : ¬ (sk_in 5 x ∧ sk_in 6 y ∧ sk_in 5 z ∧ sk_in 6 w)) (h : post 0) : wpY_rowsProduct post (f, m) x y z w :=
  ⟨1, br_f (by decide) (sk_ygS (fun _ => h) fun h1 => sk_ygS (fun _ => h) fun h3 => sk_ygL (fun _ => h) fun h2 => sk_ygL (fun _ => h) fun h4 => absurd ⟨h1, h2, h3, h4⟩ hc)⟩
theorem sk_ysmL0 {post : Int32 → Prop} {f m : Nat → Int32} {s i : Nat} (hs : s < 5) (hi : i < 6) (h : post (sk_sm (fun k => f (36 * s + 6 * i + k)) 6)) : ∃ n, wY_sum_38 post (nI s) 0 (nI i) f m n 0 0 :=
  loop_0 (fun n k (q : Int32) => wY_sum_38 post (nI s) 0 (nI i) f m n q (nI k)) (fun k q => q = sk_sm (fun k => f (36 * s + 6 * i + k)) k) 6 0 rfl
    (fun n q hq => by subst hq; exact br_t (nI_le (Nat.le_refl 6) (by decide)) h)
    (fun n k q hk hq ih => by
      subst hq
      refine br_f (nI_ge (b := 6) hk (by decide)) (br_t rfl (sk_yc s i k hs hi hk (fun y ey x ex => ?_)))
      rw [ex, nI_1 k, ey]
      exact ih _ rfl)
theorem sk_ysmL1 {post : Int32 → Prop} {f m : Nat → Int32} {s i : Nat} (hs : s < 5) (hi : i < 6) (h : post (sk_sm (fun k => f (36 * s + 6 * k + i)) 6)) : ∃ n, wY_sum_38 post (nI s) 1 (nI i) f m n 0 0 :=
  loop_0 (fun n k (q : Int32) => wY_sum_38 post (nI s) 1 (nI i) f m n q (nI k)) (fun k q => q = sk_sm (fun k => f (36 * s + 6 * k + i)) k) 6 0 rfl
    (fun n q hq => by subst hq; exact br_t (nI_le (Nat.le_refl 6) (by decide)) h)
    (fun n k q hk hq ih => by
      subst hq
      refine br_f (nI_ge (b := 6) hk (by decide)) (br_f sk_10 (br_t rfl (sk_yc s k i hs hk hi (fun y ey x ex => ?_))))
      rw [ex, nI_1 k, ey]
      exact ih _ rfl)
theorem sk_ysmL2 {post : Int32 → Prop} {f m : Nat → Int32} {s : Nat} {z : Int32} (hs : s < 5) (h : post (sk_sm (fun k => f (36 * s + 6 * k + k)) 6)) : ∃ n, wY_sum_38 post (nI s) 2 z f m n 0 0 :=
  loop_0 (fun n k (q : Int32) => wY_sum_38 post (nI s) 2 z f m n q (nI k)) (fun k q => q = sk_sm (fun k => f (36 * s + 6 * k + k)) k) 6 0 rfl
    (fun n q hq => by subst hq; exact br_t (nI_le (Nat.le_refl 6) (by decide)) h)
    (fun n k q hk hq ih => by
      subst hq
      refine br_f (nI_ge (b := 6) hk (by decide)) (br_f (by decide) (br_f (by decide) (sk_yc s k k hs hk hk (fun y ey x ex => ?_))))
      rw [ex, nI_1 k, ey]
      exact ih _ rfl)
theorem sk_ysmR {post : Int32 → Prop} {f m : Nat → Int32} {s i : Nat} (hs : s < 5) (hi : i < 6) (h : post (sk_sm (fun k => f (36 * s + 6 * i + k)) 6)) : wpY_sum post (f, m) (nI s) 0 (nI i) := by
  unfold wpY_sum
  exact sk_ygS (fun z => absurd (sk_iS hs) z) fun _ => br_f (by decide) (br_f (by decide) (br_f (by decide) (sk_ygL (fun z => absurd (sk_iL hi) z) fun _ => sk_ysmL0 hs hi h)))
theorem sk_ysmC {post : Int32 → Prop} {f m : Nat → Int32} {s i : Nat} (hs : s < 5) (hi : i < 6) (h : post (sk_sm (fun k => f (36 * s + 6 * k + i)) 6)) : wpY_sum post (f, m) (nI s) 1 (nI i) := by
  unfold wpY_sum
  exact sk_ygS (fun z => absurd (sk_iS hs) z) fun _ => br_f (by decide) (br_f (by decide) (br_f (by decide) (sk_ygL (fun z => absurd (sk_iL hi) z) fun _ => sk_ysmL1 hs hi h)))
theorem sk_ysmD {post : Int32 → Prop} {f m : Nat → Int32} {s : Nat} {z : Int32} (hs : s < 5) (h : post (sk_sm (fun k => f (36 * s + 6 * k + k)) 6)) : wpY_sum post (f, m) (nI s) 2 z := by
  unfold wpY_sum
  exact sk_ygS (fun z => absurd (sk_iS hs) z) fun _ => br_f (by decide) (br_f (by decide) (br_t rfl (sk_ysmL2 hs h)))
theorem sk_ysm0 {post : Int32 → Prop} {f m : Nat → Int32} {x y z : Int32} (hc : ¬ sk_in 5 x ∨ ¬ sk_in 3 y ∨ (¬ y = 2 ∧ ¬ sk_in 6 z)) (h : post 0) : wpY_sum post (f, m) x y z := by
  unfold wpY_sum
  refine sk_ygS (fun _ => h) fun h1 => br_c (fun _ => h) fun h0 => br_c (fun _ => h) fun h2 => ?_
  have h3 : sk_in 3 y := by
    obtain ⟨w, hw, rfl⟩ := nI_of h0
    refine ⟨w, ?_, rfl⟩
    have h2' : ¬ nI 2 < nI w := h2
    rw [nI_ltI (by decide) hw] at h2'
    omega
  rcases hc with hc | hc | ⟨hy, hc⟩
  · exact absurd h1 hc
  · exact absurd h3 hc
  · exact br_f hy (sk_ygL (fun _ => h) fun q => absurd q hc)
theorem sk_ysa0L {post : Int32 → Prop} {f m : Nat → Int32} {x y : Int32} {n : Nat} {z : Int32} (h : post 0) : wY_same_25 post x y f m (n + 1) 0 z :=
  br_c (fun _ => ⟨rfl, h⟩) (fun _ => br_t rfl ⟨rfl, h⟩)
theorem sk_ysa0 {post : Int32 → Prop} {f m : Nat → Int32} {x y : Int32} (hc : ¬ (sk_in 5 x ∧ sk_in 5 y)) (h : post 0) : wpY_same post (f, m) x y := by
  unfold wpY_same
  exact sk_ygS (fun _ => ⟨1, sk_ysa0L h⟩) fun h1 => sk_ygS (fun _ => ⟨1, sk_ysa0L h⟩) fun h2 => absurd ⟨h1, h2⟩ hc
theorem sk_ysa {post : Int32 → Prop} {f m : Nat → Int32} {a b : Nat} (ha : a < 5) (hb : b < 5) (h1 : (∀ c, c < 36 → f (36 * a + c) = f (36 * b + c)) → post 1) (h0 : ¬ (∀ c, c < 36 → f (36 * a + c) = f (36 * b + c)) → post 0) : wpY_same post (f, m) (nI a) (nI b) := by
  unfold wpY_same
  refine sk_ygS (fun z => absurd (sk_iS ha) z) fun _ => sk_ygS (fun z => absurd (sk_iS hb) z) fun _ => ?_
  exact loop_0 (fun n i (s : Int32) => wY_same_25 post (nI a) (nI b) f m n s (nI i)) (fun i s => (s = 1 ∧ ∀ c, c < i → f (36 * a + c) = f (36 * b + c)) ∨ (s = 0 ∧ ¬ (∀ c, c < 36 → f (36 * a + c) = f (36 * b + c)))) 36 1 (Or.inl ⟨rfl, fun j hj => absurd hj (Nat.not_lt_zero j)⟩)
    (fun n s hs => by
      rcases hs with ⟨rfl, hq⟩ | ⟨rfl, hq⟩
      · exact br_t (nI_le (Nat.le_refl 36) (by decide)) ⟨rfl, h1 hq⟩
      · exact sk_ysa0L (h0 hq))
    (fun n i s hi hs ih => by
      rcases hs with ⟨rfl, hq⟩ | ⟨rfl, hq⟩
      · have ea := sk_ixY a i
        have eb := sk_ixY b i
        have ca : (36 * nI a + nI i).toNatClampNeg = 36 * a + i := pk_cl (36 * a + i) ea
        have cb : (36 * nI b + nI i).toNatClampNeg = 36 * b + i := pk_cl (36 * b + i) eb
        refine br_f (nI_ge (b := 36) hi (by decide)) (br_f sk_10 ⟨pk_in (36 * a + i) 180 (by omega) ea, pk_in (36 * b + i) 180 (by omega) eb, ?_⟩)
        rw [ca, cb]
        refine br_c (fun hz x ex => ?_) (fun hz x ex => ?_)
        · rw [ex, nI_1 i]
          exact ih _ (Or.inl ⟨rfl, lt_s hq hz⟩)
        · rw [ex, nI_1 i]
          exact ih _ (Or.inr ⟨rfl, fun q => hz (q i hi)⟩)
      · exact sk_ysa0L (h0 hq))
theorem sk_ysy0L {post : Int32 → Prop} {f m : Nat → Int32} {x : Int32} {n : Nat} {z : Int32} (h : post 0) : wY_symmetric_8 post x f m (n + 1) 0 z :=
  br_c (fun _ => ⟨rfl, h⟩) (fun _ => br_t rfl ⟨rfl, h⟩)
theorem sk_yS0 {post : Int32 → Prop} {u : SY} {x : Int32} (hc : ¬ sk_in 5 x) (h : post 0) : wpY_slot post u x := by
  obtain ⟨f, m⟩ := u
  rcases sk_rg x (n := 5) (by decide) with q | q | ⟨h0, h5⟩
  · exact absurd q hc
  · exact br_t q h
  · exact br_f h0 (br_t (sk_lt1 (n := 4) (by decide) h0 h5) h)
theorem sk_yS1 {post : Int32 → Prop} {u : SY} {k : Nat} (hk : k < 5) (h : post 1) : wpY_slot post u (nI k) := by
  obtain ⟨f, m⟩ := u
  exact br_f (nI_pos (by omega)) (br_f (nI_nlt (a := 4) (by omega) (by decide)) h)
theorem sk_ysy0 {post : Int32 → Prop} {f m : Nat → Int32} {x : Int32} (hc : ¬ sk_in 5 x) (h : post 0) : wpY_symmetric post (f, m) x := by
  unfold wpY_symmetric
  exact sk_yS0 hc ⟨1, sk_ysy0L h⟩
theorem sk_ysy {post : Int32 → Prop} {f m : Nat → Int32} {s : Nat} (hs : s < 5) (h1 : sk_Sy f s → post 1) (h0 : ¬ sk_Sy f s → post 0) : wpY_symmetric post (f, m) (nI s) := by
  unfold wpY_symmetric
  refine sk_yS1 hs ?_
  exact loop_0 (fun n c (q : Int32) => wY_symmetric_8 post (nI s) f m n q (nI c)) (fun c q => (q = 1 ∧ ∀ c', c' < c → f (36 * s + 6 * (c' / 6) + c' % 6) = f (36 * s + 6 * (c' % 6) + c' / 6)) ∨ (q = 0 ∧ ¬ sk_Sy f s)) 36 1 (Or.inl ⟨rfl, fun j hj => absurd hj (Nat.not_lt_zero j)⟩)
    (fun n q hq => by
      rcases hq with ⟨rfl, hq⟩ | ⟨rfl, hq⟩
      · refine br_t (nI_le (Nat.le_refl 36) (by decide)) ⟨rfl, h1 (fun i j hi hj => ?_)⟩
        have := hq (6 * i + j) (by omega)
        rw [sk_d6 hj, sk_m6 hj] at this
        exact this
      · exact sk_ysy0L (h0 hq))
    (fun n c q hc hq ih => by
      rcases hq with ⟨rfl, hq⟩ | ⟨rfl, hq⟩
      · refine br_f (nI_ge (b := 36) hc (by decide)) (br_f sk_10 ⟨sk_60, sk_60, ?_⟩)
        rw [sk_rm hc, sk_dv hc]
        refine sk_yc s (c / 6) (c % 6) hs (by omega) (by omega) ⟨sk_60, sk_60, ?_⟩
        refine sk_yc s (c % 6) (c / 6) hs (by omega) (by omega) (br_c (fun hz x ex => ?_) (fun hz x ex => ?_))
        · rw [ex, nI_1 c]
          exact ih _ (Or.inl ⟨rfl, lt_s hq hz⟩)
        · rw [ex, nI_1 c]
          exact ih _ (Or.inr ⟨rfl, fun z => hz (z (c / 6) (c % 6) (by omega) (by omega))⟩)
      · exact sk_ysy0L (h0 hq))
theorem sk_yne0 {post : Int32 → Prop} {f m : Nat → Int32} {x y z : Int32} (hc : ¬ (sk_in 5 x ∧ sk_in 6 y)) (h : post (-1)) : wpY_next post (f, m) x y z :=
  ⟨1, br_f (by decide) (sk_ygS (fun _ => h) fun h1 => sk_ygL (fun _ => h) fun h2 => absurd ⟨h1, h2⟩ hc)⟩
theorem sk_nx {f m m' : Nat → Int32} {s i : Nat} {z : Int32} (hs : s < 5) (hi : i < 6) : ∀ d k : Nat, k + d = 6 → ∃ r : Int32, (∀ post : Int32 → Prop, post r → wX_next_19 post (nI s) (nI i) z f m (d + 1) (nI k)) ∧ (∀ post : Int32 → Prop, post r → wY_next_3 post (nI s) (nI i) z f m' (d + 1) (nI k)) := by
  intro d
  induction d with
  | zero =>
    intro k hk
    have h : (6 : Int32) ≤ nI k := nI_le (a := 6) (by omega) (by omega)
    exact ⟨-1, fun _ hp => br_t h hp, fun _ hp => br_t h hp⟩
  | succ d ih =>
    intro k hk
    have h : ¬ (6 : Int32) ≤ nI k := nI_ge (b := 6) (by omega) (by decide)
    have e := sk_ijX s i k
    have c : (nI s * 36 + nI i * 6 + nI k).toNatClampNeg = 36 * s + 6 * i + k := pk_cl (36 * s + 6 * i + k) e
    have hin : vp_in (nI s * 36 + nI i * 6 + nI k) 180 := pk_in (36 * s + 6 * i + k) 180 (by omega) e
    obtain ⟨r, hX, hY⟩ := ih (k + 1) (by omega)
    by_cases hz : nI k < z
    · refine ⟨r, fun post hp => br_f h (br_t hz fun y ey => ?_), fun post hp => br_f h (sk_ygS (fun z => absurd (sk_iS hs) z) fun _ => sk_ygL (fun z => absurd (sk_iL hi) z) fun _ => br_t hz fun y ey => ?_)⟩
      · rw [ey, nI_1 k]; exact hX post hp
      · rw [ey, nI_1 k]; exact hY post hp
    · by_cases h0 : f (36 * s + 6 * i + k) = 0
      · refine ⟨r, fun post hp => br_f h (br_f hz ⟨hin, ?_⟩), fun post hp => br_f h (sk_ygS (fun z => absurd (sk_iS hs) z) fun _ => sk_ygL (fun z => absurd (sk_iL hi) z) fun _ => br_f hz (sk_yc s i k hs hi (by omega) (br_t h0 fun y ey => ?_)))⟩
        · rw [c]
          refine br_t h0 fun y ey => ?_
          rw [ey, nI_1 k]; exact hX post hp
        · rw [ey, nI_1 k]; exact hY post hp
      · refine ⟨nI k, fun post hp => br_f h (br_f hz ⟨hin, ?_⟩), fun post hp => br_f h (sk_ygS (fun z => absurd (sk_iS hs) z) fun _ => sk_ygL (fun z => absurd (sk_iL hi) z) fun _ => br_f hz (sk_yc s i k hs hi (by omega) (br_f h0 hp)))⟩
        rw [c]
        exact br_f h0 hp
