/-! X: its guards, counting, storing, and the calls that make a matrix -/
theorem sk_xgS {x : Int32} {A B : Prop} (a : ¬ sk_in 5 x → A) (b : sk_in 5 x → B) : wpX_isSlot (fun r => (r = 0 → A) ∧ (¬ r = 0 → B)) x := by
  rcases sk_rg x (n := 5) (by decide) with ⟨k, hk, rfl⟩ | h
  · exact br_f (nI_pos (by omega)) (br_f (nI_ge (b := 5) hk (by decide)) (br_f sk_10 (b ⟨k, hk, rfl⟩)))
  · have hn := sk_no_in (by decide) h
    rcases h with h | ⟨h0, h5⟩
    · exact br_t h (br_t rfl (a hn))
    · exact br_f h0 (br_t h5 (br_t rfl (a hn)))
theorem sk_xgL {x : Int32} {A B : Prop} (a : ¬ sk_in 6 x → A) (b : sk_in 6 x → B) : wpX_isLine (fun r => (r = 0 → A) ∧ (¬ r = 0 → B)) x := by
  rcases sk_rg x (n := 6) (by decide) with ⟨k, hk, rfl⟩ | h
  · exact br_f (nI_pos (by omega)) (br_f (nI_ge (b := 6) hk (by decide)) (br_f sk_10 (b ⟨k, hk, rfl⟩)))
  · have hn := sk_no_in (by decide) h
    rcases h with h | ⟨h0, h5⟩
    · exact br_t h (br_t rfl (a hn))
    · exact br_f h0 (br_t h5 (br_t rfl (a hn)))
theorem sk_xgE {x y z : Int32} {A B : Prop} (a : ¬ (sk_in 5 x ∧ sk_in 6 y ∧ sk_in 6 z) → A) (b : sk_in 5 x ∧ sk_in 6 y ∧ sk_in 6 z → B) : wpX_isEntry (fun r => (r = 0 → A) ∧ (¬ r = 0 → B)) x y z := by
  unfold wpX_isEntry
  refine sk_xgS (fun h => br_t rfl (a fun q => h q.1)) fun h1 => ?_
  refine sk_xgL (fun h => br_t rfl (a fun q => h q.2.1)) fun h2 => ?_
  exact sk_xgL (fun h => br_t rfl (a fun q => h q.2.2)) fun h3 => br_f sk_10 (b ⟨h1, h2, h3⟩)
theorem sk_iS {k : Nat} (h : k < 5) : sk_in 5 (nI k) := ⟨k, h, rfl⟩
theorem sk_iL {k : Nat} (h : k < 6) : sk_in 6 (nI k) := ⟨k, h, rfl⟩
theorem sk_xcn {post : Int32 → Prop} {f m : Nat → Int32} {t : Nat} (ht : t < 5) (h : post (sk_cn f (36 * t) 36)) : wpX_countNonZero post (f, m) (nI t) :=
  loop_0 (fun n i (s : Int32) => wX_countNonZero_4 post (nI t) f m n s (nI i)) (fun i s => s = sk_cn f (36 * t) i) 36 0 rfl
    (fun n s hs => by subst hs; exact br_t (nI_le (Nat.le_refl 36) (by decide)) h)
    (fun n i s hi hs ih => by
      subst hs
      have e : nI t * 36 + nI i = nI (36 * t + i) := sk_ixX t i
      have ec : (nI t * 36 + nI i).toNatClampNeg = 36 * t + i := pk_cl (36 * t + i) e
      refine br_f (nI_ge (b := 36) hi (by decide)) ⟨pk_in (36 * t + i) 180 (by omega) e, ?_⟩
      rw [ec]
      refine br_c (fun hz x ex => ?_) (fun hz y ey x ex => ?_)
      · rw [ex, nI_1 i]; exact ih _ (sk_cn_z hz).symm
      · rw [ey, ex, nI_1 i]; exact ih _ (sk_cn_n hz).symm)
theorem sk_xst {post : Int32 → SX → Prop} {f m G : Nat → Int32} {t : Nat} (ht : t < 5) (hG : ∀ j, j < 36 → m j = G j) (h : post (sk_cn (sk_st f t G 36) (36 * t) 36) (sk_st f t G 36, m)) : wpX_storeMade post (f, m) (nI t) :=
  loop_0 (fun n i (s : Nat → Int32) => wX_storeMade_2 post (nI t) n (nI i) s m) (fun i s => s = sk_st f t G i) 36 f (sk_st0 f t G).symm
    (fun n s hs => by subst hs; exact br_t (nI_le (Nat.le_refl 36) (by decide)) (sk_xcn ht h))
    (fun n i s hi hs ih => by
      subst hs
      have e := sk_ixX t i
      have ec : (nI t * 36 + nI i).toNatClampNeg = 36 * t + i := pk_cl (36 * t + i) e
      have ei : (nI i).toNatClampNeg = i := pk_cl i
      refine br_f (nI_ge (b := 36) hi (by decide)) ⟨vp_in_nI hi (by decide), pk_in (36 * t + i) 180 (by omega) e, fun y ey x ex => ?_⟩
      rw [ex, nI_1 i, ey, ec, ei, hG i hi]
      exact ih _ (sk_stS f t G i))
theorem sk_xadL {post : Int32 → SX → Prop} {f m : Nat → Int32} {t a b : Nat} (ht : t < 5) (ha : a < 5) (hb : b < 5) (h : sk_P post f t (sk_ga f a b)) : ∃ n, wX_add_26 post (nI t) (nI a) (nI b) n 0 f m :=
  loop_0 (fun n i (s : Nat → Int32) => wX_add_26 post (nI t) (nI a) (nI b) n (nI i) f s) (fun i s => ∀ j, j < i → s j = sk_ga f a b j) 36 m (fun j hj => absurd hj (Nat.not_lt_zero j))
    (fun n s hs => br_t (nI_le (Nat.le_refl 36) (by decide)) (sk_xst (G := sk_ga f a b) ht hs (h s)))
    (fun n i s hi hs ih => by
      have ea := sk_ixX a i
      have eb := sk_ixX b i
      have ca : (nI a * 36 + nI i).toNatClampNeg = 36 * a + i := pk_cl (36 * a + i) ea
      have cb : (nI b * 36 + nI i).toNatClampNeg = 36 * b + i := pk_cl (36 * b + i) eb
      have ci : (nI i).toNatClampNeg = i := pk_cl i
      refine br_f (nI_ge (b := 36) hi (by decide)) ⟨pk_in (36 * a + i) 180 (by omega) ea, pk_in (36 * b + i) 180 (by omega) eb, vp_in_nI hi (by decide), fun y ey x ex => ?_⟩
      rw [ex, nI_1 i, ey, ca, cb, ci]
      exact ih _ (sk_fill hs rfl))
theorem sk_xad {post : Int32 → SX → Prop} {f m : Nat → Int32} {t a b : Nat} (ht : t < 5) (ha : a < 5) (hb : b < 5) (h : sk_P post f t (sk_ga f a b)) : wpX_add post (f, m) (nI t) (nI a) (nI b) := by
  unfold wpX_add
  exact sk_xgS (fun z => absurd (sk_iS ht) z) fun _ => sk_xgS (fun z => absurd (sk_iS ha) z) fun _ => sk_xgS (fun z => absurd (sk_iS hb) z) fun _ => sk_xadL ht ha hb h
theorem sk_xad0 {post : Int32 → SX → Prop} {f m : Nat → Int32} {x y z : Int32} (hc : ¬ (sk_in 5 x ∧ sk_in 5 y ∧ sk_in 5 z)) (h : post (-1) (f, m)) : wpX_add post (f, m) x y z := by
  unfold wpX_add
  exact sk_xgS (fun _ => h) fun h1 => sk_xgS (fun _ => h) fun h2 => sk_xgS (fun _ => h) fun h3 => absurd ⟨h1, h2, h3⟩ hc
theorem sk_xewL {post : Int32 → SX → Prop} {f m : Nat → Int32} {t a b : Nat} (ht : t < 5) (ha : a < 5) (hb : b < 5) (h : sk_P post f t (sk_ge f a b)) : ∃ n, wX_entrywise_26 post (nI t) (nI a) (nI b) n 0 f m :=
  loop_0 (fun n i (s : Nat → Int32) => wX_entrywise_26 post (nI t) (nI a) (nI b) n (nI i) f s) (fun i s => ∀ j, j < i → s j = sk_ge f a b j) 36 m (fun j hj => absurd hj (Nat.not_lt_zero j))
    (fun n s hs => br_t (nI_le (Nat.le_refl 36) (by decide)) (sk_xst (G := sk_ge f a b) ht hs (h s)))
    (fun n i s hi hs ih => by
      have ea := sk_ixX a i
      have eb := sk_ixX b i
      have ca : (nI a * 36 + nI i).toNatClampNeg = 36 * a + i := pk_cl (36 * a + i) ea
      have cb : (nI b * 36 + nI i).toNatClampNeg = 36 * b + i := pk_cl (36 * b + i) eb
      have ci : (nI i).toNatClampNeg = i := pk_cl i
      refine br_f (nI_ge (b := 36) hi (by decide)) ⟨pk_in (36 * a + i) 180 (by omega) ea, pk_in (36 * b + i) 180 (by omega) eb, vp_in_nI hi (by decide), fun y ey x ex => ?_⟩
      rw [ex, nI_1 i, ey, ca, cb, ci]
      exact ih _ (sk_fill hs rfl))
theorem sk_xew {post : Int32 → SX → Prop} {f m : Nat → Int32} {t a b : Nat} (ht : t < 5) (ha : a < 5) (hb : b < 5) (h : sk_P post f t (sk_ge f a b)) : wpX_entrywise post (f, m) (nI t) (nI a) (nI b) := by
  unfold wpX_entrywise
  exact sk_xgS (fun z => absurd (sk_iS ht) z) fun _ => sk_xgS (fun z => absurd (sk_iS ha) z) fun _ => sk_xgS (fun z => absurd (sk_iS hb) z) fun _ => sk_xewL ht ha hb h
theorem sk_xew0 {post : Int32 → SX → Prop} {f m : Nat → Int32} {x y z : Int32} (hc : ¬ (sk_in 5 x ∧ sk_in 5 y ∧ sk_in 5 z)) (h : post (-1) (f, m)) : wpX_entrywise post (f, m) x y z := by
  unfold wpX_entrywise
  exact sk_xgS (fun _ => h) fun h1 => sk_xgS (fun _ => h) fun h2 => sk_xgS (fun _ => h) fun h3 => absurd ⟨h1, h2, h3⟩ hc
theorem sk_xscL {post : Int32 → SX → Prop} {f m : Nat → Int32} {t a : Nat} {k : Int32} (ht : t < 5) (ha : a < 5) (h : sk_P post f t (sk_gs f a k)) : ∃ n, wX_scale_19 post (nI t) (nI a) k n 0 f m :=
  loop_0 (fun n i (s : Nat → Int32) => wX_scale_19 post (nI t) (nI a) k n (nI i) f s) (fun i s => ∀ j, j < i → s j = sk_gs f a k j) 36 m (fun j hj => absurd hj (Nat.not_lt_zero j))
    (fun n s hs => br_t (nI_le (Nat.le_refl 36) (by decide)) (sk_xst (G := sk_gs f a k) ht hs (h s)))
    (fun n i s hi hs ih => by
      have ea := sk_ixX a i
      have ca : (nI a * 36 + nI i).toNatClampNeg = 36 * a + i := pk_cl (36 * a + i) ea
      have ci : (nI i).toNatClampNeg = i := pk_cl i
      refine br_f (nI_ge (b := 36) hi (by decide)) ⟨pk_in (36 * a + i) 180 (by omega) ea, vp_in_nI hi (by decide), fun y ey x ex => ?_⟩
      rw [ex, nI_1 i, ey, ca, ci]
      exact ih _ (sk_fill hs rfl))
theorem sk_xsc {post : Int32 → SX → Prop} {f m : Nat → Int32} {t a : Nat} {k : Int32} (ht : t < 5) (ha : a < 5) (h : sk_P post f t (sk_gs f a k)) : wpX_scale post (f, m) (nI t) (nI a) k := by
  unfold wpX_scale
  exact sk_xgS (fun z => absurd (sk_iS ht) z) fun _ => sk_xgS (fun z => absurd (sk_iS ha) z) fun _ => sk_xscL ht ha h
theorem sk_xsc0 {post : Int32 → SX → Prop} {f m : Nat → Int32} {x y k : Int32} (hc : ¬ (sk_in 5 x ∧ sk_in 5 y)) (h : post (-1) (f, m)) : wpX_scale post (f, m) x y k := by
  unfold wpX_scale
  exact sk_xgS (fun _ => h) fun h1 => sk_xgS (fun _ => h) fun h2 => absurd ⟨h1, h2⟩ hc
