section
/-! rows pasted from kit/rows (pk_, bt, b_, s_l): starting texts; from sk_ on: own -/
theorem pk_us {f : Nat → Int32} {k : Nat} {x : Int32} : upd f k x k = x := if_pos rfl
theorem pk_un {f : Nat → Int32} {k j : Nat} {x : Int32} (h : j ≠ k) : upd f k x j = f j := if_neg h
theorem pk_sub {a b : Nat} (h : b ≤ a) : nI a - nI b = nI (a - b) := by
  obtain ⟨c, rfl⟩ : ∃ c, a = c + b := ⟨a - b, by omega⟩
  rw [← nI_add, Int32.add_sub_cancel, Nat.add_sub_cancel]
theorem pk_mul (a b : Nat) : nI a * nI b = nI (a * b) := (Int32.ofNat_mul a b).symm
theorem pk_div {a d : Nat} (ha : a < 2 ^ 31) (h0 : 0 < d) (hd : d < 2 ^ 31) : nI a / nI d = nI (a / d) := by
  apply Int32.toInt_inj.mp
  rw [lg_idiv_nonneg (by rw [nI_toInt ha]; omega) (by rw [nI_toInt hd]; omega), nI_toInt ha, nI_toInt hd, nI_toInt (Nat.lt_of_le_of_lt (Nat.div_le_self a d) ha)]
  first | rfl | exact (Int.natCast_ediv _ _).symm
theorem pk_rem {a d : Nat} (ha : a < 2 ^ 31) (h0 : 0 < d) (hd : d < 2 ^ 31) : nI a - nI a / nI d * nI d = nI (a % d) := by
  rw [pk_div ha h0 hd, pk_mul, pk_sub (Nat.div_mul_le_self a d)]
  exact congrArg nI (by have := Nat.div_add_mod' a d; omega)
theorem pk_ix (x : Int32) {n : Nat} (hn : n < 2 ^ 31) : x < 0 ∨ nI n ≤ x ∨ ∃ j : Nat, j < n ∧ x = nI j := by
  by_cases h : x < 0
  · exact Or.inl h
  · obtain ⟨j, hj, rfl⟩ := nI_of h
    by_cases h2 : j < n
    · exact Or.inr (Or.inr ⟨j, h2, rfl⟩)
    · exact Or.inr (Or.inl (nI_le (by omega) hj))
theorem pk_le {x y : Int32} {A B : Prop} (a b : Nat) (f : a ≤ b → A) (g : b < a → B) (hx : x = nI a := by rfl) (hy : y = nI b := by rfl) (ha : a < 2 ^ 31 := by omega) (hb : b < 2 ^ 31 := by omega) : (x ≤ y → A) ∧ (¬ x ≤ y → B) := by
  subst hx hy
  rw [nI_leI ha hb]
  exact ⟨f, fun z => g (by omega)⟩
theorem pk_lt {x y : Int32} {A B : Prop} (a b : Nat) (f : a < b → A) (g : b ≤ a → B) (hx : x = nI a := by rfl) (hy : y = nI b := by rfl) (ha : a < 2 ^ 31 := by omega) (hb : b < 2 ^ 31 := by omega) : (x < y → A) ∧ (¬ x < y → B) := by
  subst hx hy
  rw [nI_ltI ha hb]
  exact ⟨f, fun z => g (by omega)⟩
theorem pk_eq {x y : Int32} {A B : Prop} (a b : Nat) (f : a = b → A) (g : a ≠ b → B) (hx : x = nI a := by rfl) (hy : y = nI b := by rfl) (ha : a < 2 ^ 31 := by omega) (hb : b < 2 ^ 31 := by omega) : (x = y → A) ∧ (¬ x = y → B) := by
  subst hx hy
  rw [nI_eq ha hb]
  exact ⟨f, g⟩
theorem pk_in {x : Int32} (n N : Nat) (h : n < N) (hx : x = nI n := by rfl) (hN : N < 2 ^ 31 := by omega) : vp_in x N := by
  subst hx
  exact vp_in_nI h hN
theorem pk_cl {x : Int32} (n : Nat) (hx : x = nI n := by rfl) (h : n < 2 ^ 31 := by omega) : x.toNatClampNeg = n := by
  subst hx
  exact nI_clamp h
theorem pk_tn {n : Nat} (h : n < 2 ^ 32) : (nI n).toBitVec.toNat = n := Nat.mod_eq_of_lt h
theorem pk_and (x : Int32) {m : Int32} (k : Nat) (hm : m.toBitVec.toNat = 2 ^ k - 1) : x &&& m = nI (x.toBitVec.toNat % 2 ^ k) := by
  apply Int32.toBitVec_inj.mp
  apply BitVec.eq_of_toNat_eq
  rw [Int32.toBitVec_and, BitVec.toNat_and, hm, Nat.and_two_pow_sub_one_eq_mod]
  show _ = (BitVec.ofNat 32 _).toNat
  rw [BitVec.toNat_ofNat]
  exact (Nat.mod_eq_of_lt (Nat.lt_of_le_of_lt (Nat.mod_le _ _) x.toBitVec.isLt)).symm
def bt (x : Int32) (i : Nat) : Bool := x.toBitVec.getLsbD i
theorem b_and (x y : Int32) (i : Nat) : bt (x &&& y) i = (bt x i && bt y i) := by unfold bt; rw [Int32.toBitVec_and, BitVec.getLsbD_and]
theorem s_l : ∀ n, n < 32 → ((nI n &&& 31).toBitVec.smod 32).toNat = n := by decide +kernel
theorem b_sshr (n : Nat) (hn : n < 32) (x : Int32) {i : Nat} (hi : i < 32) : bt (x >>> (nI n &&& 31)) i = if n + i < 32 then bt x (n + i) else bt x 31 := by
  unfold bt
  rw [Int32.toBitVec_shiftRight]
  show (x.toBitVec.sshiftRight ((nI n &&& 31).toBitVec.smod 32).toNat).getLsbD i = _
  rw [s_l n hn, BitVec.getLsbD_sshiftRight, BitVec.msb_eq_getLsbD_last]
  simp [hi]
/-- slot t of f replaced, in its first e cells, by g -/
def sk_st (f : Nat → Int32) (t : Nat) (g : Nat → Int32) (e : Nat) : Nat → Int32 := fun j => if 36 * t ≤ j ∧ j < 36 * t + e then g (j - 36 * t) else f j
theorem sk_st0 (f : Nat → Int32) (t : Nat) (g : Nat → Int32) : sk_st f t g 0 = f := by
  funext j
  show (if 36 * t ≤ j ∧ j < 36 * t + 0 then g (j - 36 * t) else f j) = f j
  rw [if_neg (by omega)]
theorem sk_stS (f : Nat → Int32) (t : Nat) (g : Nat → Int32) (k : Nat) : upd (sk_st f t g k) (36 * t + k) (g k) = sk_st f t g (k + 1) := by
  funext j
  show (if j = 36 * t + k then g k else if 36 * t ≤ j ∧ j < 36 * t + k then g (j - 36 * t) else f j) = (if 36 * t ≤ j ∧ j < 36 * t + (k + 1) then g (j - 36 * t) else f j)
  by_cases h : j = 36 * t + k
  · rw [if_pos h, if_pos (by omega), h, Nat.add_sub_cancel_left]
  · rw [if_neg h]
    by_cases h2 : 36 * t ≤ j ∧ j < 36 * t + k
    · rw [if_pos h2, if_pos (by omega)]
    · rw [if_neg h2, if_neg (by omega)]
theorem sk_stE (f : Nat → Int32) (t : Nat) {g g' : Nat → Int32} {e : Nat} (h : ∀ j, j < e → g j = g' j) : sk_st f t g e = sk_st f t g' e := by
  funext j
  show (if 36 * t ≤ j ∧ j < 36 * t + e then g (j - 36 * t) else f j) = (if 36 * t ≤ j ∧ j < 36 * t + e then g' (j - 36 * t) else f j)
  by_cases h2 : 36 * t ≤ j ∧ j < 36 * t + e
  · rw [if_pos h2, if_pos h2, h _ (by omega)]
  · rw [if_neg h2, if_neg h2]
/-- the number of cells that are not 0 among the first k from b on -/
def sk_cn (f : Nat → Int32) (b : Nat) : Nat → Int32
  | 0 => 0
  | k + 1 => if f (b + k) = 0 then sk_cn f b k else sk_cn f b k + 1
theorem sk_cn_z {f : Nat → Int32} {b k : Nat} (h : f (b + k) = 0) : sk_cn f b (k + 1) = sk_cn f b k := if_pos h
theorem sk_cn_n {f : Nat → Int32} {b k : Nat} (h : ¬ f (b + k) = 0) : sk_cn f b (k + 1) = sk_cn f b k + 1 := if_neg h
/-- the sum of the first k of g -/
def sk_sm (g : Nat → Int32) : Nat → Int32
  | 0 => 0
  | k + 1 => sk_sm g k + g k
theorem sk_smE {g g' : Nat → Int32} : ∀ {e : Nat}, (∀ j, j < e → g j = g' j) → sk_sm g e = sk_sm g' e := by
  intro e
  induction e with
  | zero => intro _; rfl
  | succ e ih =>
    intro h
    show sk_sm g e + g e = sk_sm g' e + g' e
    rw [ih (fun j hj => h j (by omega)), h e (by omega)]
/-- an entry of the product of slots a and b -/
def sk_en (f : Nat → Int32) (a b i j : Nat) : Int32 := sk_sm (fun k => f (36 * a + 6 * i + k) * f (36 * b + 6 * k + j)) 6
/-- filling a scratch array cell by cell -/
theorem sk_fill {m G : Nat → Int32} {i : Nat} {x : Int32} (h : ∀ j, j < i → m j = G j) (hx : x = G i) : ∀ j, j < i + 1 → upd m i x j = G j := by
  intro j hj
  by_cases e : j = i
  · rw [e, pk_us, hx]
  · rw [pk_un e]; exact h j (by omega)
theorem sk_36 : (36 : Int32) = nI 36 := rfl
theorem sk_6 : (6 : Int32) = nI 6 := rfl
theorem sk_ixX (a c : Nat) : nI a * 36 + nI c = nI (36 * a + c) := by
  rw [sk_36, pk_mul, nI_add, Nat.mul_comm]
theorem sk_ixY (a c : Nat) : 36 * nI a + nI c = nI (36 * a + c) := by
  rw [sk_36, pk_mul, nI_add]
theorem sk_ijX (a i j : Nat) : nI a * 36 + nI i * 6 + nI j = nI (36 * a + 6 * i + j) := by
  rw [sk_36, sk_6, pk_mul, pk_mul, nI_add, nI_add, Nat.mul_comm a, Nat.mul_comm i]
theorem sk_ijY (a i j : Nat) : 36 * nI a + 6 * nI i + nI j = nI (36 * a + 6 * i + j) := by
  rw [sk_36, sk_6, pk_mul, pk_mul, nI_add, nI_add]
theorem sk_ij6 (i j : Nat) : nI i * 6 + nI j = nI (6 * i + j) := by
  rw [sk_6, pk_mul, nI_add, Nat.mul_comm]
theorem sk_dv {c : Nat} (h : c < 36) : nI c / 6 = nI (c / 6) := pk_div (d := 6) (by omega) (by decide) (by decide)
theorem sk_rm {c : Nat} (h : c < 36) : nI c - nI c / 6 * 6 = nI (c % 6) := pk_rem (d := 6) (by omega) (by decide) (by decide)
/-- the slots' and lines' ranges -/
theorem sk_rg (x : Int32) {n : Nat} (hn : n < 2 ^ 31) : (∃ j : Nat, j < n ∧ x = nI j) ∨ (x < 0 ∨ (¬ x < 0 ∧ nI n ≤ x)) := by
  by_cases h : x < 0
  · exact Or.inr (Or.inl h)
  · obtain ⟨j, hj, rfl⟩ := nI_of h
    by_cases h2 : j < n
    · exact Or.inl ⟨j, h2, rfl⟩
    · exact Or.inr (Or.inr ⟨h, nI_le (by omega) hj⟩)
/-- one bit -/
theorem sk_b1 (x : Int32) : x &&& 1 = 1 ↔ bt x 0 = true := by
  rw [pk_and x (m := 1) 1 (by decide)]
  show nI (x.toBitVec.toNat % 2 ^ 1) = nI 1 ↔ _
  rw [nI_eq (by omega) (by omega)]
  show _ ↔ x.toBitVec.toNat.testBit 0 = true
  rw [Nat.testBit_zero, decide_eq_true_eq]
theorem sk_63 : ∀ i, i < 6 → bt 63 i = true := by decide +kernel
theorem sk_bs (x : Int32) (n : Nat) (hn : n < 32) : bt (x >>> (nI n &&& 31)) 0 = bt x n := by
  rw [b_sshr n hn x (by decide), if_pos (by omega)]
  rfl
theorem sk_sel (p : Int32) (i j : Nat) (hi : i < 6) (hj : j < 6) : ((((p &&& 63) >>> (nI i &&& 31)) &&& ((p >>> (nI 6 &&& 31)) >>> (nI j &&& 31))) &&& 1 = 1) ↔ (((p >>> (nI i &&& 31)) &&& 1 = 1) ∧ ((p >>> (nI (6 + j) &&& 31)) &&& 1 = 1)) := by
  rw [sk_b1, sk_b1, sk_b1, b_and, sk_bs _ i (by omega), sk_bs _ j (by omega), sk_bs _ i (by omega), sk_bs _ (6 + j) (by omega), b_and, sk_63 i hi, b_sshr 6 (by omega) p (by omega), if_pos (by omega), Bool.and_true, Bool.and_eq_true]
/-- in range, as a natural number -/
def sk_in (n : Nat) (x : Int32) : Prop := ∃ k : Nat, k < n ∧ x = nI k
theorem sk_10 : ¬ (1 : Int32) = 0 := by decide
theorem sk_60 : ¬ (6 : Int32) = 0 := by decide
theorem sk_lt1 {x : Int32} {n : Nat} (hn : n + 1 < 2 ^ 31) (h0 : ¬ x < 0) (h : nI (n + 1) ≤ x) : nI n < x := by
  obtain ⟨j, hj, rfl⟩ := nI_of h0
  rw [nI_leI hn hj] at h
  exact nI_lt (by omega) hj
theorem sk_no_in {n : Nat} {x : Int32} (hn : n < 2 ^ 31) (h : x < 0 ∨ (¬ x < 0 ∧ nI n ≤ x)) : ¬ sk_in n x := by
  rintro ⟨k, hk, rfl⟩
  rcases h with h | ⟨_, h⟩
  · exact nI_pos (by omega) h
  · exact nI_ge hk hn h
/-- the seven matrices that are made -/
def sk_ga (f : Nat → Int32) (a b : Nat) : Nat → Int32 := fun k => f (36 * a + k) + f (36 * b + k)
def sk_ge (f : Nat → Int32) (a b : Nat) : Nat → Int32 := fun k => f (36 * a + k) * f (36 * b + k)
def sk_gp (f : Nat → Int32) (a b : Nat) : Nat → Int32 := fun c => sk_en f a b (c / 6) (c % 6)
def sk_gm (f : Nat → Int32) (a b q : Nat) : Nat → Int32 := fun c => if f (36 * q + c) = 0 then 0 else sk_gp f a b c
def sk_gt (f : Nat → Int32) (a : Nat) : Nat → Int32 := fun c => f (36 * a + 6 * (c % 6) + c / 6)
def sk_gs (f : Nat → Int32) (a : Nat) (k : Int32) : Nat → Int32 := fun c => f (36 * a + c) * k
noncomputable def sk_gl (f : Nat → Int32) (a : Nat) (p : Int32) : Nat → Int32 := fun c => if ((p >>> (nI (c / 6) &&& 31)) &&& 1 = 1) ∧ ((p >>> (nI (6 + c % 6) &&& 31)) &&& 1 = 1) then f (36 * a + c) else 0
theorem sk_d6 {i j : Nat} (hj : j < 6) : (6 * i + j) / 6 = i := by omega
theorem sk_m6 {i j : Nat} (hj : j < 6) : (6 * i + j) % 6 = j := by omega
theorem sk_gp6 {f : Nat → Int32} {a b i j : Nat} (hj : j < 6) : sk_en f a b i j = sk_gp f a b (6 * i + j) := by
  show _ = sk_en f a b ((6 * i + j) / 6) ((6 * i + j) % 6)
  rw [sk_d6 hj, sk_m6 hj]
theorem sk_gt6 {f : Nat → Int32} {a i j : Nat} (hj : j < 6) : f (36 * a + 6 * j + i) = sk_gt f a (6 * i + j) := by
  show _ = f (36 * a + 6 * ((6 * i + j) % 6) + (6 * i + j) / 6)
  rw [sk_d6 hj, sk_m6 hj]
/-- what a call that stores a made matrix owes -/
def sk_P (post : Int32 → (Nat → Int32) × (Nat → Int32) → Prop) (f : Nat → Int32) (t : Nat) (G : Nat → Int32) : Prop := ∀ m : Nat → Int32, post (sk_cn (sk_st f t G 36) (36 * t) 36) (sk_st f t G 36, m)
/-- slot s is symmetric -/
def sk_Sy (f : Nat → Int32) (s : Nat) : Prop := ∀ i j : Nat, i < 6 → j < 6 → f (36 * s + 6 * i + j) = f (36 * s + 6 * j + i)
end
section
/-! X: its guards, counting, storing, and the calls that make a matrix -/
theorem sk_xgS {x : Int32} {A B : Prop} (a : ¬ sk_in 5 x → A) (b : sk_in 5 x → B) : wpX_isSlot (fun r => (r = 0 → A) ∧ (¬ r = 0 → B)) x := by
  rcases sk_rg x (n := 5) (by decide) with ⟨k, hk, rfl⟩ | h
  · exact br_f (nI_pos (by omega)) (br_f (nI_ge (b := 5) hk (by decide)) (br_f sk_10 (b ⟨k, hk, rfl⟩)))
  · have hn := sk_no_in (by decide) h
    rcases h with h | ⟨h0, h5⟩
    · exact br_t h (br_t rfl (a hn))
    · exact br_f h0 (br_t h5 (br_t rfl (a hn)))
theorem sk_xgL {x : Int32} {A B : Prop} (a : ¬ sk_in 6 x → A) (b : sk_in 6 x → B) : wpX_isLine (fun r => (r = 0 → A) ∧ (¬ r = 0 → B)) x := by
  rcases sk_rg x (n := 6) (by decide) with ⟨k, hk, rfl⟩ | h
  · exact br_f (nI_pos (by omega)) (br_f (nI_ge (b := 6) hk (by decide)) (br_f sk_10 (b ⟨k, hk, rfl⟩)))
  · have hn := sk_no_in (by decide) h
    rcases h with h | ⟨h0, h5⟩
    · exact br_t h (br_t rfl (a hn))
    · exact br_f h0 (br_t h5 (br_t rfl (a hn)))
theorem sk_xgE {x y z : Int32} {A B : Prop} (a : ¬ (sk_in 5 x ∧ sk_in 6 y ∧ sk_in 6 z) → A) (b : sk_in 5 x ∧ sk_in 6 y ∧ sk_in 6 z → B) : wpX_isEntry (fun r => (r = 0 → A) ∧ (¬ r = 0 → B)) x y z := by
  unfold wpX_isEntry
  refine sk_xgS (fun h => br_t rfl (a fun q => h q.1)) fun h1 => ?_
  refine sk_xgL (fun h => br_t rfl (a fun q => h q.2.1)) fun h2 => ?_
  exact sk_xgL (fun h => br_t rfl (a fun q => h q.2.2)) fun h3 => br_f sk_10 (b ⟨h1, h2, h3⟩)
theorem sk_iS {k : Nat} (h : k < 5) : sk_in 5 (nI k) := ⟨k, h, rfl⟩
theorem sk_iL {k : Nat} (h : k < 6) : sk_in 6 (nI k) := ⟨k, h, rfl⟩
theorem sk_xcn {post : Int32 → Prop} {f m : Nat → Int32} {t : Nat} (ht : t < 5) (h : post (sk_cn f (36 * t) 36)) : wpX_countNonZero post (f, m) (nI t) :=
  loop_0 (fun n i (s : Int32) => wX_countNonZero_4 post (nI t) f m n s (nI i)) (fun i s => s = sk_cn f (36 * t) i) 36 0 rfl
    (fun n s hs => by subst hs; exact br_t (nI_le (Nat.le_refl 36) (by decide)) h)
    (fun n i s hi hs ih => by
      subst hs
      have e : nI t * 36 + nI i = nI (36 * t + i) := sk_ixX t i
      have ec : (nI t * 36 + nI i).toNatClampNeg = 36 * t + i := pk_cl (36 * t + i) e
      refine br_f (nI_ge (b := 36) hi (by decide)) ⟨pk_in (36 * t + i) 180 (by omega) e, ?_⟩
      rw [ec]
      refine br_c (fun hz x ex => ?_) (fun hz y ey x ex => ?_)
      · rw [ex, nI_1 i]; exact ih _ (sk_cn_z hz).symm
      · rw [ey, ex, nI_1 i]; exact ih _ (sk_cn_n hz).symm)
theorem sk_xst {post : Int32 → SX → Prop} {f m G : Nat → Int32} {t : Nat} (ht : t < 5) (hG : ∀ j, j < 36 → m j = G j) (h : post (sk_cn (sk_st f t G 36) (36 * t) 36) (sk_st f t G 36, m)) : wpX_storeMade post (f, m) (nI t) :=
  loop_0 (fun n i (s : Nat → Int32) => wX_storeMade_2 post (nI t) n (nI i) s m) (fun i s => s = sk_st f t G i) 36 f (sk_st0 f t G).symm
    (fun n s hs => by subst hs; exact br_t (nI_le (Nat.le_refl 36) (by decide)) (sk_xcn ht h))
    (fun n i s hi hs ih => by
      subst hs
      have e := sk_ixX t i
      have ec : (nI t * 36 + nI i).toNatClampNeg = 36 * t + i := pk_cl (36 * t + i) e
      have ei : (nI i).toNatClampNeg = i := pk_cl i
      refine br_f (nI_ge (b := 36) hi (by decide)) ⟨vp_in_nI hi (by decide), pk_in (36 * t + i) 180 (by omega) e, fun y ey x ex => ?_⟩
      rw [ex, nI_1 i, ey, ec, ei, hG i hi]
      exact ih _ (sk_stS f t G i))
theorem sk_xadL {post : Int32 → SX → Prop} {f m : Nat → Int32} {t a b : Nat} (ht : t < 5) (ha : a < 5) (hb : b < 5) (h : sk_P post f t (sk_ga f a b)) : ∃ n, wX_add_26 post (nI t) (nI a) (nI b) n 0 f m :=
  loop_0 (fun n i (s : Nat → Int32) => wX_add_26 post (nI t) (nI a) (nI b) n (nI i) f s) (fun i s => ∀ j, j < i → s j = sk_ga f a b j) 36 m (fun j hj => absurd hj (Nat.not_lt_zero j))
    (fun n s hs => br_t (nI_le (Nat.le_refl 36) (by decide)) (sk_xst (G := sk_ga f a b) ht hs (h s)))
    (fun n i s hi hs ih => by
      have ea := sk_ixX a i
      have eb := sk_ixX b i
      have ca : (nI a * 36 + nI i).toNatClampNeg = 36 * a + i := pk_cl (36 * a + i) ea
      have cb : (nI b * 36 + nI i).toNatClampNeg = 36 * b + i := pk_cl (36 * b + i) eb
      have ci : (nI i).toNatClampNeg = i := pk_cl i
      refine br_f (nI_ge (b := 36) hi (by decide)) ⟨pk_in (36 * a + i) 180 (by omega) ea, pk_in (36 * b + i) 180 (by omega) eb, vp_in_nI hi (by decide), fun y ey x ex => ?_⟩
      rw [ex, nI_1 i, ey, ca, cb, ci]
      exact ih _ (sk_fill hs rfl))
theorem sk_xad {post : Int32 → SX → Prop} {f m : Nat → Int32} {t a b : Nat} (ht : t < 5) (ha : a < 5) (hb : b < 5) (h : sk_P post f t (sk_ga f a b)) : wpX_add post (f, m) (nI t) (nI a) (nI b) := by
  unfold wpX_add
  exact sk_xgS (fun z => absurd (sk_iS ht) z) fun _ => sk_xgS (fun z => absurd (sk_iS ha) z) fun _ => sk_xgS (fun z => absurd (sk_iS hb) z) fun _ => sk_xadL ht ha hb h
theorem sk_xad0 {post : Int32 → SX → Prop} {f m : Nat → Int32} {x y z : Int32} (hc : ¬ (sk_in 5 x ∧ sk_in 5 y ∧ sk_in 5 z)) (h : post (-1) (f, m)) : wpX_add post (f, m) x y z := by
  unfold wpX_add
  exact sk_xgS (fun _ => h) fun h1 => sk_xgS (fun _ => h) fun h2 => sk_xgS (fun _ => h) fun h3 => absurd ⟨h1, h2, h3⟩ hc
theorem sk_xewL {post : Int32 → SX → Prop} {f m : Nat → Int32} {t a b : Nat} (ht : t < 5) (ha : a < 5) (hb : b < 5) (h : sk_P post f t (sk_ge f a b)) : ∃ n, wX_entrywise_26 post (nI t) (nI a) (nI b) n 0 f m :=
  loop_0 (fun n i (s : Nat → Int32) => wX_entrywise_26 post (nI t) (nI a) (nI b) n (nI i) f s) (fun i s => ∀ j, j < i → s j = sk_ge f a b j) 36 m (fun j hj => absurd hj (Nat.not_lt_zero j))
    (fun n s hs => br_t (nI_le (Nat.le_refl 36) (by decide)) (sk_xst (G := sk_ge f a b) ht hs (h s)))
    (fun n i s hi hs ih => by
      have ea := sk_ixX a i
      have eb := sk_ixX b i
      have ca : (nI a * 36 + nI i).toNatClampNeg = 36 * a + i := pk_cl (36 * a + i) ea
      have cb : (nI b * 36 + nI i).toNatClampNeg = 36 * b + i := pk_cl (36 * b + i) eb
      have ci : (nI i).toNatClampNeg = i := pk_cl i
      refine br_f (nI_ge (b := 36) hi (by decide)) ⟨pk_in (36 * a + i) 180 (by omega) ea, pk_in (36 * b + i) 180 (by omega) eb, vp_in_nI hi (by decide), fun y ey x ex => ?_⟩
      rw [ex, nI_1 i, ey, ca, cb, ci]
      exact ih _ (sk_fill hs rfl))
theorem sk_xew {post : Int32 → SX → Prop} {f m : Nat → Int32} {t a b : Nat} (ht : t < 5) (ha : a < 5) (hb : b < 5) (h : sk_P post f t (sk_ge f a b)) : wpX_entrywise post (f, m) (nI t) (nI a) (nI b) := by
  unfold wpX_entrywise
  exact sk_xgS (fun z => absurd (sk_iS ht) z) fun _ => sk_xgS (fun z => absurd (sk_iS ha) z) fun _ => sk_xgS (fun z => absurd (sk_iS hb) z) fun _ => sk_xewL ht ha hb h
theorem sk_xew0 {post : Int32 → SX → Prop} {f m : Nat → Int32} {x y z : Int32} (hc : ¬ (sk_in 5 x ∧ sk_in 5 y ∧ sk_in 5 z)) (h : post (-1) (f, m)) : wpX_entrywise post (f, m) x y z := by
  unfold wpX_entrywise
  exact sk_xgS (fun _ => h) fun h1 => sk_xgS (fun _ => h) fun h2 => sk_xgS (fun _ => h) fun h3 => absurd ⟨h1, h2, h3⟩ hc
theorem sk_xscL {post : Int32 → SX → Prop} {f m : Nat → Int32} {t a : Nat} {k : Int32} (ht : t < 5) (ha : a < 5) (h : sk_P post f t (sk_gs f a k)) : ∃ n, wX_scale_19 post (nI t) (nI a) k n 0 f m :=
  loop_0 (fun n i (s : Nat → Int32) => wX_scale_19 post (nI t) (nI a) k n (nI i) f s) (fun i s => ∀ j, j < i → s j = sk_gs f a k j) 36 m (fun j hj => absurd hj (Nat.not_lt_zero j))
    (fun n s hs => br_t (nI_le (Nat.le_refl 36) (by decide)) (sk_xst (G := sk_gs f a k) ht hs (h s)))
    (fun n i s hi hs ih => by
      have ea := sk_ixX a i
      have ca : (nI a * 36 + nI i).toNatClampNeg = 36 * a + i := pk_cl (36 * a + i) ea
      have ci : (nI i).toNatClampNeg = i := pk_cl i
      refine br_f (nI_ge (b := 36) hi (by decide)) ⟨pk_in (36 * a + i) 180 (by omega) ea, vp_in_nI hi (by decide), fun y ey x ex => ?_⟩
      rw [ex, nI_1 i, ey, ca, ci]
      exact ih _ (sk_fill hs rfl))
theorem sk_xsc {post : Int32 → SX → Prop} {f m : Nat → Int32} {t a : Nat} {k : Int32} (ht : t < 5) (ha : a < 5) (h : sk_P post f t (sk_gs f a k)) : wpX_scale post (f, m) (nI t) (nI a) k := by
  unfold wpX_scale
  exact sk_xgS (fun z => absurd (sk_iS ht) z) fun _ => sk_xgS (fun z => absurd (sk_iS ha) z) fun _ => sk_xscL ht ha h
theorem sk_xsc0 {post : Int32 → SX → Prop} {f m : Nat → Int32} {x y k : Int32} (hc : ¬ (sk_in 5 x ∧ sk_in 5 y)) (h : post (-1) (f, m)) : wpX_scale post (f, m) x y k := by
  unfold wpX_scale
  exact sk_xgS (fun _ => h) fun h1 => sk_xgS (fun _ => h) fun h2 => absurd ⟨h1, h2⟩ hc
end
section
/-! X: product, masked, transpose, select -/
theorem sk_xmp24 {post : SX → Prop} {J2 J11 : Int32 → (Nat → Int32) → (Nat → Int32) → Prop} {f m : Nat → Int32} {a b i j : Nat} (ha : a < 5) (hb : b < 5) (hi : i < 6) (hj : j < 6) (h : J11 (nI (j + 1)) f (upd m (6 * i + j) (sk_en f a b i j))) : ∃ n, wX_makeProduct_24 post J2 J11 (nI a) (nI b) (nI i) (nI j) f m n 0 0 :=
  loop_0 (fun n k (s : Int32) => wX_makeProduct_24 post J2 J11 (nI a) (nI b) (nI i) (nI j) f m n s (nI k)) (fun k s => s = sk_sm (fun k => f (36 * a + 6 * i + k) * f (36 * b + 6 * k + j)) k) 6 0 rfl
    (fun n s hs => by
      subst hs
      have e := sk_ij6 i j
      have ec : (nI i * 6 + nI j).toNatClampNeg = 6 * i + j := pk_cl (6 * i + j) e
      refine br_t (nI_le (Nat.le_refl 6) (by decide)) ⟨pk_in (6 * i + j) 36 (by omega) e, fun y ey x ex => ?_⟩
      rw [ex, nI_1 j, ey, ec]
      exact h)
    (fun n k s hk hs ih => by
      subst hs
      have ea := sk_ijX a i k
      have eb := sk_ijX b k j
      have ca : (nI a * 36 + nI i * 6 + nI k).toNatClampNeg = 36 * a + 6 * i + k := pk_cl (36 * a + 6 * i + k) ea
      have cb : (nI b * 36 + nI k * 6 + nI j).toNatClampNeg = 36 * b + 6 * k + j := pk_cl (36 * b + 6 * k + j) eb
      refine br_f (nI_ge (b := 6) hk (by decide)) ⟨pk_in (36 * a + 6 * i + k) 180 (by omega) ea, pk_in (36 * b + 6 * k + j) 180 (by omega) eb, fun y ey x ex => ?_⟩
      rw [ex, nI_1 k, ey, ca, cb]
      exact ih _ rfl)
theorem sk_xmp11 {post : SX → Prop} {J2 : Int32 → (Nat → Int32) → (Nat → Int32) → Prop} {f m : Nat → Int32} {a b i : Nat} (ha : a < 5) (hb : b < 5) (hi : i < 6) (hm : ∀ c, c < 6 * i → m c = sk_gp f a b c) (h : ∀ m', (∀ c, c < 6 * (i + 1) → m' c = sk_gp f a b c) → J2 (nI (i + 1)) f m') : ∃ n, wX_makeProduct_11 post J2 (nI a) (nI b) (nI i) n 0 f m :=
  loop_0 (fun n j (s : Nat → Int32) => wX_makeProduct_11 post J2 (nI a) (nI b) (nI i) n (nI j) f s) (fun j s => ∀ c, c < 6 * i + j → s c = sk_gp f a b c) 6 m hm
    (fun n s hs => by
      refine br_t (nI_le (Nat.le_refl 6) (by decide)) (fun x ex => ?_)
      rw [ex, nI_1 i]
      exact h s (fun c hc => hs c (by omega)))
    (fun n j s hj hs ih => br_f (nI_ge (b := 6) hj (by decide)) (sk_xmp24 ha hb hi hj (ih _ (sk_fill hs (sk_gp6 hj)))))
theorem sk_xmp {post : SX → Prop} {f m : Nat → Int32} {a b : Nat} (ha : a < 5) (hb : b < 5) (h : ∀ m', (∀ c, c < 36 → m' c = sk_gp f a b c) → post (f, m')) : wpX_makeProduct post (f, m) (nI a) (nI b) :=
  loop_0 (fun n i (s : Nat → Int32) => wX_makeProduct_2 post (nI a) (nI b) n (nI i) f s) (fun i s => ∀ c, c < 6 * i → s c = sk_gp f a b c) 6 m (fun c hc => absurd hc (by omega))
    (fun n s hs => br_t (nI_le (Nat.le_refl 6) (by decide)) (h s (fun c hc => hs c (by omega))))
    (fun n i s hi hs ih => br_f (nI_ge (b := 6) hi (by decide)) (sk_xmp11 ha hb hi hs ih))
theorem sk_xpr {post : Int32 → SX → Prop} {f m : Nat → Int32} {t a b : Nat} (ht : t < 5) (ha : a < 5) (hb : b < 5) (h : sk_P post f t (sk_gp f a b)) : wpX_product post (f, m) (nI t) (nI a) (nI b) := by
  unfold wpX_product
  exact sk_xgS (fun z => absurd (sk_iS ht) z) fun _ => sk_xgS (fun z => absurd (sk_iS ha) z) fun _ => sk_xgS (fun z => absurd (sk_iS hb) z) fun _ => sk_xmp ha hb fun m' hm => sk_xst (G := sk_gp f a b) ht hm (h m')
theorem sk_xpr0 {post : Int32 → SX → Prop} {f m : Nat → Int32} {x y z : Int32} (hc : ¬ (sk_in 5 x ∧ sk_in 5 y ∧ sk_in 5 z)) (h : post (-1) (f, m)) : wpX_product post (f, m) x y z := by
  unfold wpX_product
  exact sk_xgS (fun _ => h) fun h1 => sk_xgS (fun _ => h) fun h2 => sk_xgS (fun _ => h) fun h3 => absurd ⟨h1, h2, h3⟩ hc
theorem sk_xmkL {post : Int32 → SX → Prop} {f m : Nat → Int32} {t a b q : Nat} (ht : t < 5) (hq : q < 5) (hm : ∀ c, c < 36 → m c = sk_gp f a b c) (h : sk_P post f t (sk_gm f a b q)) : ∃ n, wX_masked_61 post (nI t) (nI q) n 0 f m :=
  loop_0 (fun n i (s : Nat → Int32) => wX_masked_61 post (nI t) (nI q) n (nI i) f s) (fun i s => (∀ c, c < i → s c = sk_gm f a b q c) ∧ (∀ c, c < 36 → i ≤ c → s c = sk_gp f a b c)) 36 m ⟨fun j hj => absurd hj (Nat.not_lt_zero j), fun c hc _ => hm c hc⟩
    (fun n s hs => br_t (nI_le (Nat.le_refl 36) (by decide)) (sk_xst (G := sk_gm f a b q) ht hs.1 (h s)))
    (fun n i s hi hs ih => by
      have ea := sk_ixX q i
      have ca : (nI q * 36 + nI i).toNatClampNeg = 36 * q + i := pk_cl (36 * q + i) ea
      have ci : (nI i).toNatClampNeg = i := pk_cl i
      refine br_f (nI_ge (b := 36) hi (by decide)) ⟨pk_in (36 * q + i) 180 (by omega) ea, ?_⟩
      rw [ca]
      refine br_c (fun hz => ⟨vp_in_nI hi (by decide), fun y ey x ex => ?_⟩) (fun hz x ex => ?_)
      · rw [ex, nI_1 i, ey, ci]
        refine ih _ ⟨sk_fill hs.1 (if_pos hz).symm, fun c hc h2 => ?_⟩
        rw [pk_un (by omega)]
        exact hs.2 c hc (by omega)
      · rw [ex, nI_1 i]
        refine ih _ ⟨fun c hc => ?_, fun c hc h2 => hs.2 c hc (by omega)⟩
        by_cases e : c = i
        · rw [e, hs.2 i hi (Nat.le_refl i)]
          exact (if_neg hz).symm
        · exact hs.1 c (by omega))
theorem sk_xmk {post : Int32 → SX → Prop} {f m : Nat → Int32} {t a b q : Nat} {p : Int32} (ht : t < 5) (ha : a < 5) (hb : b < 5) (hq : q < 5) (ea : p &&& 7 = nI a) (eb : (p >>> ((3 : Int32) &&& 31)) &&& 7 = nI b) (eq : p >>> ((6 : Int32) &&& 31) = nI q) (h : sk_P post f t (sk_gm f a b q)) : wpX_masked post (f, m) (nI t) p := by
  unfold wpX_masked
  intro x3 e3 x4 e4 x5 e5
  cases e3.trans ea
  cases e4.trans eb
  cases e5.trans eq
  exact sk_xgS (fun z => absurd (sk_iS ht) z) fun _ => sk_xgS (fun z => absurd (sk_iS ha) z) fun _ => sk_xgS (fun z => absurd (sk_iS hb) z) fun _ => sk_xgS (fun z => absurd (sk_iS hq) z) fun _ => sk_xmp ha hb fun m' hm => sk_xmkL ht hq hm h
theorem sk_xmk0 {post : Int32 → SX → Prop} {f m : Nat → Int32} {x p : Int32} (hc : ¬ (sk_in 5 x ∧ sk_in 5 (p &&& 7) ∧ sk_in 5 ((p >>> ((3 : Int32) &&& 31)) &&& 7) ∧ sk_in 5 (p >>> ((6 : Int32) &&& 31)))) (h : post (-1) (f, m)) : wpX_masked post (f, m) x p := by
  unfold wpX_masked
  intro x3 e3 x4 e4 x5 e5
  cases e3
  cases e4
  cases e5
  exact sk_xgS (fun _ => h) fun h1 => sk_xgS (fun _ => h) fun h2 => sk_xgS (fun _ => h) fun h3 => sk_xgS (fun _ => h) fun h4 => absurd ⟨h1, h2, h3, h4⟩ hc
theorem sk_xtr27 {post : Int32 → SX → Prop} {J : Int32 → (Nat → Int32) → (Nat → Int32) → Prop} {f m : Nat → Int32} {t a i : Nat} (ha : a < 5) (hi : i < 6) (hm : ∀ c, c < 6 * i → m c = sk_gt f a c) (h : ∀ m', (∀ c, c < 6 * (i + 1) → m' c = sk_gt f a c) → J (nI (i + 1)) f m') : ∃ n, wX_transpose_27 post J (nI t) (nI a) (nI i) n 0 f m :=
  loop_0 (fun n j (s : Nat → Int32) => wX_transpose_27 post J (nI t) (nI a) (nI i) n (nI j) f s) (fun j s => ∀ c, c < 6 * i + j → s c = sk_gt f a c) 6 m hm
    (fun n s hs => by
      refine br_t (nI_le (Nat.le_refl 6) (by decide)) (fun x ex => ?_)
      rw [ex, nI_1 i]
      exact h s (fun c hc => hs c (by omega)))
    (fun n j s hj hs ih => by
      have ea := sk_ijX a j i
      have e6 := sk_ij6 i j
      have ca : (nI a * 36 + nI j * 6 + nI i).toNatClampNeg = 36 * a + 6 * j + i := pk_cl (36 * a + 6 * j + i) ea
      have c6 : (nI i * 6 + nI j).toNatClampNeg = 6 * i + j := pk_cl (6 * i + j) e6
      refine br_f (nI_ge (b := 6) hj (by decide)) ⟨pk_in (36 * a + 6 * j + i) 180 (by omega) ea, pk_in (6 * i + j) 36 (by omega) e6, fun y ey x ex => ?_⟩
      rw [ex, nI_1 j, ey, ca, c6]
      exact ih _ (sk_fill hs (sk_gt6 hj)))
theorem sk_xtr {post : Int32 → SX → Prop} {f m : Nat → Int32} {t a : Nat} (ht : t < 5) (ha : a < 5) (h : sk_P post f t (sk_gt f a)) : wpX_transpose post (f, m) (nI t) (nI a) := by
  unfold wpX_transpose
  refine sk_xgS (fun z => absurd (sk_iS ht) z) fun _ => sk_xgS (fun z => absurd (sk_iS ha) z) fun _ => ?_
  exact loop_0 (fun n i (s : Nat → Int32) => wX_transpose_18 post (nI t) (nI a) n (nI i) f s) (fun i s => ∀ c, c < 6 * i → s c = sk_gt f a c) 6 m (fun c hc => absurd hc (by omega))
    (fun n s hs => br_t (nI_le (Nat.le_refl 6) (by decide)) (sk_xst (G := sk_gt f a) ht (fun c hc => hs c (by omega)) (h s)))
    (fun n i s hi hs ih => br_f (nI_ge (b := 6) hi (by decide)) (sk_xtr27 ha hi hs ih))
theorem sk_xtr0 {post : Int32 → SX → Prop} {f m : Nat → Int32} {x y : Int32} (hc : ¬ (sk_in 5 x ∧ sk_in 5 y)) (h : post (-1) (f, m)) : wpX_transpose post (f, m) x y := by
  unfold wpX_transpose
  exact sk_xgS (fun _ => h) fun h1 => sk_xgS (fun _ => h) fun h2 => absurd ⟨h1, h2⟩ hc
theorem sk_gl6 {f : Nat → Int32} {a i j : Nat} {p : Int32} (hj : j < 6) (h : ((p >>> (nI i &&& 31)) &&& 1 = 1) ∧ ((p >>> (nI (6 + j) &&& 31)) &&& 1 = 1)) : f (36 * a + 6 * i + j) = sk_gl f a p (6 * i + j) := by
  show _ = if ((p >>> (nI ((6 * i + j) / 6) &&& 31)) &&& 1 = 1) ∧ ((p >>> (nI (6 + (6 * i + j) % 6) &&& 31)) &&& 1 = 1) then f (36 * a + (6 * i + j)) else 0
  rw [sk_d6 hj, sk_m6 hj, if_pos h, Nat.add_assoc]
theorem sk_gl0 {f : Nat → Int32} {a i j : Nat} {p : Int32} (hj : j < 6) (h : ¬ (((p >>> (nI i &&& 31)) &&& 1 = 1) ∧ ((p >>> (nI (6 + j) &&& 31)) &&& 1 = 1))) : 0 = sk_gl f a p (6 * i + j) := by
  show _ = if ((p >>> (nI ((6 * i + j) / 6) &&& 31)) &&& 1 = 1) ∧ ((p >>> (nI (6 + (6 * i + j) % 6) &&& 31)) &&& 1 = 1) then f (36 * a + (6 * i + j)) else 0
  rw [sk_d6 hj, sk_m6 hj, if_neg h]
theorem sk_xsl52 {post : Int32 → SX → Prop} {J : Int32 → (Nat → Int32) → (Nat → Int32) → Prop} {f m : Nat → Int32} {t a i : Nat} {p : Int32} (ha : a < 5) (hi : i < 6) (hm : ∀ c, c < 6 * i → m c = sk_gl f a p c) (h : ∀ m', (∀ c, c < 6 * (i + 1) → m' c = sk_gl f a p c) → J (nI (i + 1)) f m') : ∃ n, wX_select_52 post J (nI t) (nI a) (p &&& 63) (p >>> (nI 6 &&& 31)) (nI i) n 0 f m :=
  loop_0 (fun n j (s : Nat → Int32) => wX_select_52 post J (nI t) (nI a) (p &&& 63) (p >>> (nI 6 &&& 31)) (nI i) n (nI j) f s) (fun j s => ∀ c, c < 6 * i + j → s c = sk_gl f a p c) 6 m hm
    (fun n s hs => by
      refine br_t (nI_le (Nat.le_refl 6) (by decide)) (fun x ex => ?_)
      rw [ex, nI_1 i]
      exact h s (fun c hc => hs c (by omega)))
    (fun n j s hj hs ih => by
      have ea := sk_ijX a i j
      have e6 := sk_ij6 i j
      have ca : (nI a * 36 + nI i * 6 + nI j).toNatClampNeg = 36 * a + 6 * i + j := pk_cl (36 * a + 6 * i + j) ea
      have c6 : (nI i * 6 + nI j).toNatClampNeg = 6 * i + j := pk_cl (6 * i + j) e6
      refine br_f (nI_ge (b := 6) hj (by decide)) (br_c (fun hz => ?_) (fun hz => ?_))
      · refine br_f sk_10 ⟨pk_in (36 * a + 6 * i + j) 180 (by omega) ea, pk_in (6 * i + j) 36 (by omega) e6, fun y ey x ex => ?_⟩
        rw [ex, nI_1 j, ey, ca, c6]
        exact ih _ (sk_fill hs (sk_gl6 hj ((sk_sel p i j hi hj).mp hz)))
      · refine br_t rfl ⟨pk_in (6 * i + j) 36 (by omega) e6, fun y ey x ex => ?_⟩
        rw [ex, nI_1 j, ey, c6]
        exact ih _ (sk_fill hs (sk_gl0 hj (fun z => hz ((sk_sel p i j hi hj).mpr z)))))
theorem sk_xsl {post : Int32 → SX → Prop} {f m : Nat → Int32} {t a : Nat} {p : Int32} (ht : t < 5) (ha : a < 5) (h0 : ¬ p < 0) (h4 : p < 4096) (h : sk_P post f t (sk_gl f a p)) : wpX_select post (f, m) (nI t) (nI a) p := by
  unfold wpX_select
  refine sk_xgS (fun z => absurd (sk_iS ht) z) fun _ => sk_xgS (fun z => absurd (sk_iS ha) z) fun _ => br_f h0 (br_t h4 ?_)
  intro x4 e4 x5 e5
  cases e4
  cases e5
  exact loop_0 (fun n i (s : Nat → Int32) => wX_select_42 post (nI t) (nI a) (p &&& 63) (p >>> (nI 6 &&& 31)) n (nI i) f s) (fun i s => ∀ c, c < 6 * i → s c = sk_gl f a p c) 6 m (fun c hc => absurd hc (by omega))
    (fun n s hs => br_t (nI_le (Nat.le_refl 6) (by decide)) (sk_xst (G := sk_gl f a p) ht (fun c hc => hs c (by omega)) (h s)))
    (fun n i s hi hs ih => br_f (nI_ge (b := 6) hi (by decide)) (sk_xsl52 ha hi hs ih))
theorem sk_xsl0 {post : Int32 → SX → Prop} {f m : Nat → Int32} {x y p : Int32} (hc : ¬ (sk_in 5 x ∧ sk_in 5 y ∧ ¬ p < 0 ∧ p < 4096)) (h : post (-1) (f, m)) : wpX_select post (f, m) x y p := by
  unfold wpX_select
  exact sk_xgS (fun _ => h) fun h1 => sk_xgS (fun _ => h) fun h2 => br_c (fun _ => h) fun h3 => br_c (fun h4 => absurd ⟨h1, h2, h3, h4⟩ hc) fun _ => h
end
section
/-! X: put, and the calls that only read -/
theorem sk_xpu {post : Int32 → SX → Prop} {f m : Nat → Int32} {s i j : Nat} {v : Int32} (hs : s < 5) (hi : i < 6) (hj : j < 6) (h : post 1 (upd f (36 * s + 6 * i + j) v, m)) : wpX_put post (f, m) (nI s) (nI i) (nI j) v := by
  have e := sk_ijX s i j
  have c : (nI s * 36 + nI i * 6 + nI j).toNatClampNeg = 36 * s + 6 * i + j := pk_cl (36 * s + 6 * i + j) e
  unfold wpX_put
  refine sk_xgE (fun z => absurd ⟨sk_iS hs, sk_iL hi, sk_iL hj⟩ z) fun _ => ⟨pk_in (36 * s + 6 * i + j) 180 (by omega) e, fun y ey => ?_⟩
  rw [ey, c]
  exact h
theorem sk_xpu0 {post : Int32 → SX → Prop} {f m : Nat → Int32} {x y z v : Int32} (hc : ¬ (sk_in 5 x ∧ sk_in 6 y ∧ sk_in 6 z)) (h : post 0 (f, m)) : wpX_put post (f, m) x y z v := by
  unfold wpX_put
  exact sk_xgE (fun _ => h) fun q => absurd q hc
theorem sk_xat {post : Int32 → Prop} {f m : Nat → Int32} {s i j : Nat} (hs : s < 5) (hi : i < 6) (hj : j < 6) (h : post (f (36 * s + 6 * i + j))) : wpX_at post (f, m) (nI s) (nI i) (nI j) := by
  have e := sk_ijX s i j
  have c : (nI s * 36 + nI i * 6 + nI j).toNatClampNeg = 36 * s + 6 * i + j := pk_cl (36 * s + 6 * i + j) e
  unfold wpX_at
  refine sk_xgE (fun z => absurd ⟨sk_iS hs, sk_iL hi, sk_iL hj⟩ z) fun _ => ⟨pk_in (36 * s + 6 * i + j) 180 (by omega) e, ?_⟩
  rw [c]
  exact h
theorem sk_xat0 {post : Int32 → Prop} {f m : Nat → Int32} {x y z : Int32} (hc : ¬ (sk_in 5 x ∧ sk_in 6 y ∧ sk_in 6 z)) (h : post 0) : wpX_at post (f, m) x y z := by
  unfold wpX_at
  exact sk_xgE (fun _ => h) fun q => absurd q hc
theorem sk_xco {post : Int32 → Prop} {f m : Nat → Int32} {s : Nat} (hs : s < 5) (h : post (sk_cn f (36 * s) 36)) : wpX_count post (f, m) (nI s) := by
  unfold wpX_count
  exact sk_xgS (fun z => absurd (sk_iS hs) z) fun _ => sk_xcn hs h
theorem sk_xco0 {post : Int32 → Prop} {f m : Nat → Int32} {x : Int32} (hc : ¬ sk_in 5 x) (h : post (-1)) : wpX_count post (f, m) x := by
  unfold wpX_count
  exact sk_xgS (fun _ => h) fun q => absurd q hc
theorem sk_xrp {post : Int32 → Prop} {f m : Nat → Int32} {a i b j : Nat} (ha : a < 5) (hi : i < 6) (hb : b < 5) (hj : j < 6) (h : post (sk_sm (fun k => f (36 * a + 6 * i + k) * f (36 * b + 6 * j + k)) 6)) : wpX_rowsProduct post (f, m) (nI a) (nI i) (nI b) (nI j) := by
  unfold wpX_rowsProduct
  refine sk_xgS (fun z => absurd (sk_iS ha) z) fun _ => sk_xgL (fun z => absurd (sk_iL hi) z) fun _ => sk_xgS (fun z => absurd (sk_iS hb) z) fun _ => sk_xgL (fun z => absurd (sk_iL hj) z) fun _ => ?_
  exact loop_0 (fun n k (s : Int32) => wX_rowsProduct_37 post (nI a) (nI i) (nI b) (nI j) f m n s (nI k)) (fun k s => s = sk_sm (fun k => f (36 * a + 6 * i + k) * f (36 * b + 6 * j + k)) k) 6 0 rfl
    (fun n s hs => by subst hs; exact br_t (nI_le (Nat.le_refl 6) (by decide)) h)
    (fun n k s hk hs ih => by
      subst hs
      have ea := sk_ijX a i k
      have eb := sk_ijX b j k
      have ca : (nI a * 36 + nI i * 6 + nI k).toNatClampNeg = 36 * a + 6 * i + k := pk_cl (36 * a + 6 * i + k) ea
      have cb : (nI b * 36 + nI j * 6 + nI k).toNatClampNeg = 36 * b + 6 * j + k := pk_cl (36 * b + 6 * j + k) eb
      refine br_f (nI_ge (b := 6) hk (by decide)) ⟨pk_in (36 * a + 6 * i + k) 180 (by omega) ea, pk_in (36 * b + 6 * j + k) 180 (by omega) eb, fun y ey x ex => ?_⟩
      rw [ex, nI_1 k, ey, ca, cb]
      exact ih _ rfl)
theorem sk_xrp0 {post : Int32 → Prop} {f m : Nat → Int32} {x y z w : Int32} (hc : ¬ (sk_in 5 x ∧ sk_in 6 y ∧ sk_in 5 z ∧ sk_in 6 w)) (h : post 0) : wpX_rowsProduct post (f, m) x y z w := by
  unfold wpX_rowsProduct
  exact sk_xgS (fun _ => h) fun h1 => sk_xgL (fun _ => h) fun h2 => sk_xgS (fun _ => h) fun h3 => sk_xgL (fun _ => h) fun h4 => absurd ⟨h1, h2, h3, h4⟩ hc
theorem sk_xse {post : Int32 → Prop} {f m : Nat → Int32} {x y : Int32} (p q : Nat) (hx : x = nI p) (hy : y = nI q) (hpq : ∀ k, k < 6 → p + k * q < 180) (g : Nat → Nat) (hg : ∀ k, k < 6 → p + k * q = g k) (h : post (sk_sm (fun k => f (g k)) 6)) : wpX_sumEvery post (f, m) x y := by
  subst hx hy
  exact loop_0 (fun n k (s : Int32) => wX_sumEvery_5 post (nI p) (nI q) f m n s (nI k)) (fun k s => s = sk_sm (fun k => f (g k)) k) 6 0 rfl
    (fun n s hs => by subst hs; exact br_t (nI_le (Nat.le_refl 6) (by decide)) h)
    (fun n k s hk hs ih => by
      subst hs
      have hb := hpq k hk
      have e : nI p + nI k * nI q = nI (p + k * q) := by rw [pk_mul, nI_add]
      have c : (nI p + nI k * nI q).toNatClampNeg = g k := by rw [← hg k hk]; exact pk_cl (p + k * q) e
      refine br_f (nI_ge (b := 6) hk (by decide)) ⟨pk_in (p + k * q) 180 hb e, fun y ey x ex => ?_⟩
      rw [ex, nI_1 k, ey, c]
      exact ih _ rfl)
theorem sk_xsm0 {post : Int32 → Prop} {f m : Nat → Int32} {x y z : Int32} (hc : ¬ sk_in 5 x ∨ (¬ y = 2 ∧ (¬ sk_in 6 z ∨ (¬ y = 0 ∧ ¬ y = 1)))) (h : post 0) : wpX_sum post (f, m) x y z := by
  unfold wpX_sum
  refine sk_xgS (fun _ => h) fun h1 => ?_
  rcases hc with hc | ⟨h2, hc⟩
  · exact absurd h1 hc
  · refine br_f h2 (sk_xgL (fun _ => h) fun h3 => ?_)
    rcases hc with hc | ⟨h0, h1⟩
    · exact absurd h3 hc
    · exact br_f h0 (br_f h1 h)
theorem sk_xsmR {post : Int32 → Prop} {f m : Nat → Int32} {s i : Nat} (hs : s < 5) (hi : i < 6) (h : post (sk_sm (fun k => f (36 * s + 6 * i + k)) 6)) : wpX_sum post (f, m) (nI s) 0 (nI i) := by
  unfold wpX_sum
  refine sk_xgS (fun z => absurd (sk_iS hs) z) fun _ => br_f (by decide) (sk_xgL (fun z => absurd (sk_iL hi) z) fun _ => br_t rfl ?_)
  exact sk_xse (36 * s + 6 * i) 1 (by rw [sk_36, sk_6, pk_mul, pk_mul, nI_add, Nat.mul_comm s, Nat.mul_comm i]) rfl (by omega) (fun k => 36 * s + 6 * i + k) (fun k _ => by rw [Nat.mul_one]) h
theorem sk_xsmC {post : Int32 → Prop} {f m : Nat → Int32} {s i : Nat} (hs : s < 5) (hi : i < 6) (h : post (sk_sm (fun k => f (36 * s + 6 * k + i)) 6)) : wpX_sum post (f, m) (nI s) 1 (nI i) := by
  unfold wpX_sum
  refine sk_xgS (fun z => absurd (sk_iS hs) z) fun _ => br_f (by decide) (sk_xgL (fun z => absurd (sk_iL hi) z) fun _ => br_f (by decide) (br_t rfl ?_))
  exact sk_xse (36 * s + i) 6 (sk_ixX s i) rfl (by omega) (fun k => 36 * s + 6 * k + i) (fun k _ => by omega) h
theorem sk_xsmD {post : Int32 → Prop} {f m : Nat → Int32} {s : Nat} {z : Int32} (hs : s < 5) (h : post (sk_sm (fun k => f (36 * s + 6 * k + k)) 6)) : wpX_sum post (f, m) (nI s) 2 z := by
  unfold wpX_sum
  refine sk_xgS (fun z => absurd (sk_iS hs) z) fun _ => br_t rfl ?_
  exact sk_xse (36 * s) 7 (by rw [sk_36, pk_mul, Nat.mul_comm s]) rfl (by omega) (fun k => 36 * s + 6 * k + k) (fun k _ => by omega) h
theorem sk_xsy19 {post : Int32 → Prop} {J : Int32 → Prop} {f m : Nat → Int32} {s i : Nat} (hs : s < 5) (hi : i < 6) (h0 : ¬ sk_Sy f s → post 0) (h : (∀ j, j < i → f (36 * s + 6 * i + j) = f (36 * s + 6 * j + i)) → J (nI (i + 1))) : ∃ n, wX_symmetric_19 post J (nI s) (nI i) f m n 0 :=
  loop_0 (fun n j (_ : Unit) => wX_symmetric_19 post J (nI s) (nI i) f m n (nI j)) (fun j _ => ∀ j', j' < j → f (36 * s + 6 * i + j') = f (36 * s + 6 * j' + i)) i () (fun j hj => absurd hj (Nat.not_lt_zero j))
    (fun n _ hq => by
      refine br_t (nI_le (Nat.le_refl i) (by omega)) (fun x ex => ?_)
      rw [ex, nI_1 i]
      exact h hq)
    (fun n j _ hj hq ih => by
      have ea := sk_ijX s i j
      have eb := sk_ijX s j i
      have ca : (nI s * 36 + nI i * 6 + nI j).toNatClampNeg = 36 * s + 6 * i + j := pk_cl (36 * s + 6 * i + j) ea
      have cb : (nI s * 36 + nI j * 6 + nI i).toNatClampNeg = 36 * s + 6 * j + i := pk_cl (36 * s + 6 * j + i) eb
      refine br_f (nI_ge (b := i) hj (by omega)) ⟨pk_in (36 * s + 6 * i + j) 180 (by omega) ea, pk_in (36 * s + 6 * j + i) 180 (by omega) eb, ?_⟩
      rw [ca, cb]
      refine br_c (fun hz x ex => ?_) (fun hz => h0 (fun q => hz (q i j hi (by omega))))
      rw [ex, nI_1 j]
      exact ih () (lt_s hq hz))
theorem sk_xsy {post : Int32 → Prop} {f m : Nat → Int32} {s : Nat} (hs : s < 5) (h1 : sk_Sy f s → post 1) (h0 : ¬ sk_Sy f s → post 0) : wpX_symmetric post (f, m) (nI s) := by
  unfold wpX_symmetric
  refine sk_xgS (fun z => absurd (sk_iS hs) z) fun _ => ?_
  exact loop_0 (fun n i (_ : Unit) => wX_symmetric_11 post (nI s) f m n (nI i)) (fun i _ => ∀ i', i' < i → ∀ j, j < i' → f (36 * s + 6 * i' + j) = f (36 * s + 6 * j + i')) 6 () (fun j hj => absurd hj (Nat.not_lt_zero j))
    (fun n _ hq => by
      refine br_t (nI_le (Nat.le_refl 6) (by decide)) (h1 (fun i j hi hj => ?_))
      rcases Nat.lt_trichotomy i j with h | h | h
      · exact (hq j hj i h).symm
      · rw [h]
      · exact hq i hi j h)
    (fun n i _ hi hq ih => br_f (nI_ge (b := 6) hi (by decide)) (sk_xsy19 hs hi h0 (fun hz => ih () (lt_s hq hz))))
theorem sk_xsy0 {post : Int32 → Prop} {f m : Nat → Int32} {x : Int32} (hc : ¬ sk_in 5 x) (h : post 0) : wpX_symmetric post (f, m) x := by
  unfold wpX_symmetric
  exact sk_xgS (fun _ => h) fun q => absurd q hc
theorem sk_xsa {post : Int32 → Prop} {f m : Nat → Int32} {a b : Nat} (ha : a < 5) (hb : b < 5) (h1 : (∀ c, c < 36 → f (36 * a + c) = f (36 * b + c)) → post 1) (h0 : ¬ (∀ c, c < 36 → f (36 * a + c) = f (36 * b + c)) → post 0) : wpX_same post (f, m) (nI a) (nI b) := by
  unfold wpX_same
  refine sk_xgS (fun z => absurd (sk_iS ha) z) fun _ => sk_xgS (fun z => absurd (sk_iS hb) z) fun _ => ?_
  exact loop_0 (fun n i (_ : Unit) => wX_same_18 post (nI a) (nI b) f m n (nI i)) (fun i _ => ∀ c, c < i → f (36 * a + c) = f (36 * b + c)) 36 () (fun j hj => absurd hj (Nat.not_lt_zero j))
    (fun n _ hq => br_t (nI_le (Nat.le_refl 36) (by decide)) (h1 hq))
    (fun n i _ hi hq ih => by
      have ea := sk_ixX a i
      have eb := sk_ixX b i
      have ca : (nI a * 36 + nI i).toNatClampNeg = 36 * a + i := pk_cl (36 * a + i) ea
      have cb : (nI b * 36 + nI i).toNatClampNeg = 36 * b + i := pk_cl (36 * b + i) eb
      refine br_f (nI_ge (b := 36) hi (by decide)) ⟨pk_in (36 * a + i) 180 (by omega) ea, pk_in (36 * b + i) 180 (by omega) eb, ?_⟩
      rw [ca, cb]
      refine br_c (fun hz x ex => ?_) (fun hz => h0 (fun q => hz (q i hi)))
      rw [ex, nI_1 i]
      exact ih () (lt_s hq hz))
theorem sk_xsa0 {post : Int32 → Prop} {f m : Nat → Int32} {x y : Int32} (hc : ¬ (sk_in 5 x ∧ sk_in 5 y)) (h : post 0) : wpX_same post (f, m) x y := by
  unfold wpX_same
  exact sk_xgS (fun _ => h) fun h1 => sk_xgS (fun _ => h) fun h2 => absurd ⟨h1, h2⟩ hc
theorem sk_xne0 {post : Int32 → Prop} {f m : Nat → Int32} {x y z : Int32} (hc : ¬ (sk_in 5 x ∧ sk_in 6 y)) (h : post (-1)) : wpX_next post (f, m) x y z := by
  unfold wpX_next
  exact sk_xgS (fun _ => h) fun h1 => sk_xgL (fun _ => h) fun h2 => absurd ⟨h1, h2⟩ hc
theorem sk_xne {post : Int32 → Prop} {f m : Nat → Int32} {s i : Nat} {z : Int32} (hs : s < 5) (hi : i < 6) (h : ∃ n, wX_next_19 post (nI s) (nI i) z f m n 0) : wpX_next post (f, m) (nI s) (nI i) z := by
  unfold wpX_next
  exact sk_xgS (fun z => absurd (sk_iS hs) z) fun _ => sk_xgL (fun z => absurd (sk_iL hi) z) fun _ => h
end
section
/-! Y: its guards, counting, storing, and the calls that make a matrix -/
theorem sk_ygS {u : SY} {x : Int32} {A B : Prop} (a : ¬ sk_in 5 x → A) (b : sk_in 5 x → B) : wpY_slot (fun r => (r = 0 → A) ∧ (¬ r = 0 → B)) u x := by
  obtain ⟨f, m⟩ := u
  rcases sk_rg x (n := 5) (by decide) with ⟨k, hk, rfl⟩ | h
  · exact br_f (nI_pos (by omega)) (br_f (nI_nlt (a := 4) (by omega) (by decide)) (br_f sk_10 (b ⟨k, hk, rfl⟩)))
  · have hn := sk_no_in (by decide) h
    rcases h with h | ⟨h0, h5⟩
    · exact br_t h (br_t rfl (a hn))
    · exact br_f h0 (br_t (sk_lt1 (n := 4) (by decide) h0 h5) (br_t rfl (a hn)))
theorem sk_ygL {u : SY} {x : Int32} {A B : Prop} (a : ¬ sk_in 6 x → A) (b : sk_in 6 x → B) : wpY_line (fun r => (r = 0 → A) ∧ (¬ r = 0 → B)) u x := by
  obtain ⟨f, m⟩ := u
  rcases sk_rg x (n := 6) (by decide) with ⟨k, hk, rfl⟩ | h
  · exact br_f (nI_pos (by omega)) (br_f (nI_nlt (a := 5) (by omega) (by decide)) (br_f sk_10 (b ⟨k, hk, rfl⟩)))
  · have hn := sk_no_in (by decide) h
    rcases h with h | ⟨h0, h5⟩
    · exact br_t h (br_t rfl (a hn))
    · exact br_f h0 (br_t (sk_lt1 (n := 5) (by decide) h0 h5) (br_t rfl (a hn)))
theorem sk_yc {post : Int32 → Prop} {f m : Nat → Int32} {x y z : Int32} (s i j : Nat) (hs : s < 5) (hi : i < 6) (hj : j < 6) (h : post (f (36 * s + 6 * i + j))) (ex : x = nI s := by rfl) (ey : y = nI i := by rfl) (ez : z = nI j := by rfl) : wpY_cell post (f, m) x y z := by
  subst ex ey ez
  have e := sk_ijY s i j
  have c : (36 * nI s + 6 * nI i + nI j).toNatClampNeg = 36 * s + 6 * i + j := pk_cl (36 * s + 6 * i + j) e
  refine ⟨pk_in (36 * s + 6 * i + j) 180 (by omega) e, ?_⟩
  rw [c]
  exact h
theorem sk_ycn {post : Int32 → Prop} {f m : Nat → Int32} {t : Nat} (ht : t < 5) (h : post (sk_cn f (36 * t) 36)) : wpY_count post (f, m) (nI t) :=
  loop_0 (fun n i (s : Int32) => wY_count_4 post (nI t) f m n s (nI i)) (fun i s => s = sk_cn f (36 * t) i) 36 0 rfl
    (fun n s hs => by
      subst hs
      refine br_t (nI_le (Nat.le_refl 36) (by decide)) ?_
      unfold wY_count_46
      exact sk_ygS (fun z => absurd (sk_iS ht) z) fun _ => h)
    (fun n i s hi hs ih => by
      subst hs
      have e : 36 * nI t + nI i = nI (36 * t + i) := sk_ixY t i
      have ec : (36 * nI t + nI i).toNatClampNeg = 36 * t + i := pk_cl (36 * t + i) e
      refine br_f (nI_ge (b := 36) hi (by decide)) (sk_ygS (fun z => absurd (sk_iS ht) z) fun _ => ⟨pk_in (36 * t + i) 180 (by omega) e, ?_⟩)
      rw [ec]
      refine br_c (fun hz x ex => ?_) (fun hz y ey x ex => ?_)
      · rw [ex, nI_1 i]; exact ih _ (sk_cn_z hz).symm
      · rw [ey, ex, nI_1 i]; exact ih _ (sk_cn_n hz).symm)
theorem sk_yco0 {post : Int32 → Prop} {f m : Nat → Int32} {x : Int32} (hc : ¬ sk_in 5 x) (h : post (-1)) : wpY_count post (f, m) x := by
  refine ⟨1, br_f (by decide) ?_⟩
  refine sk_ygS (fun _ => ?_) fun q => absurd q hc
  unfold wY_count_46
  exact sk_ygS (fun _ => h) fun q => absurd q hc
theorem sk_yst {post : Int32 → SY → Prop} {f m G : Nat → Int32} {t : Nat} (ht : t < 5) (hG : ∀ j, j < 36 → m j = G j) (h : post (sk_cn (sk_st f t G 36) (36 * t) 36) (sk_st f t G 36, m)) : wpY_keep post (f, m) (nI t) :=
  loop_0 (fun n i (s : Nat → Int32) => wY_keep_2 post (nI t) n (nI i) s m) (fun i s => s = sk_st f t G i) 36 f (sk_st0 f t G).symm
    (fun n s hs => by subst hs; exact br_t (nI_le (Nat.le_refl 36) (by decide)) (sk_ycn ht h))
    (fun n i s hi hs ih => by
      subst hs
      have e := sk_ixY t i
      have ec : (36 * nI t + nI i).toNatClampNeg = 36 * t + i := pk_cl (36 * t + i) e
      have ei : (nI i).toNatClampNeg = i := pk_cl i
      refine br_f (nI_ge (b := 36) hi (by decide)) ⟨vp_in_nI hi (by decide), pk_in (36 * t + i) 180 (by omega) e, fun y ey x ex => ?_⟩
      rw [ex, nI_1 i, ey, ec, ei, hG i hi]
      exact ih _ (sk_stS f t G i))
theorem sk_yen {post : Int32 → Prop} {f m : Nat → Int32} {a b i j : Nat} (ha : a < 5) (hb : b < 5) (hi : i < 6) (hj : j < 6) (h : post (sk_en f a b i j)) : wpY_entry post (f, m) (nI a) (nI b) (nI i) (nI j) :=
  loop_0 (fun n k (s : Int32) => wY_entry_6 post (nI a) (nI b) (nI i) (nI j) f m n s (nI k)) (fun k s => s = sk_sm (fun k => f (36 * a + 6 * i + k) * f (36 * b + 6 * k + j)) k) 6 0 rfl
    (fun n s hs => by subst hs; exact br_t (nI_le (Nat.le_refl 6) (by decide)) h)
    (fun n k s hk hs ih => by
      subst hs
      refine br_f (nI_ge (b := 6) hk (by decide)) (sk_yc a i k ha hi hk (sk_yc b k j hb hk hj (fun y ey x ex => ?_)))
      rw [ex, nI_1 k, ey]
      exact ih _ rfl)
theorem sk_yadL {post : Int32 → SY → Prop} {f m : Nat → Int32} {t a b : Nat} (ht : t < 5) (ha : a < 5) (hb : b < 5) (h : sk_P post f t (sk_ga f a b)) : ∃ n, wY_add_29 post (nI t) (nI a) (nI b) n 0 f m :=
  loop_0 (fun n i (s : Nat → Int32) => wY_add_29 post (nI t) (nI a) (nI b) n (nI i) f s) (fun i s => ∀ j, j < i → s j = sk_ga f a b j) 36 m (fun j hj => absurd hj (Nat.not_lt_zero j))
    (fun n s hs => br_t (nI_le (Nat.le_refl 36) (by decide)) (sk_yst (G := sk_ga f a b) ht hs (h s)))
    (fun n i s hi hs ih => by
      have ea := sk_ixY a i
      have eb := sk_ixY b i
      have ca : (36 * nI a + nI i).toNatClampNeg = 36 * a + i := pk_cl (36 * a + i) ea
      have cb : (36 * nI b + nI i).toNatClampNeg = 36 * b + i := pk_cl (36 * b + i) eb
      have ci : (nI i).toNatClampNeg = i := pk_cl i
      refine br_f (nI_ge (b := 36) hi (by decide)) ⟨pk_in (36 * a + i) 180 (by omega) ea, pk_in (36 * b + i) 180 (by omega) eb, vp_in_nI hi (by decide), fun y ey x ex => ?_⟩
      rw [ex, nI_1 i, ey, ca, cb, ci]
      exact ih _ (sk_fill hs rfl))
theorem sk_yad {post : Int32 → SY → Prop} {f m : Nat → Int32} {t a b : Nat} (ht : t < 5) (ha : a < 5) (hb : b < 5) (h : sk_P post f t (sk_ga f a b)) : wpY_add post (f, m) (nI t) (nI a) (nI b) := by
  unfold wpY_add
  exact sk_ygS (fun z => absurd (sk_iS ht) z) fun _ => sk_ygS (fun z => absurd (sk_iS ha) z) fun _ => sk_ygS (fun z => absurd (sk_iS hb) z) fun _ => sk_yadL ht ha hb h
theorem sk_yad0 {post : Int32 → SY → Prop} {f m : Nat → Int32} {x y z : Int32} (hc : ¬ (sk_in 5 x ∧ sk_in 5 y ∧ sk_in 5 z)) (h : post (-1) (f, m)) : wpY_add post (f, m) x y z := by
  unfold wpY_add
  exact sk_ygS (fun _ => h) fun h1 => sk_ygS (fun _ => h) fun h2 => sk_ygS (fun _ => h) fun h3 => absurd ⟨h1, h2, h3⟩ hc
theorem sk_yewL {post : Int32 → SY → Prop} {f m : Nat → Int32} {t a b : Nat} (ht : t < 5) (ha : a < 5) (hb : b < 5) (h : sk_P post f t (sk_ge f a b)) : ∃ n, wY_entrywise_29 post (nI t) (nI a) (nI b) n 0 f m :=
  loop_0 (fun n i (s : Nat → Int32) => wY_entrywise_29 post (nI t) (nI a) (nI b) n (nI i) f s) (fun i s => ∀ j, j < i → s j = sk_ge f a b j) 36 m (fun j hj => absurd hj (Nat.not_lt_zero j))
    (fun n s hs => br_t (nI_le (Nat.le_refl 36) (by decide)) (sk_yst (G := sk_ge f a b) ht hs (h s)))
    (fun n i s hi hs ih => by
      have ea := sk_ixY a i
      have eb := sk_ixY b i
      have ca : (36 * nI a + nI i).toNatClampNeg = 36 * a + i := pk_cl (36 * a + i) ea
      have cb : (36 * nI b + nI i).toNatClampNeg = 36 * b + i := pk_cl (36 * b + i) eb
      have ci : (nI i).toNatClampNeg = i := pk_cl i
      refine br_f (nI_ge (b := 36) hi (by decide)) ⟨pk_in (36 * a + i) 180 (by omega) ea, pk_in (36 * b + i) 180 (by omega) eb, vp_in_nI hi (by decide), fun y ey x ex => ?_⟩
      rw [ex, nI_1 i, ey, ca, cb, ci]
      exact ih _ (sk_fill hs rfl))
theorem sk_yew {post : Int32 → SY → Prop} {f m : Nat → Int32} {t a b : Nat} (ht : t < 5) (ha : a < 5) (hb : b < 5) (h : sk_P post f t (sk_ge f a b)) : wpY_entrywise post (f, m) (nI t) (nI a) (nI b) := by
  unfold wpY_entrywise
  exact sk_ygS (fun z => absurd (sk_iS ht) z) fun _ => sk_ygS (fun z => absurd (sk_iS ha) z) fun _ => sk_ygS (fun z => absurd (sk_iS hb) z) fun _ => sk_yewL ht ha hb h
theorem sk_yew0 {post : Int32 → SY → Prop} {f m : Nat → Int32} {x y z : Int32} (hc : ¬ (sk_in 5 x ∧ sk_in 5 y ∧ sk_in 5 z)) (h : post (-1) (f, m)) : wpY_entrywise post (f, m) x y z := by
  unfold wpY_entrywise
  exact sk_ygS (fun _ => h) fun h1 => sk_ygS (fun _ => h) fun h2 => sk_ygS (fun _ => h) fun h3 => absurd ⟨h1, h2, h3⟩ hc
theorem sk_yprL {post : Int32 → SY → Prop} {f m : Nat → Int32} {t a b : Nat} (ht : t < 5) (ha : a < 5) (hb : b < 5) (h : sk_P post f t (sk_gp f a b)) : ∃ n, wY_product_29 post (nI t) (nI a) (nI b) n 0 f m :=
  loop_0 (fun n i (s : Nat → Int32) => wY_product_29 post (nI t) (nI a) (nI b) n (nI i) f s) (fun i s => ∀ j, j < i → s j = sk_gp f a b j) 36 m (fun j hj => absurd hj (Nat.not_lt_zero j))
    (fun n s hs => br_t (nI_le (Nat.le_refl 36) (by decide)) (sk_yst (G := sk_gp f a b) ht hs (h s)))
    (fun n i s hi hs ih => by
      have ci : (nI i).toNatClampNeg = i := pk_cl i
      refine br_f (nI_ge (b := 36) hi (by decide)) ⟨sk_60, sk_60, ?_⟩
      rw [sk_rm hi, sk_dv hi]
      refine sk_yen ha hb (by omega) (by omega) ⟨vp_in_nI hi (by decide), fun y ey x ex => ?_⟩
      rw [ex, nI_1 i, ey, ci]
      exact ih _ (sk_fill hs rfl))
theorem sk_ypr {post : Int32 → SY → Prop} {f m : Nat → Int32} {t a b : Nat} (ht : t < 5) (ha : a < 5) (hb : b < 5) (h : sk_P post f t (sk_gp f a b)) : wpY_product post (f, m) (nI t) (nI a) (nI b) := by
  unfold wpY_product
  exact sk_ygS (fun z => absurd (sk_iS ht) z) fun _ => sk_ygS (fun z => absurd (sk_iS ha) z) fun _ => sk_ygS (fun z => absurd (sk_iS hb) z) fun _ => sk_yprL ht ha hb h
theorem sk_ypr0 {post : Int32 → SY → Prop} {f m : Nat → Int32} {x y z : Int32} (hc : ¬ (sk_in 5 x ∧ sk_in 5 y ∧ sk_in 5 z)) (h : post (-1) (f, m)) : wpY_product post (f, m) x y z := by
  unfold wpY_product
  exact sk_ygS (fun _ => h) fun h1 => sk_ygS (fun _ => h) fun h2 => sk_ygS (fun _ => h) fun h3 => absurd ⟨h1, h2, h3⟩ hc
theorem sk_yscL {post : Int32 → SY → Prop} {f m : Nat → Int32} {t a : Nat} {k : Int32} (ht : t < 5) (ha : a < 5) (h : sk_P post f t (sk_gs f a k)) : ∃ n, wY_scale_21 post (nI t) (nI a) k n 0 f m :=
  loop_0 (fun n i (s : Nat → Int32) => wY_scale_21 post (nI t) (nI a) k n (nI i) f s) (fun i s => ∀ j, j < i → s j = sk_gs f a k j) 36 m (fun j hj => absurd hj (Nat.not_lt_zero j))
    (fun n s hs => br_t (nI_le (Nat.le_refl 36) (by decide)) (sk_yst (G := sk_gs f a k) ht hs (h s)))
    (fun n i s hi hs ih => by
      have ea := sk_ixY a i
      have ca : (36 * nI a + nI i).toNatClampNeg = 36 * a + i := pk_cl (36 * a + i) ea
      have ci : (nI i).toNatClampNeg = i := pk_cl i
      refine br_f (nI_ge (b := 36) hi (by decide)) ⟨pk_in (36 * a + i) 180 (by omega) ea, vp_in_nI hi (by decide), fun y ey x ex => ?_⟩
      rw [ex, nI_1 i, ey, ca, ci]
      exact ih _ (sk_fill hs rfl))
theorem sk_ysc {post : Int32 → SY → Prop} {f m : Nat → Int32} {t a : Nat} {k : Int32} (ht : t < 5) (ha : a < 5) (h : sk_P post f t (sk_gs f a k)) : wpY_scale post (f, m) (nI t) (nI a) k := by
  unfold wpY_scale
  exact sk_ygS (fun z => absurd (sk_iS ht) z) fun _ => sk_ygS (fun z => absurd (sk_iS ha) z) fun _ => sk_yscL ht ha h
theorem sk_ysc0 {post : Int32 → SY → Prop} {f m : Nat → Int32} {x y k : Int32} (hc : ¬ (sk_in 5 x ∧ sk_in 5 y)) (h : post (-1) (f, m)) : wpY_scale post (f, m) x y k := by
  unfold wpY_scale
  exact sk_ygS (fun _ => h) fun h1 => sk_ygS (fun _ => h) fun h2 => absurd ⟨h1, h2⟩ hc
theorem sk_ymkL {post : Int32 → SY → Prop} {f m : Nat → Int32} {t a b q : Nat} (ht : t < 5) (ha : a < 5) (hb : b < 5) (hq : q < 5) (h : sk_P post f t (sk_gm f a b q)) : ∃ n, wY_masked_58 post (nI t) (nI a) (nI b) (nI q) n 0 f m :=
  loop_0 (fun n i (s : Nat → Int32) => wY_masked_58 post (nI t) (nI a) (nI b) (nI q) n (nI i) f s) (fun i s => ∀ c, c < i → s c = sk_gm f a b q c) 36 m (fun j hj => absurd hj (Nat.not_lt_zero j))
    (fun n s hs => br_t (nI_le (Nat.le_refl 36) (by decide)) (sk_yst (G := sk_gm f a b q) ht hs (h s)))
    (fun n i s hi hs ih => by
      have ea := sk_ixY q i
      have ca : (36 * nI q + nI i).toNatClampNeg = 36 * q + i := pk_cl (36 * q + i) ea
      have ci : (nI i).toNatClampNeg = i := pk_cl i
      refine br_f (nI_ge (b := 36) hi (by decide)) ⟨pk_in (36 * q + i) 180 (by omega) ea, ?_⟩
      rw [ca]
      refine br_c (fun hz => ⟨vp_in_nI hi (by decide), fun y ey x ex => ?_⟩) (fun hz => ⟨sk_60, sk_60, ?_⟩)
      · rw [ex, nI_1 i, ey, ci]
        exact ih _ (sk_fill hs (if_pos hz).symm)
      · rw [sk_rm hi, sk_dv hi]
        refine sk_yen ha hb (by omega) (by omega) ⟨vp_in_nI hi (by decide), fun y ey x ex => ?_⟩
        rw [ex, nI_1 i, ey, ci]
        exact ih _ (sk_fill hs (if_neg hz).symm))
theorem sk_ymk {post : Int32 → SY → Prop} {f m : Nat → Int32} {t a b q : Nat} {p : Int32} (ht : t < 5) (ha : a < 5) (hb : b < 5) (hq : q < 5) (ea : p &&& 7 = nI a) (eb : (p >>> ((3 : Int32) &&& 31)) &&& 7 = nI b) (eq : p >>> ((6 : Int32) &&& 31) = nI q) (h : sk_P post f t (sk_gm f a b q)) : wpY_masked post (f, m) (nI t) p := by
  unfold wpY_masked
  intro x3 e3 x4 e4 x5 e5
  cases e3.trans ea
  cases e4.trans eb
  cases e5.trans eq
  exact sk_ygS (fun z => absurd (sk_iS ht) z) fun _ => sk_ygS (fun z => absurd (sk_iS ha) z) fun _ => sk_ygS (fun z => absurd (sk_iS hb) z) fun _ => sk_ygS (fun z => absurd (sk_iS hq) z) fun _ => sk_ymkL ht ha hb hq h
theorem sk_ymk0 {post : Int32 → SY → Prop} {f m : Nat → Int32} {x p : Int32} (hc : ¬ (sk_in 5 x ∧ sk_in 5 (p &&& 7) ∧ sk_in 5 ((p >>> ((3 : Int32) &&& 31)) &&& 7) ∧ sk_in 5 (p >>> ((6 : Int32) &&& 31)))) (h : post (-1) (f, m)) : wpY_masked post (f, m) x p := by
  unfold wpY_masked
  intro x3 e3 x4 e4 x5 e5
  cases e3
  cases e4
  cases e5
  exact sk_ygS (fun _ => h) fun h1 => sk_ygS (fun _ => h) fun h2 => sk_ygS (fun _ => h) fun h3 => sk_ygS (fun _ => h) fun h4 => absurd ⟨h1, h2, h3, h4⟩ hc
theorem sk_ytr {post : Int32 → SY → Prop} {f m : Nat → Int32} {t a : Nat} (ht : t < 5) (ha : a < 5) (h : sk_P post f t (sk_gt f a)) : wpY_transpose post (f, m) (nI t) (nI a) := by
  unfold wpY_transpose
  refine sk_ygS (fun z => absurd (sk_iS ht) z) fun _ => sk_ygS (fun z => absurd (sk_iS ha) z) fun _ => ?_
  exact loop_0 (fun n i (s : Nat → Int32) => wY_transpose_20 post (nI t) (nI a) n (nI i) f s) (fun i s => ∀ c, c < i → s c = sk_gt f a c) 36 m (fun j hj => absurd hj (Nat.not_lt_zero j))
    (fun n s hs => br_t (nI_le (Nat.le_refl 36) (by decide)) (sk_yst (G := sk_gt f a) ht hs (h s)))
    (fun n i s hi hs ih => by
      have ci : (nI i).toNatClampNeg = i := pk_cl i
      refine br_f (nI_ge (b := 36) hi (by decide)) ⟨sk_60, sk_60, ?_⟩
      rw [sk_rm hi, sk_dv hi]
      refine sk_yc a (i % 6) (i / 6) ha (by omega) (by omega) ⟨vp_in_nI hi (by decide), fun y ey x ex => ?_⟩
      rw [ex, nI_1 i, ey, ci]
      exact ih _ (sk_fill hs rfl))
theorem sk_ytr0 {post : Int32 → SY → Prop} {f m : Nat → Int32} {x y : Int32} (hc : ¬ (sk_in 5 x ∧ sk_in 5 y)) (h : post (-1) (f, m)) : wpY_transpose post (f, m) x y := by
  unfold wpY_transpose
  exact sk_ygS (fun _ => h) fun h1 => sk_ygS (fun _ => h) fun h2 => absurd ⟨h1, h2⟩ hc
theorem sk_4095 {p : Int32} (h0 : ¬ p < 0) : p < 4096 ↔ p ≤ 4095 := by
  obtain ⟨j, hj, rfl⟩ := nI_of h0
  show nI j < nI 4096 ↔ nI j ≤ nI 4095
  rw [nI_ltI hj (by decide), nI_leI hj (by decide)]
  omega
theorem sk_ysl73 {post : Int32 → SY → Prop} {J : Int32 → (Nat → Int32) → (Nat → Int32) → Prop} {f s : Nat → Int32} {t a i : Nat} {p : Int32} (ha : a < 5) (hi : i < 36) (h : J (nI (i + 1)) f (upd s i 0)) : wY_select_73 post J (nI t) (nI a) p (nI i) 0 f s := by
  have ci : (nI i).toNatClampNeg = i := pk_cl i
  refine br_t rfl ⟨vp_in_nI hi (by decide), fun y ey x ex => ?_⟩
  rw [ex, nI_1 i, ey, ci]
  exact h
theorem sk_yslL {post : Int32 → SY → Prop} {f m : Nat → Int32} {t a : Nat} {p : Int32} (ht : t < 5) (ha : a < 5) (h : sk_P post f t (sk_gl f a p)) : ∃ n, wY_select_32 post (nI t) (nI a) p n 0 f m :=
  loop_0 (fun n i (s : Nat → Int32) => wY_select_32 post (nI t) (nI a) p n (nI i) f s) (fun i s => ∀ c, c < i → s c = sk_gl f a p c) 36 m (fun j hj => absurd hj (Nat.not_lt_zero j))
    (fun n s hs => br_t (nI_le (Nat.le_refl 36) (by decide)) (sk_yst (G := sk_gl f a p) ht hs (h s)))
    (fun n i s hi hs ih => by
      have ea := sk_ixY a i
      have ca : (36 * nI a + nI i).toNatClampNeg = 36 * a + i := pk_cl (36 * a + i) ea
      have ci : (nI i).toNatClampNeg = i := pk_cl i
      have e6 : (6 : Int32) + nI (i % 6) = nI (6 + i % 6) := by rw [sk_6, nI_add]
      refine br_f (nI_ge (b := 36) hi (by decide)) ⟨sk_60, ?_⟩
      rw [sk_rm hi, sk_dv hi, e6]
      refine br_c (fun h1 => ⟨sk_60, br_c (fun h2 => ?_) (fun h2 => ?_)⟩) (fun h1 => ?_)
      · refine br_f sk_10 ⟨pk_in (36 * a + i) 180 (by omega) ea, vp_in_nI hi (by decide), fun y ey x ex => ?_⟩
        rw [ex, nI_1 i, ey, ca, ci]
        exact ih _ (sk_fill hs (if_pos ⟨h1, h2⟩).symm)
      · unfold wY_select_72
        exact sk_ysl73 ha hi (ih _ (sk_fill hs (if_neg (fun q => h2 q.2)).symm))
      · unfold wY_select_72
        exact sk_ysl73 ha hi (ih _ (sk_fill hs (if_neg (fun q => h1 q.1)).symm)))
theorem sk_ysl {post : Int32 → SY → Prop} {f m : Nat → Int32} {t a : Nat} {p : Int32} (ht : t < 5) (ha : a < 5) (h0 : ¬ p < 0) (h4 : p < 4096) (h : sk_P post f t (sk_gl f a p)) : wpY_select post (f, m) (nI t) (nI a) p := by
  unfold wpY_select
  exact sk_ygS (fun z => absurd (sk_iS ht) z) fun _ => sk_ygS (fun z => absurd (sk_iS ha) z) fun _ => br_f h0 (br_t ((sk_4095 h0).mp h4) (sk_yslL ht ha h))
theorem sk_ysl0 {post : Int32 → SY → Prop} {f m : Nat → Int32} {x y p : Int32} (hc : ¬ (sk_in 5 x ∧ sk_in 5 y ∧ ¬ p < 0 ∧ p < 4096)) (h : post (-1) (f, m)) : wpY_select post (f, m) x y p := by
  unfold wpY_select
  exact sk_ygS (fun _ => h) fun h1 => sk_ygS (fun _ => h) fun h2 => br_c (fun _ => h) fun h3 => br_c (fun h4 => absurd ⟨h1, h2, h3, (sk_4095 h3).mpr h4⟩ hc) fun _ => h
end
section
/-! Y: put, and the calls that only read; next in lockstep -/
theorem sk_ypu {post : Int32 → SY → Prop} {f m : Nat → Int32} {s i j : Nat} {v : Int32} (hs : s < 5) (hi : i < 6) (hj : j < 6) (h : post 1 (upd f (36 * s + 6 * i + j) v, m)) : wpY_put post (f, m) (nI s) (nI i) (nI j) v := by
  have e := sk_ijY s i j
  have c : (36 * nI s + 6 * nI i + nI j).toNatClampNeg = 36 * s + 6 * i + j := pk_cl (36 * s + 6 * i + j) e
  unfold wpY_put
  refine sk_ygS (fun z => absurd (sk_iS hs) z) fun _ => sk_ygL (fun z => absurd (sk_iL hi) z) fun _ => sk_ygL (fun z => absurd (sk_iL hj) z) fun _ => ⟨pk_in (36 * s + 6 * i + j) 180 (by omega) e, fun y ey => ?_⟩
  rw [ey, c]
  exact h
theorem sk_ypu0 {post : Int32 → SY → Prop} {f m : Nat → Int32} {x y z v : Int32} (hc : ¬ (sk_in 5 x ∧ sk_in 6 y ∧ sk_in 6 z)) (h : post 0 (f, m)) : wpY_put post (f, m) x y z v := by
  unfold wpY_put
  exact sk_ygS (fun _ => h) fun h1 => sk_ygL (fun _ => h) fun h2 => sk_ygL (fun _ => h) fun h3 => absurd ⟨h1, h2, h3⟩ hc
theorem sk_yat {post : Int32 → Prop} {f m : Nat → Int32} {s i j : Nat} (hs : s < 5) (hi : i < 6) (hj : j < 6) (h : post (f (36 * s + 6 * i + j))) : wpY_at post (f, m) (nI s) (nI i) (nI j) := by
  unfold wpY_at
  exact sk_ygS (fun z => absurd (sk_iS hs) z) fun _ => sk_ygL (fun z => absurd (sk_iL hi) z) fun _ => sk_ygL (fun z => absurd (sk_iL hj) z) fun _ => sk_yc s i j hs hi hj h
theorem sk_yat0 {post : Int32 → Prop} {f m : Nat → Int32} {x y z : Int32} (hc : ¬ (sk_in 5 x ∧ sk_in 6 y ∧ sk_in 6 z)) (h : post 0) : wpY_at post (f, m) x y z := by
  unfold wpY_at
  exact sk_ygS (fun _ => h) fun h1 => sk_ygL (fun _ => h) fun h2 => sk_ygL (fun _ => h) fun h3 => absurd ⟨h1, h2, h3⟩ hc
theorem sk_yrp {post : Int32 → Prop} {f m : Nat → Int32} {a i b j : Nat} (ha : a < 5) (hi : i < 6) (hb : b < 5) (hj : j < 6) (h : post (sk_sm (fun k => f (36 * a + 6 * i + k) * f (36 * b + 6 * j + k)) 6)) : wpY_rowsProduct post (f, m) (nI a) (nI i) (nI b) (nI j) :=
  loop_0 (fun n k (s : Int32) => wY_rowsProduct_6 post (nI a) (nI i) (nI b) (nI j) f m n s (nI k)) (fun k s => s = sk_sm (fun k => f (36 * a + 6 * i + k) * f (36 * b + 6 * j + k)) k) 6 0 rfl
    (fun n s hs => by subst hs; exact br_t (nI_le (Nat.le_refl 6) (by decide)) h)
    (fun n k s hk hs ih => by
      subst hs
      refine br_f (nI_ge (b := 6) hk (by decide)) (sk_ygS (fun z => absurd (sk_iS ha) z) fun _ => sk_ygS (fun z => absurd (sk_iS hb) z) fun _ => sk_ygL (fun z => absurd (sk_iL hi) z) fun _ => sk_ygL (fun z => absurd (sk_iL hj) z) fun _ => ?_)
      refine sk_yc a i k ha hi hk (sk_yc b j k hb hj hk (fun y ey x ex => ?_))
      rw [ex, nI_1 k, ey]
      exact ih _ rfl)
theorem sk_yrp0 {post : Int32 → Prop} {f m : Nat → Int32} {x y z w : Int32} (hc : ¬ (sk_in 5 x ∧ sk_in 6 y ∧ sk_in 5 z ∧ sk_in 6 w)) (h : post 0) : wpY_rowsProduct post (f, m) x y z w :=
  ⟨1, br_f (by decide) (sk_ygS (fun _ => h) fun h1 => sk_ygS (fun _ => h) fun h3 => sk_ygL (fun _ => h) fun h2 => sk_ygL (fun _ => h) fun h4 => absurd ⟨h1, h2, h3, h4⟩ hc)⟩
theorem sk_ysmL0 {post : Int32 → Prop} {f m : Nat → Int32} {s i : Nat} (hs : s < 5) (hi : i < 6) (h : post (sk_sm (fun k => f (36 * s + 6 * i + k)) 6)) : ∃ n, wY_sum_38 post (nI s) 0 (nI i) f m n 0 0 :=
  loop_0 (fun n k (q : Int32) => wY_sum_38 post (nI s) 0 (nI i) f m n q (nI k)) (fun k q => q = sk_sm (fun k => f (36 * s + 6 * i + k)) k) 6 0 rfl
    (fun n q hq => by subst hq; exact br_t (nI_le (Nat.le_refl 6) (by decide)) h)
    (fun n k q hk hq ih => by
      subst hq
      refine br_f (nI_ge (b := 6) hk (by decide)) (br_t rfl (sk_yc s i k hs hi hk (fun y ey x ex => ?_)))
      rw [ex, nI_1 k, ey]
      exact ih _ rfl)
theorem sk_ysmL1 {post : Int32 → Prop} {f m : Nat → Int32} {s i : Nat} (hs : s < 5) (hi : i < 6) (h : post (sk_sm (fun k => f (36 * s + 6 * k + i)) 6)) : ∃ n, wY_sum_38 post (nI s) 1 (nI i) f m n 0 0 :=
  loop_0 (fun n k (q : Int32) => wY_sum_38 post (nI s) 1 (nI i) f m n q (nI k)) (fun k q => q = sk_sm (fun k => f (36 * s + 6 * k + i)) k) 6 0 rfl
    (fun n q hq => by subst hq; exact br_t (nI_le (Nat.le_refl 6) (by decide)) h)
    (fun n k q hk hq ih => by
      subst hq
      refine br_f (nI_ge (b := 6) hk (by decide)) (br_f sk_10 (br_t rfl (sk_yc s k i hs hk hi (fun y ey x ex => ?_))))
      rw [ex, nI_1 k, ey]
      exact ih _ rfl)
theorem sk_ysmL2 {post : Int32 → Prop} {f m : Nat → Int32} {s : Nat} {z : Int32} (hs : s < 5) (h : post (sk_sm (fun k => f (36 * s + 6 * k + k)) 6)) : ∃ n, wY_sum_38 post (nI s) 2 z f m n 0 0 :=
  loop_0 (fun n k (q : Int32) => wY_sum_38 post (nI s) 2 z f m n q (nI k)) (fun k q => q = sk_sm (fun k => f (36 * s + 6 * k + k)) k) 6 0 rfl
    (fun n q hq => by subst hq; exact br_t (nI_le (Nat.le_refl 6) (by decide)) h)
    (fun n k q hk hq ih => by
      subst hq
      refine br_f (nI_ge (b := 6) hk (by decide)) (br_f (by decide) (br_f (by decide) (sk_yc s k k hs hk hk (fun y ey x ex => ?_))))
      rw [ex, nI_1 k, ey]
      exact ih _ rfl)
theorem sk_ysmR {post : Int32 → Prop} {f m : Nat → Int32} {s i : Nat} (hs : s < 5) (hi : i < 6) (h : post (sk_sm (fun k => f (36 * s + 6 * i + k)) 6)) : wpY_sum post (f, m) (nI s) 0 (nI i) := by
  unfold wpY_sum
  exact sk_ygS (fun z => absurd (sk_iS hs) z) fun _ => br_f (by decide) (br_f (by decide) (br_f (by decide) (sk_ygL (fun z => absurd (sk_iL hi) z) fun _ => sk_ysmL0 hs hi h)))
theorem sk_ysmC {post : Int32 → Prop} {f m : Nat → Int32} {s i : Nat} (hs : s < 5) (hi : i < 6) (h : post (sk_sm (fun k => f (36 * s + 6 * k + i)) 6)) : wpY_sum post (f, m) (nI s) 1 (nI i) := by
  unfold wpY_sum
  exact sk_ygS (fun z => absurd (sk_iS hs) z) fun _ => br_f (by decide) (br_f (by decide) (br_f (by decide) (sk_ygL (fun z => absurd (sk_iL hi) z) fun _ => sk_ysmL1 hs hi h)))
theorem sk_ysmD {post : Int32 → Prop} {f m : Nat → Int32} {s : Nat} {z : Int32} (hs : s < 5) (h : post (sk_sm (fun k => f (36 * s + 6 * k + k)) 6)) : wpY_sum post (f, m) (nI s) 2 z := by
  unfold wpY_sum
  exact sk_ygS (fun z => absurd (sk_iS hs) z) fun _ => br_f (by decide) (br_f (by decide) (br_t rfl (sk_ysmL2 hs h)))
theorem sk_ysm0 {post : Int32 → Prop} {f m : Nat → Int32} {x y z : Int32} (hc : ¬ sk_in 5 x ∨ ¬ sk_in 3 y ∨ (¬ y = 2 ∧ ¬ sk_in 6 z)) (h : post 0) : wpY_sum post (f, m) x y z := by
  unfold wpY_sum
  refine sk_ygS (fun _ => h) fun h1 => br_c (fun _ => h) fun h0 => br_c (fun _ => h) fun h2 => ?_
  have h3 : sk_in 3 y := by
    obtain ⟨w, hw, rfl⟩ := nI_of h0
    refine ⟨w, ?_, rfl⟩
    have h2' : ¬ nI 2 < nI w := h2
    rw [nI_ltI (by decide) hw] at h2'
    omega
  rcases hc with hc | hc | ⟨hy, hc⟩
  · exact absurd h1 hc
  · exact absurd h3 hc
  · exact br_f hy (sk_ygL (fun _ => h) fun q => absurd q hc)
theorem sk_ysa0L {post : Int32 → Prop} {f m : Nat → Int32} {x y : Int32} {n : Nat} {z : Int32} (h : post 0) : wY_same_25 post x y f m (n + 1) 0 z :=
  br_c (fun _ => ⟨rfl, h⟩) (fun _ => br_t rfl ⟨rfl, h⟩)
theorem sk_ysa0 {post : Int32 → Prop} {f m : Nat → Int32} {x y : Int32} (hc : ¬ (sk_in 5 x ∧ sk_in 5 y)) (h : post 0) : wpY_same post (f, m) x y := by
  unfold wpY_same
  exact sk_ygS (fun _ => ⟨1, sk_ysa0L h⟩) fun h1 => sk_ygS (fun _ => ⟨1, sk_ysa0L h⟩) fun h2 => absurd ⟨h1, h2⟩ hc
theorem sk_ysa {post : Int32 → Prop} {f m : Nat → Int32} {a b : Nat} (ha : a < 5) (hb : b < 5) (h1 : (∀ c, c < 36 → f (36 * a + c) = f (36 * b + c)) → post 1) (h0 : ¬ (∀ c, c < 36 → f (36 * a + c) = f (36 * b + c)) → post 0) : wpY_same post (f, m) (nI a) (nI b) := by
  unfold wpY_same
  refine sk_ygS (fun z => absurd (sk_iS ha) z) fun _ => sk_ygS (fun z => absurd (sk_iS hb) z) fun _ => ?_
  exact loop_0 (fun n i (s : Int32) => wY_same_25 post (nI a) (nI b) f m n s (nI i)) (fun i s => (s = 1 ∧ ∀ c, c < i → f (36 * a + c) = f (36 * b + c)) ∨ (s = 0 ∧ ¬ (∀ c, c < 36 → f (36 * a + c) = f (36 * b + c)))) 36 1 (Or.inl ⟨rfl, fun j hj => absurd hj (Nat.not_lt_zero j)⟩)
    (fun n s hs => by
      rcases hs with ⟨rfl, hq⟩ | ⟨rfl, hq⟩
      · exact br_t (nI_le (Nat.le_refl 36) (by decide)) ⟨rfl, h1 hq⟩
      · exact sk_ysa0L (h0 hq))
    (fun n i s hi hs ih => by
      rcases hs with ⟨rfl, hq⟩ | ⟨rfl, hq⟩
      · have ea := sk_ixY a i
        have eb := sk_ixY b i
        have ca : (36 * nI a + nI i).toNatClampNeg = 36 * a + i := pk_cl (36 * a + i) ea
        have cb : (36 * nI b + nI i).toNatClampNeg = 36 * b + i := pk_cl (36 * b + i) eb
        refine br_f (nI_ge (b := 36) hi (by decide)) (br_f sk_10 ⟨pk_in (36 * a + i) 180 (by omega) ea, pk_in (36 * b + i) 180 (by omega) eb, ?_⟩)
        rw [ca, cb]
        refine br_c (fun hz x ex => ?_) (fun hz x ex => ?_)
        · rw [ex, nI_1 i]
          exact ih _ (Or.inl ⟨rfl, lt_s hq hz⟩)
        · rw [ex, nI_1 i]
          exact ih _ (Or.inr ⟨rfl, fun q => hz (q i hi)⟩)
      · exact sk_ysa0L (h0 hq))
theorem sk_ysy0L {post : Int32 → Prop} {f m : Nat → Int32} {x : Int32} {n : Nat} {z : Int32} (h : post 0) : wY_symmetric_8 post x f m (n + 1) 0 z :=
  br_c (fun _ => ⟨rfl, h⟩) (fun _ => br_t rfl ⟨rfl, h⟩)
theorem sk_yS0 {post : Int32 → Prop} {u : SY} {x : Int32} (hc : ¬ sk_in 5 x) (h : post 0) : wpY_slot post u x := by
  obtain ⟨f, m⟩ := u
  rcases sk_rg x (n := 5) (by decide) with q | q | ⟨h0, h5⟩
  · exact absurd q hc
  · exact br_t q h
  · exact br_f h0 (br_t (sk_lt1 (n := 4) (by decide) h0 h5) h)
theorem sk_yS1 {post : Int32 → Prop} {u : SY} {k : Nat} (hk : k < 5) (h : post 1) : wpY_slot post u (nI k) := by
  obtain ⟨f, m⟩ := u
  exact br_f (nI_pos (by omega)) (br_f (nI_nlt (a := 4) (by omega) (by decide)) h)
theorem sk_ysy0 {post : Int32 → Prop} {f m : Nat → Int32} {x : Int32} (hc : ¬ sk_in 5 x) (h : post 0) : wpY_symmetric post (f, m) x := by
  unfold wpY_symmetric
  exact sk_yS0 hc ⟨1, sk_ysy0L h⟩
theorem sk_ysy {post : Int32 → Prop} {f m : Nat → Int32} {s : Nat} (hs : s < 5) (h1 : sk_Sy f s → post 1) (h0 : ¬ sk_Sy f s → post 0) : wpY_symmetric post (f, m) (nI s) := by
  unfold wpY_symmetric
  refine sk_yS1 hs ?_
  exact loop_0 (fun n c (q : Int32) => wY_symmetric_8 post (nI s) f m n q (nI c)) (fun c q => (q = 1 ∧ ∀ c', c' < c → f (36 * s + 6 * (c' / 6) + c' % 6) = f (36 * s + 6 * (c' % 6) + c' / 6)) ∨ (q = 0 ∧ ¬ sk_Sy f s)) 36 1 (Or.inl ⟨rfl, fun j hj => absurd hj (Nat.not_lt_zero j)⟩)
    (fun n q hq => by
      rcases hq with ⟨rfl, hq⟩ | ⟨rfl, hq⟩
      · refine br_t (nI_le (Nat.le_refl 36) (by decide)) ⟨rfl, h1 (fun i j hi hj => ?_)⟩
        have := hq (6 * i + j) (by omega)
        rw [sk_d6 hj, sk_m6 hj] at this
        exact this
      · exact sk_ysy0L (h0 hq))
    (fun n c q hc hq ih => by
      rcases hq with ⟨rfl, hq⟩ | ⟨rfl, hq⟩
      · refine br_f (nI_ge (b := 36) hc (by decide)) (br_f sk_10 ⟨sk_60, sk_60, ?_⟩)
        rw [sk_rm hc, sk_dv hc]
        refine sk_yc s (c / 6) (c % 6) hs (by omega) (by omega) ⟨sk_60, sk_60, ?_⟩
        refine sk_yc s (c % 6) (c / 6) hs (by omega) (by omega) (br_c (fun hz x ex => ?_) (fun hz x ex => ?_))
        · rw [ex, nI_1 c]
          exact ih _ (Or.inl ⟨rfl, lt_s hq hz⟩)
        · rw [ex, nI_1 c]
          exact ih _ (Or.inr ⟨rfl, fun z => hz (z (c / 6) (c % 6) (by omega) (by omega))⟩)
      · exact sk_ysy0L (h0 hq))
theorem sk_yne0 {post : Int32 → Prop} {f m : Nat → Int32} {x y z : Int32} (hc : ¬ (sk_in 5 x ∧ sk_in 6 y)) (h : post (-1)) : wpY_next post (f, m) x y z :=
  ⟨1, br_f (by decide) (sk_ygS (fun _ => h) fun h1 => sk_ygL (fun _ => h) fun h2 => absurd ⟨h1, h2⟩ hc)⟩
theorem sk_nx {f m m' : Nat → Int32} {s i : Nat} {z : Int32} (hs : s < 5) (hi : i < 6) : ∀ d k : Nat, k + d = 6 → ∃ r : Int32, (∀ post : Int32 → Prop, post r → wX_next_19 post (nI s) (nI i) z f m (d + 1) (nI k)) ∧ (∀ post : Int32 → Prop, post r → wY_next_3 post (nI s) (nI i) z f m' (d + 1) (nI k)) := by
  intro d
  induction d with
  | zero =>
    intro k hk
    have h : (6 : Int32) ≤ nI k := nI_le (a := 6) (by omega) (by omega)
    exact ⟨-1, fun _ hp => br_t h hp, fun _ hp => br_t h hp⟩
  | succ d ih =>
    intro k hk
    have h : ¬ (6 : Int32) ≤ nI k := nI_ge (b := 6) (by omega) (by decide)
    have e := sk_ijX s i k
    have c : (nI s * 36 + nI i * 6 + nI k).toNatClampNeg = 36 * s + 6 * i + k := pk_cl (36 * s + 6 * i + k) e
    have hin : vp_in (nI s * 36 + nI i * 6 + nI k) 180 := pk_in (36 * s + 6 * i + k) 180 (by omega) e
    obtain ⟨r, hX, hY⟩ := ih (k + 1) (by omega)
    by_cases hz : nI k < z
    · refine ⟨r, fun post hp => br_f h (br_t hz fun y ey => ?_), fun post hp => br_f h (sk_ygS (fun z => absurd (sk_iS hs) z) fun _ => sk_ygL (fun z => absurd (sk_iL hi) z) fun _ => br_t hz fun y ey => ?_)⟩
      · rw [ey, nI_1 k]; exact hX post hp
      · rw [ey, nI_1 k]; exact hY post hp
    · by_cases h0 : f (36 * s + 6 * i + k) = 0
      · refine ⟨r, fun post hp => br_f h (br_f hz ⟨hin, ?_⟩), fun post hp => br_f h (sk_ygS (fun z => absurd (sk_iS hs) z) fun _ => sk_ygL (fun z => absurd (sk_iL hi) z) fun _ => br_f hz (sk_yc s i k hs hi (by omega) (br_t h0 fun y ey => ?_)))⟩
        · rw [c]
          refine br_t h0 fun y ey => ?_
          rw [ey, nI_1 k]; exact hX post hp
        · rw [ey, nI_1 k]; exact hY post hp
      · refine ⟨nI k, fun post hp => br_f h (br_f hz ⟨hin, ?_⟩), fun post hp => br_f h (sk_ygS (fun z => absurd (sk_iS hs) z) fun _ => sk_ygL (fun z => absurd (sk_iL hi) z) fun _ => br_f hz (sk_yc s i k hs hi (by omega) (br_f h0 hp)))⟩
        rw [c]
        exact br_f h0 hp
end
section
/-! what is owed: both sides hold the same cells; the scratch arrays are free -/
def i_Rel (_ : Nat) (u : SX) (v : SY) : Prop := u.1 = v.1
theorem i_up {k : Nat} {u : SX} {v : SY} (h : i_Rel k u v) : i_Rel (k + 5) u v := h
theorem i_vc0 : wpX_init (fun u => wpY_init (fun v => i_Rel 0 u v)) := rfl
theorem i_vc_put {k : Nat} {u : SX} {v : SY} (I : i_Rel k u v) (hk : k + 5 ≤ 2560) (v1 : Int32) (v2 : Int32) (v3 : Int32) (v4 : Int32) : wpX_put (fun r u' => wpY_put (fun r' v' => r' = r ∧ i_Rel (k + 5) u' v') v v1 v2 v3 v4) u v1 v2 v3 v4 := by
  obtain ⟨f, m⟩ := u
  obtain ⟨g, m'⟩ := v
  obtain rfl : f = g := I
  by_cases hc : sk_in 5 v1 ∧ sk_in 6 v2 ∧ sk_in 6 v3
  · obtain ⟨⟨t, ht, rfl⟩, ⟨a, ha, rfl⟩, ⟨b, hb, rfl⟩⟩ := hc
    exact sk_xpu ht ha hb (sk_ypu ht ha hb ⟨rfl, rfl⟩)
  · exact sk_xpu0 hc (sk_ypu0 hc ⟨rfl, rfl⟩)
theorem i_vc_add {k : Nat} {u : SX} {v : SY} (I : i_Rel k u v) (hk : k + 5 ≤ 2560) (v1 : Int32) (v2 : Int32) (v3 : Int32) : wpX_add (fun r u' => wpY_add (fun r' v' => r' = r ∧ i_Rel (k + 5) u' v') v v1 v2 v3) u v1 v2 v3 := by
  obtain ⟨f, m⟩ := u
  obtain ⟨g, m'⟩ := v
  obtain rfl : f = g := I
  by_cases hc : sk_in 5 v1 ∧ sk_in 5 v2 ∧ sk_in 5 v3
  · obtain ⟨⟨t, ht, rfl⟩, ⟨a, ha, rfl⟩, ⟨b, hb, rfl⟩⟩ := hc
    exact sk_xad ht ha hb fun _ => sk_yad ht ha hb fun _ => ⟨rfl, rfl⟩
  · exact sk_xad0 hc (sk_yad0 hc ⟨rfl, rfl⟩)
theorem i_vc_entrywise {k : Nat} {u : SX} {v : SY} (I : i_Rel k u v) (hk : k + 5 ≤ 2560) (v1 : Int32) (v2 : Int32) (v3 : Int32) : wpX_entrywise (fun r u' => wpY_entrywise (fun r' v' => r' = r ∧ i_Rel (k + 5) u' v') v v1 v2 v3) u v1 v2 v3 := by
  obtain ⟨f, m⟩ := u
  obtain ⟨g, m'⟩ := v
  obtain rfl : f = g := I
  by_cases hc : sk_in 5 v1 ∧ sk_in 5 v2 ∧ sk_in 5 v3
  · obtain ⟨⟨t, ht, rfl⟩, ⟨a, ha, rfl⟩, ⟨b, hb, rfl⟩⟩ := hc
    exact sk_xew ht ha hb fun _ => sk_yew ht ha hb fun _ => ⟨rfl, rfl⟩
  · exact sk_xew0 hc (sk_yew0 hc ⟨rfl, rfl⟩)
theorem i_vc_product {k : Nat} {u : SX} {v : SY} (I : i_Rel k u v) (hk : k + 5 ≤ 2560) (v1 : Int32) (v2 : Int32) (v3 : Int32) : wpX_product (fun r u' => wpY_product (fun r' v' => r' = r ∧ i_Rel (k + 5) u' v') v v1 v2 v3) u v1 v2 v3 := by
  obtain ⟨f, m⟩ := u
  obtain ⟨g, m'⟩ := v
  obtain rfl : f = g := I
  by_cases hc : sk_in 5 v1 ∧ sk_in 5 v2 ∧ sk_in 5 v3
  · obtain ⟨⟨t, ht, rfl⟩, ⟨a, ha, rfl⟩, ⟨b, hb, rfl⟩⟩ := hc
    exact sk_xpr ht ha hb fun _ => sk_ypr ht ha hb fun _ => ⟨rfl, rfl⟩
  · exact sk_xpr0 hc (sk_ypr0 hc ⟨rfl, rfl⟩)
theorem i_vc_masked {k : Nat} {u : SX} {v : SY} (I : i_Rel k u v) (hk : k + 5 ≤ 2560) (v1 : Int32) (v2 : Int32) : wpX_masked (fun r u' => wpY_masked (fun r' v' => r' = r ∧ i_Rel (k + 5) u' v') v v1 v2) u v1 v2 := by
  obtain ⟨f, m⟩ := u
  obtain ⟨g, m'⟩ := v
  obtain rfl : f = g := I
  by_cases hc : sk_in 5 v1 ∧ sk_in 5 (v2 &&& 7) ∧ sk_in 5 ((v2 >>> ((3 : Int32) &&& 31)) &&& 7) ∧ sk_in 5 (v2 >>> ((6 : Int32) &&& 31))
  · obtain ⟨⟨t, ht, rfl⟩, ⟨a, ha, ea⟩, ⟨b, hb, eb⟩, ⟨q, hq, eq⟩⟩ := hc
    exact sk_xmk ht ha hb hq ea eb eq fun _ => sk_ymk ht ha hb hq ea eb eq fun _ => ⟨rfl, rfl⟩
  · exact sk_xmk0 hc (sk_ymk0 hc ⟨rfl, rfl⟩)
theorem i_vc_transpose {k : Nat} {u : SX} {v : SY} (I : i_Rel k u v) (hk : k + 5 ≤ 2560) (v1 : Int32) (v2 : Int32) : wpX_transpose (fun r u' => wpY_transpose (fun r' v' => r' = r ∧ i_Rel (k + 5) u' v') v v1 v2) u v1 v2 := by
  obtain ⟨f, m⟩ := u
  obtain ⟨g, m'⟩ := v
  obtain rfl : f = g := I
  by_cases hc : sk_in 5 v1 ∧ sk_in 5 v2
  · obtain ⟨⟨t, ht, rfl⟩, ⟨a, ha, rfl⟩⟩ := hc
    exact sk_xtr ht ha fun _ => sk_ytr ht ha fun _ => ⟨rfl, rfl⟩
  · exact sk_xtr0 hc (sk_ytr0 hc ⟨rfl, rfl⟩)
theorem i_vc_scale {k : Nat} {u : SX} {v : SY} (I : i_Rel k u v) (hk : k + 5 ≤ 2560) (v1 : Int32) (v2 : Int32) (v3 : Int32) : wpX_scale (fun r u' => wpY_scale (fun r' v' => r' = r ∧ i_Rel (k + 5) u' v') v v1 v2 v3) u v1 v2 v3 := by
  obtain ⟨f, m⟩ := u
  obtain ⟨g, m'⟩ := v
  obtain rfl : f = g := I
  by_cases hc : sk_in 5 v1 ∧ sk_in 5 v2
  · obtain ⟨⟨t, ht, rfl⟩, ⟨a, ha, rfl⟩⟩ := hc
    exact sk_xsc ht ha fun _ => sk_ysc ht ha fun _ => ⟨rfl, rfl⟩
  · exact sk_xsc0 hc (sk_ysc0 hc ⟨rfl, rfl⟩)
theorem i_vc_select {k : Nat} {u : SX} {v : SY} (I : i_Rel k u v) (hk : k + 5 ≤ 2560) (v1 : Int32) (v2 : Int32) (v3 : Int32) : wpX_select (fun r u' => wpY_select (fun r' v' => r' = r ∧ i_Rel (k + 5) u' v') v v1 v2 v3) u v1 v2 v3 := by
  obtain ⟨f, m⟩ := u
  obtain ⟨g, m'⟩ := v
  obtain rfl : f = g := I
  by_cases hc : sk_in 5 v1 ∧ sk_in 5 v2 ∧ ¬ v3 < 0 ∧ v3 < 4096
  · obtain ⟨⟨t, ht, rfl⟩, ⟨a, ha, rfl⟩, h0, h4⟩ := hc
    exact sk_xsl ht ha h0 h4 fun _ => sk_ysl ht ha h0 h4 fun _ => ⟨rfl, rfl⟩
  · exact sk_xsl0 hc (sk_ysl0 hc ⟨rfl, rfl⟩)
theorem i_vc_at {k : Nat} {u : SX} {v : SY} (I : i_Rel k u v) (hk : k + 5 ≤ 2560) (v1 : Int32) (v2 : Int32) (v3 : Int32) : wpX_at (fun r => wpY_at (fun r' => r' = r ∧ i_Rel (k + 5) u v) v v1 v2 v3) u v1 v2 v3 := by
  obtain ⟨f, m⟩ := u
  obtain ⟨g, m'⟩ := v
  obtain rfl : f = g := I
  by_cases hc : sk_in 5 v1 ∧ sk_in 6 v2 ∧ sk_in 6 v3
  · obtain ⟨⟨t, ht, rfl⟩, ⟨a, ha, rfl⟩, ⟨b, hb, rfl⟩⟩ := hc
    exact sk_xat ht ha hb (sk_yat ht ha hb ⟨rfl, rfl⟩)
  · exact sk_xat0 hc (sk_yat0 hc ⟨rfl, rfl⟩)
theorem i_vc_count {k : Nat} {u : SX} {v : SY} (I : i_Rel k u v) (hk : k + 5 ≤ 2560) (v1 : Int32) : wpX_count (fun r => wpY_count (fun r' => r' = r ∧ i_Rel (k + 5) u v) v v1) u v1 := by
  obtain ⟨f, m⟩ := u
  obtain ⟨g, m'⟩ := v
  obtain rfl : f = g := I
  by_cases hc : sk_in 5 v1
  · obtain ⟨t, ht, rfl⟩ := hc
    exact sk_xco ht (sk_ycn ht ⟨rfl, rfl⟩)
  · exact sk_xco0 hc (sk_yco0 hc ⟨rfl, rfl⟩)
theorem i_vc_next {k : Nat} {u : SX} {v : SY} (I : i_Rel k u v) (hk : k + 5 ≤ 2560) (v1 : Int32) (v2 : Int32) (v3 : Int32) : wpX_next (fun r => wpY_next (fun r' => r' = r ∧ i_Rel (k + 5) u v) v v1 v2 v3) u v1 v2 v3 := by
  obtain ⟨f, m⟩ := u
  obtain ⟨g, m'⟩ := v
  obtain rfl : f = g := I
  by_cases hc : sk_in 5 v1 ∧ sk_in 6 v2
  · obtain ⟨⟨t, ht, rfl⟩, ⟨a, ha, rfl⟩⟩ := hc
    obtain ⟨r, hX, hY⟩ := sk_nx (f := f) (m := m) (m' := m') (z := v3) ht ha 6 0 rfl
    exact sk_xne ht ha ⟨7, hX _ ⟨7, hY _ ⟨rfl, rfl⟩⟩⟩
  · exact sk_xne0 hc (sk_yne0 hc ⟨rfl, rfl⟩)
theorem i_vc_rowsProduct {k : Nat} {u : SX} {v : SY} (I : i_Rel k u v) (hk : k + 5 ≤ 2560) (v1 : Int32) (v2 : Int32) (v3 : Int32) (v4 : Int32) : wpX_rowsProduct (fun r => wpY_rowsProduct (fun r' => r' = r ∧ i_Rel (k + 5) u v) v v1 v2 v3 v4) u v1 v2 v3 v4 := by
  obtain ⟨f, m⟩ := u
  obtain ⟨g, m'⟩ := v
  obtain rfl : f = g := I
  by_cases hc : sk_in 5 v1 ∧ sk_in 6 v2 ∧ sk_in 5 v3 ∧ sk_in 6 v4
  · obtain ⟨⟨t, ht, rfl⟩, ⟨a, ha, rfl⟩, ⟨b, hb, rfl⟩, ⟨q, hq, rfl⟩⟩ := hc
    exact sk_xrp ht ha hb hq (sk_yrp ht ha hb hq ⟨rfl, rfl⟩)
  · exact sk_xrp0 hc (sk_yrp0 hc ⟨rfl, rfl⟩)
theorem i_vc_sum {k : Nat} {u : SX} {v : SY} (I : i_Rel k u v) (hk : k + 5 ≤ 2560) (v1 : Int32) (v2 : Int32) (v3 : Int32) : wpX_sum (fun r => wpY_sum (fun r' => r' = r ∧ i_Rel (k + 5) u v) v v1 v2 v3) u v1 v2 v3 := by
  obtain ⟨f, m⟩ := u
  obtain ⟨g, m'⟩ := v
  obtain rfl : f = g := I
  by_cases h1 : sk_in 5 v1
  · by_cases h3 : sk_in 3 v2
    · obtain ⟨w, hw, ew⟩ := h3
      obtain ⟨s, hs, rfl⟩ := h1
      by_cases h2 : v2 = 2
      · subst h2
        exact sk_xsmD hs (sk_ysmD hs ⟨rfl, rfl⟩)
      · by_cases h6 : sk_in 6 v3
        · obtain ⟨i, hi, rfl⟩ := h6
          have h01 : v2 = 0 ∨ v2 = 1 := by
            rcases (by omega : w = 0 ∨ w = 1 ∨ w = 2) with e | e | e
            · exact Or.inl (by rw [ew, e]; rfl)
            · exact Or.inr (by rw [ew, e]; rfl)
            · exact absurd (by rw [ew, e]; rfl) h2
          rcases h01 with rfl | rfl
          · exact sk_xsmR hs hi (sk_ysmR hs hi ⟨rfl, rfl⟩)
          · exact sk_xsmC hs hi (sk_ysmC hs hi ⟨rfl, rfl⟩)
        · exact sk_xsm0 (Or.inr ⟨h2, Or.inl h6⟩) (sk_ysm0 (Or.inr (Or.inr ⟨h2, h6⟩)) ⟨rfl, rfl⟩)
    · have n0 : ¬ v2 = 0 := fun e => h3 ⟨0, by decide, e⟩
      have n1 : ¬ v2 = 1 := fun e => h3 ⟨1, by decide, e⟩
      have n2 : ¬ v2 = 2 := fun e => h3 ⟨2, by decide, e⟩
      exact sk_xsm0 (Or.inr ⟨n2, Or.inr ⟨n0, n1⟩⟩) (sk_ysm0 (Or.inr (Or.inl h3)) ⟨rfl, rfl⟩)
  · exact sk_xsm0 (Or.inl h1) (sk_ysm0 (Or.inl h1) ⟨rfl, rfl⟩)
theorem i_vc_same {k : Nat} {u : SX} {v : SY} (I : i_Rel k u v) (hk : k + 5 ≤ 2560) (v1 : Int32) (v2 : Int32) : wpX_same (fun r => wpY_same (fun r' => r' = r ∧ i_Rel (k + 5) u v) v v1 v2) u v1 v2 := by
  obtain ⟨f, m⟩ := u
  obtain ⟨g, m'⟩ := v
  obtain rfl : f = g := I
  by_cases hc : sk_in 5 v1 ∧ sk_in 5 v2
  · obtain ⟨⟨a, ha, rfl⟩, ⟨b, hb, rfl⟩⟩ := hc
    exact sk_xsa ha hb (fun q => sk_ysa ha hb (fun _ => ⟨rfl, rfl⟩) (fun z => absurd q z)) (fun q => sk_ysa ha hb (fun z => absurd z q) (fun _ => ⟨rfl, rfl⟩))
  · exact sk_xsa0 hc (sk_ysa0 hc ⟨rfl, rfl⟩)
theorem i_vc_symmetric {k : Nat} {u : SX} {v : SY} (I : i_Rel k u v) (hk : k + 5 ≤ 2560) (v1 : Int32) : wpX_symmetric (fun r => wpY_symmetric (fun r' => r' = r ∧ i_Rel (k + 5) u v) v v1) u v1 := by
  obtain ⟨f, m⟩ := u
  obtain ⟨g, m'⟩ := v
  obtain rfl : f = g := I
  by_cases hc : sk_in 5 v1
  · obtain ⟨s, hs, rfl⟩ := hc
    exact sk_xsy hs (fun q => sk_ysy hs (fun _ => ⟨rfl, rfl⟩) (fun z => absurd q z)) (fun q => sk_ysy hs (fun z => absurd z q) (fun _ => ⟨rfl, rfl⟩))
  · exact sk_xsy0 hc (sk_ysy0 hc ⟨rfl, rfl⟩)
end
