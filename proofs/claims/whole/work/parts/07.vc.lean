/-! what is owed: both sides hold the same cells; the scratch arrays are free -/
def i_Rel (_ : Nat) (u : SX) (v : SY) : Prop := u.1 = v.1
theorem i_up {k : Nat} {u : SX} {v : SY} (h : i_Rel k u v) : i_Rel (k + 5) u v := h
theorem i_vc0 : wpX_init (fun u => wpY_init (fun v => i_Rel 0 u v)) := rfl
theorem i_vc_put {k : Nat} {u : SX} {v : SY} (I : i_Rel k u v) (hk : k + 5 ≤ 2560) (v1 : Int32) (v2 : Int32) (v3 : Int32) (v4 : Int32) : wpX_put (fun r u' => wpY_put (fun r' v' => r' = r ∧ i_Rel (k + 5) u' v') v v1 v2 v3 v4) u v1 v2 v3 v4 := by
  obtain ⟨f, m⟩ := u
  obtain ⟨g, m'⟩ := v
  obtain rfl : f = g := I
  by_cases hc : sk_in 5 v1 ∧ sk_in 6 v2 ∧ sk_in 6 v3
  · obtain ⟨⟨t, ht, rfl⟩, ⟨a, ha, rfl⟩, ⟨b, hb, rfl⟩⟩ := hc
    exact sk_xpu ht ha hb (sk_ypu ht ha hb ⟨rfl, rfl⟩)
  · exact sk_xpu0 hc (sk_ypu0 hc ⟨rfl, rfl⟩)
theorem i_vc_add {k : Nat} {u : SX} {v : SY} (I : i_Rel k u v) (hk : k + 5 ≤ 2560) (v1 : Int32) (v2 : Int32) (v3 : Int32) : wpX_add (fun r u' => wpY_add (fun r' v' => r' = r ∧ i_Rel (k + 5) u' v') v v1 v2 v3) u v1 v2 v3 := by
  obtain ⟨f, m⟩ := u
  obtain ⟨g, m'⟩ := v
  obtain rfl : f = g := I
  by_cases hc : sk_in 5 v1 ∧ sk_in 5 v2 ∧ sk_in 5 v3
  · obtain ⟨⟨t, ht, rfl⟩, ⟨a, ha, rfl⟩, ⟨b, hb, rfl⟩⟩ := hc
    exact sk_xad ht ha hb fun _ => sk_yad ht ha hb fun _ => ⟨rfl, rfl⟩
  · exact sk_xad0 hc (sk_yad0 hc ⟨rfl, rfl⟩)
theorem i_vc_entrywise {k : Nat} {u : SX} {v : SY} (I : i_Rel k u v) (hk : k + 5 ≤ 2560) (v1 : Int32) (v2 : Int32) (v3 : Int32) : wpX_entrywise (fun r u' => wpY_entrywise (fun r' v' => r' = r ∧ i_Rel (k + 5) u' v') v v1 v2 v3) u v1 v2 v3 := by
  obtain ⟨f, m⟩ := u
  obtain ⟨g, m'⟩ := v
  obtain rfl : f = g := I
  by_cases hc : sk_in 5 v1 ∧ sk_in 5 v2 ∧ sk_in 5 v3
  · obtain ⟨⟨t, ht, rfl⟩, ⟨a, ha, rfl⟩, ⟨b, hb, rfl⟩⟩ := hc
    exact sk_xew ht ha hb fun _ => sk_yew ht ha hb fun _ => ⟨rfl, rfl⟩
  · exact sk_xew0 hc (sk_yew0 hc ⟨rfl, rfl⟩)
theorem i_vc_product {k : Nat} {u : SX} {v : SY} (I : i_Rel k u v) (hk : k + 5 ≤ 2560) (v1 : Int32) (v2 : Int32) (v3 : Int32) : wpX_product (fun r u' => wpY_product (fun r' v' => r' = r ∧ i_Rel (k + 5) u' v') v v1 v2 v3) u v1 v2 v3 := by
  obtain ⟨f, m⟩ := u
  obtain ⟨g, m'⟩ := v
  obtain rfl : f = g := I
  by_cases hc : sk_in 5 v1 ∧ sk_in 5 v2 ∧ sk_in 5 v3
  · obtain ⟨⟨t, ht, rfl⟩, ⟨a, ha, rfl⟩, ⟨b, hb, rfl⟩⟩ := hc
    exact sk_xpr ht ha hb fun _ => sk_ypr ht ha hb fun _ => ⟨rfl, rfl⟩
  · exact sk_xpr0 hc (sk_ypr0 hc ⟨rfl, rfl⟩)
theorem i_vc_masked {k : Nat} {u : SX} {v : SY} (I : i_Rel k u v) (hk : k + 5 ≤ 2560) (v1 : Int32) (v2 : Int32) : wpX_masked (fun r u' => wpY_masked (fun r' v' => r' = r ∧ i_Rel (k + 5) u' v') v v1 v2) u v1 v2 := by
  obtain ⟨f, m⟩ := u
  obtain ⟨g, m'⟩ := v
  obtain rfl : f = g := I
  by_cases hc : sk_in 5 v1 ∧ sk_in 5 (v2 &&& 7) ∧ sk_in 5 ((v2 >>> ((3 : Int32) &&& 31)) &&& 7) ∧ sk_in 5 (v2 >>> ((6 : Int32) &&& 31))
  · obtain ⟨⟨t, ht, rfl⟩, ⟨a, ha, ea⟩, ⟨b, hb, eb⟩, ⟨q, hq, eq⟩⟩ := hc
    exact sk_xmk ht ha hb hq ea eb eq fun _ => sk_ymk ht ha hb hq ea eb eq fun _ => ⟨rfl, rfl⟩
  · exact sk_xmk0 hc (sk_ymk0 hc ⟨rfl, rfl⟩)
theorem i_vc_transpose {k : Nat} {u : SX} {v : SY} (I : i_Rel k u v) (hk : k + 5 ≤ 2560) (v1 : Int32) (v2 : Int32) : wpX_transpose (fun r u' => wpY_transpose (fun r' v' => r' = r ∧ i_Rel (k + 5) u' v') v v1 v2) u v1 v2 := by
  obtain ⟨f, m⟩ := u
  obtain ⟨g, m'⟩ := v
  obtain rfl : f = g := I
  by_cases hc : sk_in 5 v1 ∧ sk_in 5 v2
  · obtain ⟨⟨t, ht, rfl⟩, ⟨a, ha, rfl⟩⟩ := hc
    exact sk_xtr ht ha fun _ => sk_ytr ht ha fun _ => ⟨rfl, rfl⟩
  · exact sk_xtr0 hc (sk_ytr0 hc ⟨rfl, rfl⟩)
theorem i_vc_scale {k : Nat} {u : SX} {v : SY} (I : i_Rel k u v) (hk : k + 5 ≤ 2560) (v1 : Int32) (v2 : Int32) (v3 : Int32) : wpX_scale (fun r u' => wpY_scale (fun r' v' => r' = r ∧ i_Rel (k + 5) u' v') v v1 v2 v3) u v1 v2 v3 := by
  obtain ⟨f, m⟩ := u
  obtain ⟨g, m'⟩ := v
  obtain rfl : f = g := I
  by_cases hc : sk_in 5 v1 ∧ sk_in 5 v2
  · obtain ⟨⟨t, ht, rfl⟩, ⟨a, ha, rfl⟩⟩ := hc
    exact sk_xsc ht ha fun _ => sk_ysc ht ha fun _ => ⟨rfl, rfl⟩
  · exact sk_xsc0 hc (sk_ysc0 hc ⟨rfl, rfl⟩)
theorem i_vc_select {k : Nat} {u : SX} {v : SY} (I : i_Rel k u v) (hk : k + 5 ≤ 2560) (v1 : Int32) (v2 : Int32) (v3 : Int32) : wpX_select (fun r u' => wpY_select (fun r' v' => r' = r ∧ i_Rel (k + 5) u' v') v v1 v2 v3) u v1 v2 v3 := by
  obtain ⟨f, m⟩ := u
  obtain ⟨g, m'⟩ := v
  obtain rfl : f = g := I
  by_cases hc : sk_in 5 v1 ∧ sk_in 5 v2 ∧ ¬ v3 < 0 ∧ v3 < 4096
  · obtain ⟨⟨t, ht, rfl⟩, ⟨a, ha, rfl⟩, h0, h4⟩ := hc
    exact sk_xsl ht ha h0 h4 fun _ => sk_ysl ht ha h0 h4 fun _ => ⟨rfl, rfl⟩
  · exact sk_xsl0 hc (sk_ysl0 hc ⟨rfl, rfl⟩)
theorem i_vc_at {k : Nat} {u : SX} {v : SY} (I : i_Rel k u v) (hk : k + 5 ≤ 2560) (v1 : Int32) (v2 : Int32) (v3 : Int32) : wpX_at (fun r => wpY_at (fun r' => r' = r ∧ i_Rel (k + 5) u v) v v1 v2 v3) u v1 v2 v3 := by
  obtain ⟨f, m⟩ := u
  obtain ⟨g, m'⟩ := v
  obtain rfl : f = g := I
  by_cases hc : sk_in 5 v1 ∧ sk_in 6 v2 ∧ sk_in 6 v3
  · obtain ⟨⟨t, ht, rfl⟩, ⟨a, ha, rfl⟩, ⟨b, hb, rfl⟩⟩ := hc
    exact sk_xat ht ha hb (sk_yat ht ha hb ⟨rfl, rfl⟩)
  · exact sk_xat0 hc (sk_yat0 hc ⟨rfl, rfl⟩)
theorem i_vc_count {k : Nat} {u : SX} {v : SY} (I : i_Rel k u v) (hk : k + 5 ≤ 2560) (v1 : Int32) : wpX_count (fun r => wpY_count (fun r' => r' = r ∧ i_Rel (k + 5) u v) v v1) u v1 := by
  obtain ⟨f, m⟩ := u
  obtain ⟨g, m'⟩ := v
  obtain rfl : f = g := I
  by_cases hc : sk_in 5 v1
  · obtain ⟨t, ht, rfl⟩ := hc
    exact sk_xco ht (sk_ycn ht ⟨rfl, rfl⟩)
  · exact sk_xco0 hc (sk_yco0 hc ⟨rfl, rfl⟩)
theorem i_vc_next {k : Nat} {u : SX} {v : SY} (I : i_Rel k u v) (hk : k + 5 ≤ 2560) (v1 : Int32) (v2 : Int32) (v3 : Int32) : wpX_next (fun r => wpY_next (fun r' => r' = r ∧ i_Rel (k + 5) u v) v v1 v2 v3) u v1 v2 v3 := by
  obtain ⟨f, m⟩ := u
  obtain ⟨g, m'⟩ := v
  obtain rfl : f = g := I
  by_cases hc : sk_in 5 v1 ∧ sk_in 6 v2
  · obtain ⟨⟨t, ht, rfl⟩, ⟨a, ha, rfl⟩⟩ := hc
    obtain ⟨r, hX, hY⟩ := sk_nx (f := f) (m := m) (m' := m') (z := v3) ht ha 6 0 rfl
    exact sk_xne ht ha ⟨7, hX _ ⟨7, hY _ ⟨rfl, rfl⟩⟩⟩
  · exact sk_xne0 hc (sk_yne0 hc ⟨rfl, rfl⟩)
theorem i_vc_rowsProduct {k : Nat} {u : SX} {v : SY} (I : i_Rel k u v) (hk : k + 5 ≤ 2560) (v1 : Int32) (v2 : Int32) (v3 : Int32) (v4 : Int32) : wpX_rowsProduct (fun r => wpY_rowsProduct (fun r' => r' = r ∧ i_Rel (k + 5) u v) v v1 v2 v3 v4) u v1 v2 v3 v4 := by
  obtain ⟨f, m⟩ := u
  obtain ⟨g, m'⟩ := v
  obtain rfl : f = g := I
  by_cases hc : sk_in 5 v1 ∧ sk_in 6 v2 ∧ sk_in 5 v3 ∧ sk_in 6 v4
  · obtain ⟨⟨t, ht, rfl⟩, ⟨a, ha, rfl⟩, ⟨b, hb, rfl⟩, ⟨q, hq, rfl⟩⟩ := hc
    exact sk_xrp ht ha hb hq (sk_yrp ht ha hb hq ⟨rfl, rfl⟩)
  · exact sk_xrp0 hc (sk_yrp0 hc ⟨rfl, rfl⟩)
theorem i_vc_sum {k : Nat} {u : SX} {v : SY} (I : i_Rel k u v) (hk : k + 5 ≤ 2560) (v1 : Int32) (v2 : Int32) (v3 : Int32) : wpX_sum (fun r => wpY_sum (fun r' => r' = r ∧ i_Rel (k + 5) u v) v v1 v2 v3) u v1 v2 v3 := by
  obtain ⟨f, m⟩ := u
  obtain ⟨g, m'⟩ := v
  obtain rfl : f = g := I
  by_cases h1 : sk_in 5 v1
  · by_cases h3 : sk_in 3 v2
    · obtain ⟨w, hw, ew⟩ := h3
      obtain ⟨s, hs, rfl⟩ := h1
      by_cases h2 : v2 = 2
      · subst h2
        exact sk_xsmD hs (sk_ysmD hs ⟨rfl, rfl⟩)
      · by_cases h6 : sk_in 6 v3
        · obtain ⟨i, hi, rfl⟩ := h6
          have h01 : v2 = 0 ∨ v2 = 1 := by
            rcases (by omega : w = 0 ∨ w = 1 ∨ w = 2) with e | e | e
            · exact Or.inl (by rw [ew, e]; rfl)
            · exact Or.inr (by rw [ew, e]; rfl)
            · exact absurd (by rw [ew, e]; rfl) h2
          rcases h01 with rfl | rfl
          · exact sk_xsmR hs hi (sk_ysmR hs hi ⟨rfl, rfl⟩)
          · exact sk_xsmC hs hi (sk_ysmC hs hi ⟨rfl, rfl⟩)
        · exact sk_xsm0 (Or.inr ⟨h2, Or.inl h6⟩) (sk_ysm0 (Or.inr (Or.inr ⟨h2, h6⟩)) ⟨rfl, rfl⟩)
    · have n0 : ¬ v2 = 0 := fun e => h3 ⟨0, by decide, e⟩
      have n1 : ¬ v2 = 1 := fun e => h3 ⟨1, by decide, e⟩
      have n2 : ¬ v2 = 2 := fun e => h3 ⟨2, by decide, e⟩
      exact sk_xsm0 (Or.inr ⟨n2, Or.inr ⟨n0, n1⟩⟩) (sk_ysm0 (Or.inr (Or.inl h3)) ⟨rfl, rfl⟩)
  · exact sk_xsm0 (Or.inl h1) (sk_ysm0 (Or.inl h1) ⟨rfl, rfl⟩)
theorem i_vc_same {k : Nat} {u : SX} {v : SY} (I : i_Rel k u v) (hk : k + 5 ≤ 2560) (v1 : Int32) (v2 : Int32) : wpX_same (fun r => wpY_same (fun r' => r' = r ∧ i_Rel (k + 5) u v) v v1 v2) u v1 v2 := by
  obtain ⟨f, m⟩ := u
  obtain ⟨g, m'⟩ := v
  obtain rfl : f = g := I
  by_cases hc : sk_in 5 v1 ∧ sk_in 5 v2
  · obtain ⟨⟨a, ha, rfl⟩, ⟨b, hb, rfl⟩⟩ := hc
    exact sk_xsa ha hb (fun q => sk_ysa ha hb (fun _ => ⟨rfl, rfl⟩) (fun z => absurd q z)) (fun q => sk_ysa ha hb (fun z => absurd z q) (fun _ => ⟨rfl, rfl⟩))
  · exact sk_xsa0 hc (sk_ysa0 hc ⟨rfl, rfl⟩)
theorem i_vc_symmetric {k : Nat} {u : SX} {v : SY} (I : i_Rel k u v) (hk : k + 5 ≤ 2560) (v1 : Int32) : wpX_symmetric (fun r => wpY_symmetric (fun r' => r' = r ∧ i_Rel (k + 5) u v) v v1) u v1 := by
  obtain ⟨f, m⟩ := u
  obtain ⟨g, m'⟩ := v
  obtain rfl : f = g := I
  by_cases hc : sk_in 5 v1
  · obtain ⟨s, hs, rfl⟩ := hc
    exact sk_xsy hs (fun q => sk_ysy hs (fun _ => ⟨rfl, rfl⟩) (fun z => absurd q z)) (fun q => sk_ysy hs (fun z => absurd z q) (fun _ => ⟨rfl, rfl⟩))
  · exact sk_xsy0 hc (sk_ysy0 hc ⟨rfl, rfl⟩)
