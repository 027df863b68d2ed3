/-! ===== the scratch array against the labels ===== -/
def gw_ab (g G : Nat → Int32) : Prop := ∀ p, p < 6 → g p = G p
/-- the points below i set apart -/
def gw_sp (g : Nat → Int32) (i : Nat) : Nat → Int32 := fun p => if p < i then nI p else g p
/-- the points below i relabelled -/
def gw_mg (g : Nat → Int32) (kp gn : Int32) (i : Nat) : Nat → Int32 := fun p => if p < i ∧ g p = gn then kp else g p
theorem gw_sp0 (g : Nat → Int32) : gw_sp g 0 = g := by
  funext p
  exact if_neg (Nat.not_lt_zero p)
theorem gw_sps (g : Nat → Int32) (i : Nat) : upd (gw_sp g i) i (nI i) = gw_sp g (i + 1) := by
  funext p
  show (if p = i then nI i else if p < i then nI p else g p) = (if p < i + 1 then nI p else g p)
  by_cases e : p = i
  · rw [if_pos e, if_pos (by omega), e]
  · rw [if_neg e]
    by_cases h : p < i
    · rw [if_pos h, if_pos (by omega)]
    · rw [if_neg h, if_neg (by omega)]
theorem gw_spa (g : Nat → Int32) : gw_ab (gw_sp g 6) (fun p => nI p) := fun p hp => if_pos hp
theorem gw_mg0 (g : Nat → Int32) (kp gn : Int32) : gw_mg g kp gn 0 = g := by
  funext p
  exact if_neg (fun z => Nat.not_lt_zero p z.1)
theorem gw_mgi (g : Nat → Int32) (kp gn : Int32) (i : Nat) : gw_mg g kp gn i i = g i := if_neg (fun z => Nat.lt_irrefl i z.1)
theorem gw_mgt {g : Nat → Int32} {kp gn : Int32} {i : Nat} (h : g i = gn) : upd (gw_mg g kp gn i) i kp = gw_mg g kp gn (i + 1) := by
  funext p
  show (if p = i then kp else if p < i ∧ g p = gn then kp else g p) = (if p < i + 1 ∧ g p = gn then kp else g p)
  by_cases e : p = i
  · rw [if_pos e, if_pos ⟨by omega, by rw [e]; exact h⟩]
  · rw [if_neg e]
    by_cases h2 : p < i ∧ g p = gn
    · rw [if_pos h2, if_pos ⟨by omega, h2.2⟩]
    · rw [if_neg h2, if_neg (fun z => h2 ⟨by omega, z.2⟩)]
theorem gw_mgf {g : Nat → Int32} {kp gn : Int32} {i : Nat} (h : ¬ g i = gn) : gw_mg g kp gn i = gw_mg g kp gn (i + 1) := by
  funext p
  show (if p < i ∧ g p = gn then kp else g p) = (if p < i + 1 ∧ g p = gn then kp else g p)
  by_cases e : p = i
  · rw [if_neg (fun z => absurd z.1 (by omega)), if_neg (fun z => h (by rw [← e]; exact z.2))]
  · by_cases h2 : p < i ∧ g p = gn
    · rw [if_pos h2, if_pos ⟨by omega, h2.2⟩]
    · rw [if_neg h2, if_neg (fun z => h2 ⟨by omega, z.2⟩)]
theorem gw_mga {g G : Nat → Int32} {a b : Nat} (h : gw_ab g G) (ha : a < 6) (hb : b < 6) : gw_ab (gw_mg g (g a) (g b) 6) (gf_m G a b) := by
  intro p hp
  show (if p < 6 ∧ g p = g b then g a else g p) = (if G p = G b then G a else G p)
  rw [h p hp, h a ha, h b hb]
  by_cases e : G p = G b
  · rw [if_pos ⟨hp, e⟩, if_pos e]
  · rw [if_neg (fun z => e z.2), if_neg e]
/-! ===== numbers of the walks ===== -/
theorem gn_10 : ∀ i, i < 10 → ¬ (10 : Int32) ≤ nI i := by decide +kernel
theorem gn_10e : (10 : Int32) ≤ nI 10 := by decide +kernel
theorem gn_6 : ∀ i, i < 6 → ¬ (6 : Int32) ≤ nI i := by decide +kernel
theorem gn_6e : (6 : Int32) ≤ nI 6 := by decide +kernel
theorem gn_k {s : Nat} (h : s < 1024) : ¬ (1024 : Int32) ≤ nI s := nI_ge (b := 1024) h (by decide)
theorem gn_ke : (1024 : Int32) ≤ nI 1024 := by decide +kernel
theorem gn_L {s L : Nat} (h : s < L) (hL : L ≤ 1024) : ¬ nI L ≤ nI s := nI_ge h (by omega)
theorem gn_Le (L : Nat) : nI L ≤ nI L := Int32.le_refl _
theorem gn_cl {k : Nat} (h : k < 1025) : (nI k).toNatClampNeg = k := nI_clamp (by omega)
theorem gn_cnt {s i : Nat} (hs : s < 1024) (hi : i < 10) : nI (gf_c s.testBit i) + ((nI s >>> (nI i &&& 31)) &&& 1) = nI (gf_c s.testBit (i + 1)) := by
  rw [gb_bit hs hi, nI_add, gf_cs]
/-! the ends of the lines -/
def gw_in (A : Nat → Int32) : Prop := ∀ k, k < 10 → vp_in (A k) 6
def gw_n (A : Nat → Int32) (k : Nat) : Nat := (A k).toNatClampNeg
theorem gw_nl {A : Nat → Int32} (h : gw_in A) : ∀ k, k < 10 → gw_n A k < 6 := by
  intro k hk
  obtain ⟨j, hj, e⟩ := vp_in_of (h k hk) (by omega)
  show (A k).toNatClampNeg < 6
  rw [e, nI_clamp (by omega)]
  exact hj
theorem gw_inu {A : Nat → Int32} (h : gw_in A) {k j : Nat} (hj : j < 6) : gw_in (upd A k (nI j)) := by
  intro p hp
  by_cases e : p = k
  · rw [e, pk_us]; exact vp_in_nI hj (by omega)
  · rw [pk_un e]; exact h p hp
