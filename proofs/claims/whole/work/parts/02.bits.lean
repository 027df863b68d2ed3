/-! ===== sets of lines as numbers below 1024 ===== -/
theorem gb_or (a b : Nat) : nI a ||| nI b = nI (a ||| b) := by
  apply Int32.toBitVec_inj.1
  show BitVec.ofNat 32 a ||| BitVec.ofNat 32 b = BitVec.ofNat 32 (a ||| b)
  apply BitVec.eq_of_getLsbD_eq
  intro i hi
  simp [hi]
theorem gb_and (a b : Nat) : nI a &&& nI b = nI (a &&& b) := by
  apply Int32.toBitVec_inj.1
  show BitVec.ofNat 32 a &&& BitVec.ofNat 32 b = BitVec.ofNat 32 (a &&& b)
  apply BitVec.eq_of_getLsbD_eq
  intro i hi
  simp [hi]
theorem gb_xor (a b : Nat) : nI a ^^^ nI b = nI (a ^^^ b) := by
  apply Int32.toBitVec_inj.1
  show BitVec.ofNat 32 a ^^^ BitVec.ofNat 32 b = BitVec.ofNat 32 (a ^^^ b)
  apply BitVec.eq_of_getLsbD_eq
  intro i hi
  simp [hi]
theorem gb_no (a b : Nat) : nI a &&& (nI b ^^^ (-1)) = nI (a ^^^ (a &&& b)) := by
  apply Int32.toBitVec_inj.1
  have e : (-1 : Int32).toBitVec = BitVec.allOnes 32 := by decide
  show BitVec.ofNat 32 a &&& (BitVec.ofNat 32 b ^^^ (-1 : Int32).toBitVec) = BitVec.ofNat 32 (a ^^^ (a &&& b))
  rw [e]
  apply BitVec.eq_of_getLsbD_eq
  intro i hi
  rw [BitVec.getLsbD_and, BitVec.getLsbD_xor, BitVec.getLsbD_allOnes, BitVec.getLsbD_ofNat, BitVec.getLsbD_ofNat, BitVec.getLsbD_ofNat, Nat.testBit_xor, Nat.testBit_and, decide_eq_true hi]
  cases a.testBit i <;> cases b.testBit i <;> rfl
theorem gb_bit {s k : Nat} (hs : s < 1024) (hk : k < 10) : (nI s >>> (nI k &&& 31)) &&& 1 = nI (if s.testBit k = true then 1 else 0) := by
  have e : s.testBit k = decide (s / 2 ^ k % 2 = 1) := Nat.testBit_eq_decide_div_mod_eq
  have hd : s / 2 ^ k ≤ s := Nat.div_le_self _ _
  rw [pk_shrN (by omega) _ k (s_l k (by omega)), pk_andN (m := 1) (by omega) 1 (by decide), e]
  generalize s / 2 ^ k = z
  by_cases h : z % 2 = 1
  · rw [if_pos (decide_eq_true h)]
    show nI (z % 2) = _
    rw [h]
  · rw [if_neg (by rw [decide_eq_true_eq]; exact h)]
    show nI (z % 2) = _
    rw [show z % 2 = 0 by omega]
theorem gb_b1 {s k : Nat} (hs : s < 1024) (hk : k < 10) : (nI s >>> (nI k &&& 31)) &&& 1 = 1 ↔ s.testBit k = true := by
  rw [gb_bit hs hk]
  by_cases h : s.testBit k = true
  · rw [if_pos h]
    exact ⟨fun _ => h, fun _ => rfl⟩
  · rw [if_neg h]
    exact ⟨fun z => absurd z (by decide), fun z => absurd z h⟩
theorem gb_sh : ∀ k, k < 10 → (1 : Int32) <<< (nI k &&& 31) = nI (2 ^ k) := by decide +kernel
theorem gb_p2 : ∀ k, k < 10 → 2 ^ k < 1024 := by decide +kernel
theorem gb_big {a i : Nat} (ha : a < 1024) (hi : 10 ≤ i) : a.testBit i = false := by
  apply Nat.testBit_lt_two_pow
  exact Nat.lt_of_lt_of_le (show a < 2 ^ 10 from ha) (Nat.pow_le_pow_right (by decide) hi)
theorem gb_ext {a b : Nat} (ha : a < 1024) (hb : b < 1024) (h : ∀ k, k < 10 → a.testBit k = b.testBit k) : a = b := by
  apply Nat.eq_of_testBit_eq
  intro i
  rcases Nat.lt_or_ge i 10 with hi | hi
  · exact h i hi
  · rw [gb_big ha hi, gb_big hb hi]
theorem gb_landlt (a : Nat) {b : Nat} (hb : b < 1024) : a &&& b < 1024 := Nat.and_lt_two_pow a (n := 10) hb
theorem gb_lorlt {a b : Nat} (ha : a < 1024) (hb : b < 1024) : a ||| b < 1024 := Nat.or_lt_two_pow (n := 10) ha hb
theorem gb_lxorlt {a b : Nat} (ha : a < 1024) (hb : b < 1024) : a ^^^ b < 1024 := Nat.xor_lt_two_pow (n := 10) ha hb
theorem gb_sub {s d : Nat} (hs : s < 1024) : s &&& d = s ↔ ∀ k, k < 10 → s.testBit k = true → d.testBit k = true := by
  constructor
  · intro e k hk h
    rw [← e, Nat.testBit_and, Bool.and_eq_true] at h
    exact h.2
  · intro h
    apply Nat.eq_of_testBit_eq
    intro i
    rw [Nat.testBit_and]
    rcases Nat.lt_or_ge i 10 with hi | hi
    · cases e : s.testBit i
      · rfl
      · rw [h i hi e]; rfl
    · rw [gb_big hs hi]; rfl
theorem gb_x0 {a b : Nat} : a ^^^ (a &&& b) = 0 ↔ a &&& b = a := by
  constructor
  · intro e
    apply Nat.eq_of_testBit_eq
    intro i
    have h : (a ^^^ (a &&& b)).testBit i = false := by rw [e]; exact Nat.zero_testBit i
    rw [Nat.testBit_xor, Nat.testBit_and] at h
    rw [Nat.testBit_and]
    revert h
    cases a.testBit i <;> cases b.testBit i <;> decide
  · intro e
    rw [e, Nat.xor_self]
theorem gb_mk (A : Nat → Bool) : ∀ n, ∃ s, s < 2 ^ n ∧ ∀ k, k < n → s.testBit k = A k := by
  intro n
  induction n with
  | zero => exact ⟨0, by decide, fun k hk => absurd hk (by omega)⟩
  | succ n ih =>
    obtain ⟨s, hs, h⟩ := ih
    have h2 : s < 2 ^ (n + 1) := Nat.lt_of_lt_of_le hs (Nat.pow_le_pow_right (by decide) (by omega))
    by_cases a : A n = true
    · refine ⟨s ||| 2 ^ n, Nat.or_lt_two_pow h2 (Nat.pow_lt_pow_right (by decide) (by omega)), ?_⟩
      intro k hk
      rw [Nat.testBit_or, Nat.testBit_two_pow]
      by_cases e : k = n
      · rw [e, a, decide_eq_true (rfl : n = n), Bool.or_true]
      · rw [h k (by omega), decide_eq_false (fun z => e z.symm), Bool.or_false]
    · refine ⟨s, h2, ?_⟩
      intro k hk
      by_cases e : k = n
      · rw [e, Nat.testBit_lt_two_pow hs, Bool.eq_false_iff.mpr a]
      · exact h k (by omega)
/-! set bit, clear bit -/
theorem gb_set {d k i : Nat} : (d ||| 2 ^ k).testBit i = (d.testBit i || decide (k = i)) := by
  rw [Nat.testBit_or, Nat.testBit_two_pow]
theorem gb_clr {d k i : Nat} : (d ^^^ (d &&& 2 ^ k)).testBit i = (d.testBit i && !(decide (k = i))) := by
  rw [Nat.testBit_xor, Nat.testBit_and, Nat.testBit_two_pow]
  cases d.testBit i <;> cases decide (k = i) <;> rfl
/-! ===== what a tree is, for both sides ===== -/
def gt_b (b : Bool) : Int32 := if b = true then 1 else 0
theorem gt_bt : gt_b true = 1 := rfl
theorem gt_bf : gt_b false = 0 := rfl
/-- all lines of s are there and close no ring -/
def gt_q (d : Nat) (F T : Nat → Nat) (s : Nat) : Bool := decide (s &&& d = s) && decide (gf_c (gf_z F T s.testBit) 10 = 0)
def gt_t (n d : Nat) (F T : Nat → Nat) (s : Nat) : Bool := decide (gf_c s.testBit 10 = n - 1) && gt_q d F T s
/-- what a line must be for Y's look -/
def gt_ok (d : Nat) (F T : Nat → Nat) (s k : Nat) : Prop := s.testBit k = true → d.testBit k = true ∧ ¬ gf_g F T s.testBit k (F k) = gf_g F T s.testBit k (T k)
theorem gt_qt {d : Nat} {F T : Nat → Nat} {s : Nat} (hs : s < 1024) : gt_q d F T s = true ↔ ∀ k, k < 10 → gt_ok d F T s k := by
  unfold gt_q gt_ok
  rw [Bool.and_eq_true, decide_eq_true_eq, decide_eq_true_eq, gb_sub hs, gf_c0]
  constructor
  · intro h k hk hb
    refine ⟨h.1 k hk hb, fun e => ?_⟩
    have h2 := h.2 k hk
    unfold gf_z at h2
    rw [hb, decide_eq_true e] at h2
    exact absurd h2 (by decide)
  · intro h
    refine ⟨fun k hk hb => (h k hk hb).1, fun k hk => ?_⟩
    unfold gf_z
    cases hb : s.testBit k
    · rfl
    · rw [decide_eq_false (h k hk hb).2]; rfl
theorem gt_qf {d : Nat} {F T : Nat → Nat} {s k : Nat} (hs : s < 1024) (hk : k < 10) (h : ¬ gt_ok d F T s k) : gt_q d F T s = false := by
  apply Bool.eq_false_iff.mpr
  intro e
  exact h ((gt_qt hs).mp e k hk)
/-! ===== the surplus: Y's least is X's closing lines ===== -/
/-- a kept set takes away at least the closing lines -/
theorem gt_ge {d : Nat} {F T : Nat → Nat} {B s : Nat} (hF : ∀ k, k < 10 → F k < 6) (hT : ∀ k, k < 10 → T k < 6) (hs : s < 1024) (h1 : s &&& B = s) (h2 : gt_q d F T s = true) : gf_c s.testBit 10 ≤ gf_c B.testBit 10 ∧ gf_c (gf_z F T B.testBit) 10 ≤ gf_c B.testBit 10 - gf_c s.testBit 10 := by
  have h3 := (gb_sub hs).mp h1
  have h4 := gf_sub (A := s.testBit) (B := B.testBit) hF hT h3
  have h5 : gf_c (gf_z F T s.testBit) 10 = 0 := by
    unfold gt_q at h2
    rw [Bool.and_eq_true, decide_eq_true_eq, decide_eq_true_eq] at h2
    exact h2.2
  have h6 := gf_cmono 10 h3
  omega
/-- and one takes away just these -/
theorem gt_ex {d : Nat} {F T : Nat → Nat} {B : Nat} (hF : ∀ k, k < 10 → F k < 6) (hT : ∀ k, k < 10 → T k < 6) (hB : B &&& d = B) (hB2 : B < 1024) : ∃ s, s < 1024 ∧ s &&& B = s ∧ gt_q d F T s = true ∧ gf_c B.testBit 10 - gf_c s.testBit 10 = gf_c (gf_z F T B.testBit) 10 := by
  obtain ⟨s, hs, h⟩ := gb_mk (gf_k F T B.testBit) 10
  have hs2 : s < 1024 := hs
  have h1 : s &&& B = s := by
    rw [gb_sub hs2]
    intro k hk e
    rw [h k hk] at e
    exact gf_kb F T B.testBit k e
  have h2 : gf_c s.testBit 10 = gf_c (gf_k F T B.testBit) 10 := gf_ceq 10 h
  have h3 : gf_c (gf_z F T s.testBit) 10 = 0 := by
    rw [gf_zc 10 h]
    exact (gf_c0 10).mpr (fun k _ => gf_kz F T B.testBit k)
  have h4 := gf_kc F T B.testBit hF hT
  have h5 : s &&& d = s := by
    rw [gb_sub hs2]
    intro k hk e
    exact (gb_sub hB2).mp hB k hk ((gb_sub hs2).mp h1 k hk e)
  refine ⟨s, hs2, h1, ?_, by omega⟩
  unfold gt_q
  rw [h5, h3]
  simp
/-! the search for the rank-th tree -/
def gt_f (t : Nat → Bool) (r : Int32) : Nat → Nat → Nat → Int32
  | 0, _, _ => -1
  | j + 1, s, c => if t s = true then (if nI c = r then nI s else gt_f t r j (s + 1) (c + 1)) else gt_f t r j (s + 1) c
/-- the trees that have all of nd -/
def gt_h (n d : Nat) (F T : Nat → Nat) (nd s : Nat) : Bool := decide (s &&& nd = nd) && gt_t n d F T s
theorem gt_ff {t : Nat → Bool} {r : Int32} {j s c : Nat} (h : t s = false) : gt_f t r (j + 1) s c = gt_f t r j (s + 1) c := by
  show (if t s = true then (if nI c = r then nI s else gt_f t r j (s + 1) (c + 1)) else gt_f t r j (s + 1) c) = _
  rw [if_neg (by rw [h]; decide)]
theorem gt_fh {t : Nat → Bool} {r : Int32} {j s c : Nat} (h : t s = true) (e : nI c = r) : gt_f t r (j + 1) s c = nI s := by
  show (if t s = true then (if nI c = r then nI s else gt_f t r j (s + 1) (c + 1)) else gt_f t r j (s + 1) c) = _
  rw [if_pos h, if_pos e]
theorem gt_fn {t : Nat → Bool} {r : Int32} {j s c : Nat} (h : t s = true) (e : ¬ nI c = r) : gt_f t r (j + 1) s c = gt_f t r j (s + 1) (c + 1) := by
  show (if t s = true then (if nI c = r then nI s else gt_f t r j (s + 1) (c + 1)) else gt_f t r j (s + 1) c) = _
  rw [if_pos h, if_neg e]
