section
/-! rows of kit/rows (pasted) -/
theorem pk_us {f : Nat → Int32} {k : Nat} {x : Int32} : upd f k x k = x := if_pos rfl
theorem pk_un {f : Nat → Int32} {k j : Nat} {x : Int32} (h : j ≠ k) : upd f k x j = f j := if_neg h
theorem pk_sub {a b : Nat} (h : b ≤ a) : nI a - nI b = nI (a - b) := by
  obtain ⟨c, rfl⟩ : ∃ c, a = c + b := ⟨a - b, by omega⟩
  rw [← nI_add, Int32.add_sub_cancel, Nat.add_sub_cancel]
theorem pk_m1 (n : Nat) : nI (n + 1) + (-1) = nI n := by
  rw [← nI_1, Int32.add_assoc, show (1 : Int32) + (-1) = 0 from rfl, Int32.add_zero]
theorem pk_ix (x : Int32) {n : Nat} (hn : n < 2 ^ 31) : x < 0 ∨ nI n ≤ x ∨ ∃ j : Nat, j < n ∧ x = nI j := by
  by_cases h : x < 0
  · exact Or.inl h
  · obtain ⟨j, hj, rfl⟩ := nI_of h
    by_cases h2 : j < n
    · exact Or.inr (Or.inr ⟨j, h2, rfl⟩)
    · exact Or.inr (Or.inl (nI_le (by omega) hj))
theorem pk_le {x y : Int32} {A B : Prop} (a b : Nat) (f : a ≤ b → A) (g : b < a → B) (hx : x = nI a := by rfl) (hy : y = nI b := by rfl) (ha : a < 2 ^ 31 := by omega) (hb : b < 2 ^ 31 := by omega) : (x ≤ y → A) ∧ (¬ x ≤ y → B) := by
  subst hx hy
  rw [nI_leI ha hb]
  exact ⟨f, fun z => g (by omega)⟩
theorem pk_lt {x y : Int32} {A B : Prop} (a b : Nat) (f : a < b → A) (g : b ≤ a → B) (hx : x = nI a := by rfl) (hy : y = nI b := by rfl) (ha : a < 2 ^ 31 := by omega) (hb : b < 2 ^ 31 := by omega) : (x < y → A) ∧ (¬ x < y → B) := by
  subst hx hy
  rw [nI_ltI ha hb]
  exact ⟨f, fun z => g (by omega)⟩
theorem pk_eq {x y : Int32} {A B : Prop} (a b : Nat) (f : a = b → A) (g : a ≠ b → B) (hx : x = nI a := by rfl) (hy : y = nI b := by rfl) (ha : a < 2 ^ 31 := by omega) (hb : b < 2 ^ 31 := by omega) : (x = y → A) ∧ (¬ x = y → B) := by
  subst hx hy
  rw [nI_eq ha hb]
  exact ⟨f, g⟩
theorem pk_in {x : Int32} (n N : Nat) (h : n < N) (hx : x = nI n := by rfl) (hN : N < 2 ^ 31 := by omega) : vp_in x N := by
  subst hx
  exact vp_in_nI h hN
theorem pk_cl {x : Int32} (n : Nat) (hx : x = nI n := by rfl) (h : n < 2 ^ 31 := by omega) : x.toNatClampNeg = n := by
  subst hx
  exact nI_clamp h
theorem pk_tn {n : Nat} (h : n < 2 ^ 32) : (nI n).toBitVec.toNat = n := Nat.mod_eq_of_lt h
theorem pk_and (x : Int32) {m : Int32} (k : Nat) (hm : m.toBitVec.toNat = 2 ^ k - 1) : x &&& m = nI (x.toBitVec.toNat % 2 ^ k) := by
  apply Int32.toBitVec_inj.mp
  apply BitVec.eq_of_toNat_eq
  rw [Int32.toBitVec_and, BitVec.toNat_and, hm, Nat.and_two_pow_sub_one_eq_mod]
  show _ = (BitVec.ofNat 32 _).toNat
  rw [BitVec.toNat_ofNat]
  exact (Nat.mod_eq_of_lt (Nat.lt_of_le_of_lt (Nat.mod_le _ _) x.toBitVec.isLt)).symm
theorem pk_andN {n : Nat} (h : n < 2 ^ 32) {m : Int32} (k : Nat) (hm : m.toBitVec.toNat = 2 ^ k - 1) : nI n &&& m = nI (n % 2 ^ k) := by
  rw [pk_and _ k hm, pk_tn h]
theorem pk_shl (a s : Int32) (k : Nat) (hs : (s.toBitVec.smod 32).toNat = k) : (a <<< s).toBitVec.toNat = a.toBitVec.toNat * 2 ^ k % 2 ^ 32 := by
  show (a.toBitVec <<< (s.toBitVec.smod 32).toNat).toNat = _
  rw [hs, BitVec.toNat_shiftLeft, Nat.shiftLeft_eq]
theorem pk_shlN {n : Nat} (s : Int32) (k : Nat) (hs : (s.toBitVec.smod 32).toNat = k) (h : n * 2 ^ k < 2 ^ 32) : nI n <<< s = nI (n * 2 ^ k) := by
  apply Int32.toBitVec_inj.mp
  apply BitVec.eq_of_toNat_eq
  have hn : n < 2 ^ 32 := Nat.lt_of_le_of_lt (Nat.le_mul_of_pos_right n (Nat.two_pow_pos k)) h
  rw [pk_shl _ _ k hs, pk_tn hn, pk_tn h, Nat.mod_eq_of_lt h]
theorem pk_shr (a s : Int32) (k : Nat) (hs : (s.toBitVec.smod 32).toNat = k) : (a >>> s).toInt = a.toInt >>> k := by
  show (a.toBitVec.sshiftRight (s.toBitVec.smod 32).toNat).toInt = _
  rw [hs, BitVec.toInt_sshiftRight]
  rfl
theorem pk_shrN {n : Nat} (h : n < 2 ^ 31) (s : Int32) (k : Nat) (hs : (s.toBitVec.smod 32).toNat = k) : nI n >>> s = nI (n / 2 ^ k) := by
  apply Int32.toInt_inj.mp
  have h2 : n / 2 ^ k ≤ n := Nat.div_le_self _ _
  rw [pk_shr _ _ k hs, nI_toInt h, nI_toInt (by omega), Int.shiftRight_eq_div_pow]
  rfl
theorem s_l : ∀ n, n < 32 → ((nI n &&& 31).toBitVec.smod 32).toNat = n := by decide +kernel
end
section
/-! ===== counting below n ===== -/
def gf_c (f : Nat → Bool) : Nat → Nat
  | 0 => 0
  | n + 1 => gf_c f n + (if f n = true then 1 else 0)
theorem gf_cs (f : Nat → Bool) (n : Nat) : gf_c f (n + 1) = gf_c f n + (if f n = true then 1 else 0) := rfl
theorem gf_ct {f : Nat → Bool} {n : Nat} (h : f n = true) : gf_c f (n + 1) = gf_c f n + 1 := by rw [gf_cs, if_pos h]
theorem gf_cf {f : Nat → Bool} {n : Nat} (h : ¬ f n = true) : gf_c f (n + 1) = gf_c f n := by rw [gf_cs, if_neg h, Nat.add_zero]
theorem gf_cle (f : Nat → Bool) : ∀ n, gf_c f n ≤ n := by
  intro n
  induction n with
  | zero => exact Nat.le_refl 0
  | succ n ih =>
    by_cases h : f n = true
    · rw [gf_ct h]; omega
    · rw [gf_cf h]; omega
theorem gf_ceq {f g : Nat → Bool} : ∀ n, (∀ p, p < n → f p = g p) → gf_c f n = gf_c g n := by
  intro n
  induction n with
  | zero => intro _; rfl
  | succ n ih =>
    intro h
    rw [gf_cs, gf_cs, ih (fun p hp => h p (by omega)), h n (by omega)]
theorem gf_cmono {f g : Nat → Bool} : ∀ n, (∀ p, p < n → f p = true → g p = true) → gf_c f n ≤ gf_c g n := by
  intro n
  induction n with
  | zero => intro _; exact Nat.le_refl 0
  | succ n ih =>
    intro h
    have h1 := ih (fun p hp => h p (by omega))
    by_cases a : f n = true
    · rw [gf_ct a, gf_ct (h n (by omega) a)]; omega
    · rw [gf_cf a]
      by_cases b : g n = true
      · rw [gf_ct b]; omega
      · rw [gf_cf b]; exact h1
theorem gf_cone {f g : Nat → Bool} {m : Nat} (hf : f m = true) (hg : g m = false) : ∀ n, (∀ p, p < n → p ≠ m → f p = g p) → m < n → gf_c f n = gf_c g n + 1 := by
  intro n
  induction n with
  | zero => intro _ h; omega
  | succ n ih =>
    intro h hm
    by_cases e : m = n
    · subst e
      have h1 : gf_c f m = gf_c g m := gf_ceq m (fun p hp => h p (by omega) (by omega))
      rw [gf_ct hf, gf_cf (by rw [hg]; decide), h1]
    · have h1 := ih (fun p hp => h p (by omega)) (by omega)
      have h2 := h n (by omega) (fun z => e z.symm)
      rw [gf_cs, gf_cs, h1, h2]
      omega
theorem gf_least (P : Nat → Prop) (h : ∃ k, P k) : ∃ k, P k ∧ ∀ j, j < k → ¬ P j := by
  obtain ⟨k, hk⟩ := h
  induction k using Nat.strongRecOn with
  | ind k ih =>
    by_cases e : ∃ j, j < k ∧ P j
    · obtain ⟨j, hj, pj⟩ := e
      exact ih j hj pj
    · exact ⟨k, hk, fun j hj pj => e ⟨j, hj, pj⟩⟩
/-! ===== labels of points; a merge gives b's label's bearers a's label ===== -/
def gf_m (G : Nat → Int32) (a b : Nat) : Nat → Int32 := fun p => if G p = G b then G a else G p
def gf_g (F T : Nat → Nat) (S : Nat → Bool) : Nat → Nat → Int32
  | 0 => fun p => nI p
  | k + 1 => if S k = true then gf_m (gf_g F T S k) (F k) (T k) else gf_g F T S k
def gf_z (F T : Nat → Nat) (S : Nat → Bool) (k : Nat) : Bool := S k && decide (gf_g F T S k (F k) = gf_g F T S k (T k))
def gf_r (G : Nat → Int32) (p : Nat) : Bool := decide (∀ q, q < p → G q ≠ G p)
theorem gf_gt {F T : Nat → Nat} {S : Nat → Bool} {k : Nat} (h : S k = true) : gf_g F T S (k + 1) = gf_m (gf_g F T S k) (F k) (T k) := if_pos h
theorem gf_gf {F T : Nat → Nat} {S : Nat → Bool} {k : Nat} (h : ¬ S k = true) : gf_g F T S (k + 1) = gf_g F T S k := if_neg h
theorem gf_key0 (x y s t : Int32) : ((if x = t then s else x) = (if y = t then s else y)) ↔ (x = y ∨ (x = s ∧ y = t) ∨ (x = t ∧ y = s)) := by
  by_cases h1 : x = t
  · by_cases h2 : y = t
    · rw [if_pos h1, if_pos h2]
      exact ⟨fun _ => Or.inl (h1.trans h2.symm), fun _ => rfl⟩
    · rw [if_pos h1, if_neg h2]
      constructor
      · intro e; exact Or.inr (Or.inr ⟨h1, e.symm⟩)
      · intro e
        rcases e with e | ⟨_, e⟩ | ⟨_, e⟩
        · exact absurd (e.symm.trans h1) h2
        · exact absurd e h2
        · exact e.symm
  · by_cases h2 : y = t
    · rw [if_neg h1, if_pos h2]
      constructor
      · intro e; exact Or.inr (Or.inl ⟨e, h2⟩)
      · intro e
        rcases e with e | ⟨e, _⟩ | ⟨e, _⟩
        · exact absurd (e.trans h2) h1
        · exact e
        · exact absurd e h1
    · rw [if_neg h1, if_neg h2]
      constructor
      · intro e; exact Or.inl e
      · intro e
        rcases e with e | ⟨_, e⟩ | ⟨e, _⟩
        · exact e
        · exact absurd e h2
        · exact absurd e h1
theorem gf_key (G : Nat → Int32) (a b q p : Nat) : gf_m G a b q = gf_m G a b p ↔ (G q = G p ∨ (G q = G a ∧ G p = G b) ∨ (G q = G b ∧ G p = G a)) := gf_key0 (G q) (G p) (G a) (G b)
theorem gf_mid {G : Nat → Int32} {a b : Nat} (h : G a = G b) : gf_m G a b = G := by
  funext p
  show (if G p = G b then G a else G p) = G p
  by_cases e : G p = G b
  · rw [if_pos e, h, e]
  · rw [if_neg e]
/-! a merge of two labels takes one part away -/
theorem gf_merge {G : Nat → Int32} {a b : Nat} (ha : a < 6) (hb : b < 6) (hab : ¬ G a = G b) : gf_c (gf_r G) 6 = gf_c (gf_r (gf_m G a b)) 6 + 1 := by
  obtain ⟨x, hx, mx⟩ := gf_least (fun p => G p = G a) ⟨a, rfl⟩
  obtain ⟨y, hy, my⟩ := gf_least (fun p => G p = G b) ⟨b, rfl⟩
  have xa : x ≤ a := Nat.le_of_not_lt (fun z => mx a z rfl)
  have yb : y ≤ b := Nat.le_of_not_lt (fun z => my b z rfl)
  have hxy : x ≠ y := by
    intro e
    rw [e] at hx
    exact hab (hx.symm.trans hy)
  have key := gf_key G a b
  have main : ∀ m, (m = x ∨ m = y) → x ≤ m → y ≤ m → gf_c (gf_r G) 6 = gf_c (gf_r (gf_m G a b)) 6 + 1 := by
    intro m hm xm ym
    have h1 : gf_r G m = true := by
      unfold gf_r
      rw [decide_eq_true_eq]
      intro q hq e
      rcases hm with hm | hm
      · rw [hm] at hq e
        exact mx q hq (e.trans hx)
      · rw [hm] at hq e
        exact my q hq (e.trans hy)
    have h2 : gf_r (gf_m G a b) m = false := by
      unfold gf_r
      rw [decide_eq_false_iff_not]
      intro h
      rcases hm with hm | hm
      · rw [hm] at h
        exact h y (by omega) ((key y x).mpr (Or.inr (Or.inr ⟨hy, hx⟩)))
      · rw [hm] at h
        exact h x (by omega) ((key x y).mpr (Or.inr (Or.inl ⟨hx, hy⟩)))
    have h3 : ∀ p, p < 6 → p ≠ m → gf_r G p = gf_r (gf_m G a b) p := by
      intro p hp hpm
      unfold gf_r
      apply decide_eq_decide.mpr
      constructor
      · intro h q hq e
        rcases (key q p).mp e with e | ⟨e1, e2⟩ | ⟨e1, e2⟩
        · exact h q hq e
        · have g1 : x ≤ q := Nat.le_of_not_lt (fun z => mx q z e1)
          have g2 : y ≤ p := Nat.le_of_not_lt (fun z => my p z e2)
          have g3 : ¬ y < p := fun z => h y z (hy.trans e2.symm)
          omega
        · have g1 : y ≤ q := Nat.le_of_not_lt (fun z => my q z e1)
          have g2 : x ≤ p := Nat.le_of_not_lt (fun z => mx p z e2)
          have g3 : ¬ x < p := fun z => h x z (hx.trans e2.symm)
          omega
      · intro h q hq e
        exact h q hq ((key q p).mpr (Or.inl e))
    exact gf_cone h1 h2 6 h3 (by omega)
  rcases Nat.lt_or_ge x y with h | h
  · exact main y (Or.inr rfl) (by omega) (by omega)
  · exact main x (Or.inl rfl) (by omega) (by omega)
theorem gf_six : gf_c (gf_r (fun p => nI p)) 6 = 6 := by decide +kernel
/-! lines laid = points joined + lines that close -/
theorem gf_rank (F T : Nat → Nat) (S : Nat → Bool) (hF : ∀ k, k < 10 → F k < 6) (hT : ∀ k, k < 10 → T k < 6) : ∀ k, k ≤ 10 → gf_c S k + gf_c (gf_r (gf_g F T S k)) 6 = 6 + gf_c (gf_z F T S) k := by
  intro k
  induction k with
  | zero => intro _; exact (Nat.zero_add _).trans gf_six
  | succ k ih =>
    intro hk
    have h := ih (by omega)
    by_cases s : S k = true
    · rw [gf_ct s, gf_gt s]
      by_cases e : gf_g F T S k (F k) = gf_g F T S k (T k)
      · rw [gf_mid e, gf_ct (f := gf_z F T S) (by unfold gf_z; rw [s, decide_eq_true e]; rfl)]
        omega
      · have h2 := gf_merge (hF k (by omega)) (hT k (by omega)) e
        rw [gf_cf (f := gf_z F T S) (by unfold gf_z; rw [decide_eq_false e, Bool.and_false]; decide)]
        omega
    · rw [gf_cf s, gf_gf s, gf_cf (f := gf_z F T S) (by unfold gf_z; rw [Bool.eq_false_iff.mpr s, Bool.false_and]; decide)]
      exact h
/-! the labels are the least that join the ends of every line laid -/
theorem gf_min {F T : Nat → Nat} {S : Nat → Bool} {H : Nat → Int32} (hF : ∀ k, k < 10 → F k < 6) (hT : ∀ k, k < 10 → T k < 6) : ∀ n, n ≤ 10 → (∀ k, k < n → S k = true → H (F k) = H (T k)) → ∀ p q, p < 6 → q < 6 → gf_g F T S n p = gf_g F T S n q → H p = H q := by
  intro n
  induction n with
  | zero =>
    intro _ _ p q hp hq e
    have e2 : nI p = nI q := e
    rw [nI_eq (by omega) (by omega)] at e2
    rw [e2]
  | succ n ih =>
    intro hn h p q hp hq e
    have ih1 := ih (by omega) (fun k hk => h k (by omega))
    by_cases s : S n = true
    · rw [gf_gt s] at e
      have hF1 := hF n (by omega)
      have hT1 := hT n (by omega)
      have hj := h n (by omega) s
      rcases (gf_key _ _ _ _ _).mp e with e | ⟨e1, e2⟩ | ⟨e1, e2⟩
      · exact ih1 p q hp hq e
      · exact (ih1 p _ hp hF1 e1).trans (hj.trans (ih1 q _ hq hT1 e2).symm)
      · exact (ih1 p _ hp hT1 e1).trans (hj.symm.trans (ih1 q _ hq hF1 e2).symm)
    · rw [gf_gf s] at e
      exact ih1 p q hp hq e
theorem gf_join {F T : Nat → Nat} {S : Nat → Bool} : ∀ n k, k < n → S k = true → gf_g F T S n (F k) = gf_g F T S n (T k) := by
  intro n
  induction n with
  | zero => intro k hk; omega
  | succ n ih =>
    intro k hk s
    by_cases e : k = n
    · rw [e] at s ⊢
      rw [gf_gt s]
      exact (gf_key _ _ _ _ _).mpr (Or.inr (Or.inl ⟨rfl, rfl⟩))
    · have h := ih k (by omega) s
      by_cases sn : S n = true
      · rw [gf_gt sn]
        exact (gf_key _ _ _ _ _).mpr (Or.inl h)
      · rw [gf_gf sn]
        exact h
/-! a set within another joins no more -/
theorem gf_sub {F T : Nat → Nat} {A B : Nat → Bool} (hF : ∀ k, k < 10 → F k < 6) (hT : ∀ k, k < 10 → T k < 6) (h : ∀ k, k < 10 → A k = true → B k = true) : gf_c A 10 + gf_c (gf_z F T B) 10 ≤ gf_c B 10 + gf_c (gf_z F T A) 10 := by
  have rA := gf_rank F T A hF hT 10 (by omega)
  have rB := gf_rank F T B hF hT 10 (by omega)
  have hm : gf_c (gf_r (gf_g F T B 10)) 6 ≤ gf_c (gf_r (gf_g F T A 10)) 6 := by
    apply gf_cmono 6
    intro p hp hr
    unfold gf_r at hr ⊢
    rw [decide_eq_true_eq] at hr ⊢
    intro q hq e
    exact hr q hq (gf_min hF hT 10 (by omega) (fun k hk s => gf_join 10 k hk (h k hk s)) q p (by omega) hp e)
  omega
/-! the lines that joined something close no ring and are as many as can be -/
def gf_k (F T : Nat → Nat) (B : Nat → Bool) (k : Nat) : Bool := B k && !(gf_z F T B k)
theorem gf_kg (F T : Nat → Nat) (B : Nat → Bool) : ∀ k, gf_g F T (gf_k F T B) k = gf_g F T B k := by
  intro k
  induction k with
  | zero => rfl
  | succ k ih =>
    by_cases s : B k = true
    · by_cases e : gf_g F T B k (F k) = gf_g F T B k (T k)
      · have hz : gf_z F T B k = true := by unfold gf_z; rw [s, decide_eq_true e]; rfl
        have hk : ¬ gf_k F T B k = true := by unfold gf_k; rw [hz, s]; decide
        rw [gf_gf hk, gf_gt s, gf_mid e, ih]
      · have hz : gf_z F T B k = false := by unfold gf_z; rw [decide_eq_false e, Bool.and_false]
        have hk : gf_k F T B k = true := by unfold gf_k; rw [hz, s]; rfl
        rw [gf_gt hk, gf_gt s, ih]
    · have hk : ¬ gf_k F T B k = true := by unfold gf_k; rw [Bool.eq_false_iff.mpr s, Bool.false_and]; decide
      rw [gf_gf hk, gf_gf s, ih]
theorem gf_kz (F T : Nat → Nat) (B : Nat → Bool) (k : Nat) : gf_z F T (gf_k F T B) k = false := by
  unfold gf_z
  rw [gf_kg]
  by_cases e : gf_g F T B k (F k) = gf_g F T B k (T k)
  · by_cases s : B k = true
    · have hz : gf_z F T B k = true := by unfold gf_z; rw [s, decide_eq_true e]; rfl
      have hk : gf_k F T B k = false := by unfold gf_k; rw [hz, s]; rfl
      rw [hk, Bool.false_and]
    · have hk : gf_k F T B k = false := by unfold gf_k; rw [Bool.eq_false_iff.mpr s, Bool.false_and]
      rw [hk, Bool.false_and]
  · rw [decide_eq_false e, Bool.and_false]
theorem gf_c0 {f : Nat → Bool} : ∀ n, gf_c f n = 0 ↔ ∀ k, k < n → f k = false := by
  intro n
  induction n with
  | zero => exact ⟨fun _ k hk => absurd hk (by omega), fun _ => rfl⟩
  | succ n ih =>
    constructor
    · intro h k hk
      by_cases a : f n = true
      · rw [gf_ct a] at h; omega
      · rw [gf_cf a] at h
        by_cases e : k = n
        · rw [e]; exact Bool.eq_false_iff.mpr a
        · exact ih.mp h k (by omega)
    · intro h
      have a := h n (by omega)
      rw [gf_cf (by rw [a]; decide)]
      exact ih.mpr (fun k hk => h k (by omega))
theorem gf_kc (F T : Nat → Nat) (B : Nat → Bool) (hF : ∀ k, k < 10 → F k < 6) (hT : ∀ k, k < 10 → T k < 6) : gf_c (gf_k F T B) 10 + gf_c (gf_z F T B) 10 = gf_c B 10 := by
  have rA := gf_rank F T (gf_k F T B) hF hT 10 (by omega)
  have rB := gf_rank F T B hF hT 10 (by omega)
  have hz : gf_c (gf_z F T (gf_k F T B)) 10 = 0 := (gf_c0 10).mpr (fun k _ => gf_kz F T B k)
  rw [gf_kg] at rA
  omega
theorem gf_kb (F T : Nat → Nat) (B : Nat → Bool) (k : Nat) (h : gf_k F T B k = true) : B k = true := by
  unfold gf_k at h
  rw [Bool.and_eq_true] at h
  exact h.1
/-! labels depend on the lines below alone -/
theorem gf_gc {F T : Nat → Nat} {A B : Nat → Bool} : ∀ n, (∀ k, k < n → A k = B k) → gf_g F T A n = gf_g F T B n := by
  intro n
  induction n with
  | zero => intro _; rfl
  | succ n ih =>
    intro h
    have h1 := ih (fun k hk => h k (by omega))
    have h2 := h n (by omega)
    show (if A n = true then gf_m (gf_g F T A n) (F n) (T n) else gf_g F T A n) = (if B n = true then gf_m (gf_g F T B n) (F n) (T n) else gf_g F T B n)
    rw [h1, h2]
theorem gf_zc {F T : Nat → Nat} {A B : Nat → Bool} (n : Nat) (h : ∀ k, k < n → A k = B k) : gf_c (gf_z F T A) n = gf_c (gf_z F T B) n := by
  apply gf_ceq
  intro p hp
  unfold gf_z
  rw [gf_gc p (fun k hk => h k (by omega)), h p hp]
end
section
/-! ===== sets of lines as numbers below 1024 ===== -/
theorem gb_or (a b : Nat) : nI a ||| nI b = nI (a ||| b) := by
  apply Int32.toBitVec_inj.1
  show BitVec.ofNat 32 a ||| BitVec.ofNat 32 b = BitVec.ofNat 32 (a ||| b)
  apply BitVec.eq_of_getLsbD_eq
  intro i hi
  simp [hi]
theorem gb_and (a b : Nat) : nI a &&& nI b = nI (a &&& b) := by
  apply Int32.toBitVec_inj.1
  show BitVec.ofNat 32 a &&& BitVec.ofNat 32 b = BitVec.ofNat 32 (a &&& b)
  apply BitVec.eq_of_getLsbD_eq
  intro i hi
  simp [hi]
theorem gb_xor (a b : Nat) : nI a ^^^ nI b = nI (a ^^^ b) := by
  apply Int32.toBitVec_inj.1
  show BitVec.ofNat 32 a ^^^ BitVec.ofNat 32 b = BitVec.ofNat 32 (a ^^^ b)
  apply BitVec.eq_of_getLsbD_eq
  intro i hi
  simp [hi]
theorem gb_no (a b : Nat) : nI a &&& (nI b ^^^ (-1)) = nI (a ^^^ (a &&& b)) := by
  apply Int32.toBitVec_inj.1
  have e : (-1 : Int32).toBitVec = BitVec.allOnes 32 := by decide
  show BitVec.ofNat 32 a &&& (BitVec.ofNat 32 b ^^^ (-1 : Int32).toBitVec) = BitVec.ofNat 32 (a ^^^ (a &&& b))
  rw [e]
  apply BitVec.eq_of_getLsbD_eq
  intro i hi
  rw [BitVec.getLsbD_and, BitVec.getLsbD_xor, BitVec.getLsbD_allOnes, BitVec.getLsbD_ofNat, BitVec.getLsbD_ofNat, BitVec.getLsbD_ofNat, Nat.testBit_xor, Nat.testBit_and, decide_eq_true hi]
  cases a.testBit i <;> cases b.testBit i <;> rfl
theorem gb_bit {s k : Nat} (hs : s < 1024) (hk : k < 10) : (nI s >>> (nI k &&& 31)) &&& 1 = nI (if s.testBit k = true then 1 else 0) := by
  have e : s.testBit k = decide (s / 2 ^ k % 2 = 1) := Nat.testBit_eq_decide_div_mod_eq
  have hd : s / 2 ^ k ≤ s := Nat.div_le_self _ _
  rw [pk_shrN (by omega) _ k (s_l k (by omega)), pk_andN (m := 1) (by omega) 1 (by decide), e]
  generalize s / 2 ^ k = z
  by_cases h : z % 2 = 1
  · rw [if_pos (decide_eq_true h)]
    show nI (z % 2) = _
    rw [h]
  · rw [if_neg (by rw [decide_eq_true_eq]; exact h)]
    show nI (z % 2) = _
    rw [show z % 2 = 0 by omega]
theorem gb_b1 {s k : Nat} (hs : s < 1024) (hk : k < 10) : (nI s >>> (nI k &&& 31)) &&& 1 = 1 ↔ s.testBit k = true := by
  rw [gb_bit hs hk]
  by_cases h : s.testBit k = true
  · rw [if_pos h]
    exact ⟨fun _ => h, fun _ => rfl⟩
  · rw [if_neg h]
    exact ⟨fun z => absurd z (by decide), fun z => absurd z h⟩
theorem gb_sh : ∀ k, k < 10 → (1 : Int32) <<< (nI k &&& 31) = nI (2 ^ k) := by decide +kernel
theorem gb_p2 : ∀ k, k < 10 → 2 ^ k < 1024 := by decide +kernel
theorem gb_big {a i : Nat} (ha : a < 1024) (hi : 10 ≤ i) : a.testBit i = false := by
  apply Nat.testBit_lt_two_pow
  exact Nat.lt_of_lt_of_le (show a < 2 ^ 10 from ha) (Nat.pow_le_pow_right (by decide) hi)
theorem gb_ext {a b : Nat} (ha : a < 1024) (hb : b < 1024) (h : ∀ k, k < 10 → a.testBit k = b.testBit k) : a = b := by
  apply Nat.eq_of_testBit_eq
  intro i
  rcases Nat.lt_or_ge i 10 with hi | hi
  · exact h i hi
  · rw [gb_big ha hi, gb_big hb hi]
theorem gb_landlt (a : Nat) {b : Nat} (hb : b < 1024) : a &&& b < 1024 := Nat.and_lt_two_pow a (n := 10) hb
theorem gb_lorlt {a b : Nat} (ha : a < 1024) (hb : b < 1024) : a ||| b < 1024 := Nat.or_lt_two_pow (n := 10) ha hb
theorem gb_lxorlt {a b : Nat} (ha : a < 1024) (hb : b < 1024) : a ^^^ b < 1024 := Nat.xor_lt_two_pow (n := 10) ha hb
theorem gb_sub {s d : Nat} (hs : s < 1024) : s &&& d = s ↔ ∀ k, k < 10 → s.testBit k = true → d.testBit k = true := by
  constructor
  · intro e k hk h
    rw [← e, Nat.testBit_and, Bool.and_eq_true] at h
    exact h.2
  · intro h
    apply Nat.eq_of_testBit_eq
    intro i
    rw [Nat.testBit_and]
    rcases Nat.lt_or_ge i 10 with hi | hi
    · cases e : s.testBit i
      · rfl
      · rw [h i hi e]; rfl
    · rw [gb_big hs hi]; rfl
theorem gb_x0 {a b : Nat} : a ^^^ (a &&& b) = 0 ↔ a &&& b = a := by
  constructor
  · intro e
    apply Nat.eq_of_testBit_eq
    intro i
    have h : (a ^^^ (a &&& b)).testBit i = false := by rw [e]; exact Nat.zero_testBit i
    rw [Nat.testBit_xor, Nat.testBit_and] at h
    rw [Nat.testBit_and]
    revert h
    cases a.testBit i <;> cases b.testBit i <;> decide
  · intro e
    rw [e, Nat.xor_self]
theorem gb_mk (A : Nat → Bool) : ∀ n, ∃ s, s < 2 ^ n ∧ ∀ k, k < n → s.testBit k = A k := by
  intro n
  induction n with
  | zero => exact ⟨0, by decide, fun k hk => absurd hk (by omega)⟩
  | succ n ih =>
    obtain ⟨s, hs, h⟩ := ih
    have h2 : s < 2 ^ (n + 1) := Nat.lt_of_lt_of_le hs (Nat.pow_le_pow_right (by decide) (by omega))
    by_cases a : A n = true
    · refine ⟨s ||| 2 ^ n, Nat.or_lt_two_pow h2 (Nat.pow_lt_pow_right (by decide) (by omega)), ?_⟩
      intro k hk
      rw [Nat.testBit_or, Nat.testBit_two_pow]
      by_cases e : k = n
      · rw [e, a, decide_eq_true (rfl : n = n), Bool.or_true]
      · rw [h k (by omega), decide_eq_false (fun z => e z.symm), Bool.or_false]
    · refine ⟨s, h2, ?_⟩
      intro k hk
      by_cases e : k = n
      · rw [e, Nat.testBit_lt_two_pow hs, Bool.eq_false_iff.mpr a]
      · exact h k (by omega)
/-! set bit, clear bit -/
theorem gb_set {d k i : Nat} : (d ||| 2 ^ k).testBit i = (d.testBit i || decide (k = i)) := by
  rw [Nat.testBit_or, Nat.testBit_two_pow]
theorem gb_clr {d k i : Nat} : (d ^^^ (d &&& 2 ^ k)).testBit i = (d.testBit i && !(decide (k = i))) := by
  rw [Nat.testBit_xor, Nat.testBit_and, Nat.testBit_two_pow]
  cases d.testBit i <;> cases decide (k = i) <;> rfl
/-! ===== what a tree is, for both sides ===== -/
def gt_b (b : Bool) : Int32 := if b = true then 1 else 0
theorem gt_bt : gt_b true = 1 := rfl
theorem gt_bf : gt_b false = 0 := rfl
/-- all lines of s are there and close no ring -/
def gt_q (d : Nat) (F T : Nat → Nat) (s : Nat) : Bool := decide (s &&& d = s) && decide (gf_c (gf_z F T s.testBit) 10 = 0)
def gt_t (n d : Nat) (F T : Nat → Nat) (s : Nat) : Bool := decide (gf_c s.testBit 10 = n - 1) && gt_q d F T s
/-- what a line must be for Y's look -/
def gt_ok (d : Nat) (F T : Nat → Nat) (s k : Nat) : Prop := s.testBit k = true → d.testBit k = true ∧ ¬ gf_g F T s.testBit k (F k) = gf_g F T s.testBit k (T k)
theorem gt_qt {d : Nat} {F T : Nat → Nat} {s : Nat} (hs : s < 1024) : gt_q d F T s = true ↔ ∀ k, k < 10 → gt_ok d F T s k := by
  unfold gt_q gt_ok
  rw [Bool.and_eq_true, decide_eq_true_eq, decide_eq_true_eq, gb_sub hs, gf_c0]
  constructor
  · intro h k hk hb
    refine ⟨h.1 k hk hb, fun e => ?_⟩
    have h2 := h.2 k hk
    unfold gf_z at h2
    rw [hb, decide_eq_true e] at h2
    exact absurd h2 (by decide)
  · intro h
    refine ⟨fun k hk hb => (h k hk hb).1, fun k hk => ?_⟩
    unfold gf_z
    cases hb : s.testBit k
    · rfl
    · rw [decide_eq_false (h k hk hb).2]; rfl
theorem gt_qf {d : Nat} {F T : Nat → Nat} {s k : Nat} (hs : s < 1024) (hk : k < 10) (h : ¬ gt_ok d F T s k) : gt_q d F T s = false := by
  apply Bool.eq_false_iff.mpr
  intro e
  exact h ((gt_qt hs).mp e k hk)
/-! ===== the surplus: Y's least is X's closing lines ===== -/
/-- a kept set takes away at least the closing lines -/
theorem gt_ge {d : Nat} {F T : Nat → Nat} {B s : Nat} (hF : ∀ k, k < 10 → F k < 6) (hT : ∀ k, k < 10 → T k < 6) (hs : s < 1024) (h1 : s &&& B = s) (h2 : gt_q d F T s = true) : gf_c s.testBit 10 ≤ gf_c B.testBit 10 ∧ gf_c (gf_z F T B.testBit) 10 ≤ gf_c B.testBit 10 - gf_c s.testBit 10 := by
  have h3 := (gb_sub hs).mp h1
  have h4 := gf_sub (A := s.testBit) (B := B.testBit) hF hT h3
  have h5 : gf_c (gf_z F T s.testBit) 10 = 0 := by
    unfold gt_q at h2
    rw [Bool.and_eq_true, decide_eq_true_eq, decide_eq_true_eq] at h2
    exact h2.2
  have h6 := gf_cmono 10 h3
  omega
/-- and one takes away just these -/
theorem gt_ex {d : Nat} {F T : Nat → Nat} {B : Nat} (hF : ∀ k, k < 10 → F k < 6) (hT : ∀ k, k < 10 → T k < 6) (hB : B &&& d = B) (hB2 : B < 1024) : ∃ s, s < 1024 ∧ s &&& B = s ∧ gt_q d F T s = true ∧ gf_c B.testBit 10 - gf_c s.testBit 10 = gf_c (gf_z F T B.testBit) 10 := by
  obtain ⟨s, hs, h⟩ := gb_mk (gf_k F T B.testBit) 10
  have hs2 : s < 1024 := hs
  have h1 : s &&& B = s := by
    rw [gb_sub hs2]
    intro k hk e
    rw [h k hk] at e
    exact gf_kb F T B.testBit k e
  have h2 : gf_c s.testBit 10 = gf_c (gf_k F T B.testBit) 10 := gf_ceq 10 h
  have h3 : gf_c (gf_z F T s.testBit) 10 = 0 := by
    rw [gf_zc 10 h]
    exact (gf_c0 10).mpr (fun k _ => gf_kz F T B.testBit k)
  have h4 := gf_kc F T B.testBit hF hT
  have h5 : s &&& d = s := by
    rw [gb_sub hs2]
    intro k hk e
    exact (gb_sub hB2).mp hB k hk ((gb_sub hs2).mp h1 k hk e)
  refine ⟨s, hs2, h1, ?_, by omega⟩
  unfold gt_q
  rw [h5, h3]
  simp
/-! the search for the rank-th tree -/
def gt_f (t : Nat → Bool) (r : Int32) : Nat → Nat → Nat → Int32
  | 0, _, _ => -1
  | j + 1, s, c => if t s = true then (if nI c = r then nI s else gt_f t r j (s + 1) (c + 1)) else gt_f t r j (s + 1) c
/-- the trees that have all of nd -/
def gt_h (n d : Nat) (F T : Nat → Nat) (nd s : Nat) : Bool := decide (s &&& nd = nd) && gt_t n d F T s
theorem gt_ff {t : Nat → Bool} {r : Int32} {j s c : Nat} (h : t s = false) : gt_f t r (j + 1) s c = gt_f t r j (s + 1) c := by
  show (if t s = true then (if nI c = r then nI s else gt_f t r j (s + 1) (c + 1)) else gt_f t r j (s + 1) c) = _
  rw [if_neg (by rw [h]; decide)]
theorem gt_fh {t : Nat → Bool} {r : Int32} {j s c : Nat} (h : t s = true) (e : nI c = r) : gt_f t r (j + 1) s c = nI s := by
  show (if t s = true then (if nI c = r then nI s else gt_f t r j (s + 1) (c + 1)) else gt_f t r j (s + 1) c) = _
  rw [if_pos h, if_pos e]
theorem gt_fn {t : Nat → Bool} {r : Int32} {j s c : Nat} (h : t s = true) (e : ¬ nI c = r) : gt_f t r (j + 1) s c = gt_f t r j (s + 1) (c + 1) := by
  show (if t s = true then (if nI c = r then nI s else gt_f t r j (s + 1) (c + 1)) else gt_f t r j (s + 1) c) = _
  rw [if_pos h, if_neg e]
end
section
/-! ===== the scratch array against the labels ===== -/
def gw_ab (g G : Nat → Int32) : Prop := ∀ p, p < 6 → g p = G p
/-- the points below i set apart -/
def gw_sp (g : Nat → Int32) (i : Nat) : Nat → Int32 := fun p => if p < i then nI p else g p
/-- the points below i relabelled -/
def gw_mg (g : Nat → Int32) (kp gn : Int32) (i : Nat) : Nat → Int32 := fun p => if p < i ∧ g p = gn then kp else g p
theorem gw_sp0 (g : Nat → Int32) : gw_sp g 0 = g := by
  funext p
  exact if_neg (Nat.not_lt_zero p)
theorem gw_sps (g : Nat → Int32) (i : Nat) : upd (gw_sp g i) i (nI i) = gw_sp g (i + 1) := by
  funext p
  show (if p = i then nI i else if p < i then nI p else g p) = (if p < i + 1 then nI p else g p)
  by_cases e : p = i
  · rw [if_pos e, if_pos (by omega), e]
  · rw [if_neg e]
    by_cases h : p < i
    · rw [if_pos h, if_pos (by omega)]
    · rw [if_neg h, if_neg (by omega)]
theorem gw_spa (g : Nat → Int32) : gw_ab (gw_sp g 6) (fun p => nI p) := fun p hp => if_pos hp
theorem gw_mg0 (g : Nat → Int32) (kp gn : Int32) : gw_mg g kp gn 0 = g := by
  funext p
  exact if_neg (fun z => Nat.not_lt_zero p z.1)
theorem gw_mgi (g : Nat → Int32) (kp gn : Int32) (i : Nat) : gw_mg g kp gn i i = g i := if_neg (fun z => Nat.lt_irrefl i z.1)
theorem gw_mgt {g : Nat → Int32} {kp gn : Int32} {i : Nat} (h : g i = gn) : upd (gw_mg g kp gn i) i kp = gw_mg g kp gn (i + 1) := by
  funext p
  show (if p = i then kp else if p < i ∧ g p = gn then kp else g p) = (if p < i + 1 ∧ g p = gn then kp else g p)
  by_cases e : p = i
  · rw [if_pos e, if_pos ⟨by omega, by rw [e]; exact h⟩]
  · rw [if_neg e]
    by_cases h2 : p < i ∧ g p = gn
    · rw [if_pos h2, if_pos ⟨by omega, h2.2⟩]
    · rw [if_neg h2, if_neg (fun z => h2 ⟨by omega, z.2⟩)]
theorem gw_mgf {g : Nat → Int32} {kp gn : Int32} {i : Nat} (h : ¬ g i = gn) : gw_mg g kp gn i = gw_mg g kp gn (i + 1) := by
  funext p
  show (if p < i ∧ g p = gn then kp else g p) = (if p < i + 1 ∧ g p = gn then kp else g p)
  by_cases e : p = i
  · rw [if_neg (fun z => absurd z.1 (by omega)), if_neg (fun z => h (by rw [← e]; exact z.2))]
  · by_cases h2 : p < i ∧ g p = gn
    · rw [if_pos h2, if_pos ⟨by omega, h2.2⟩]
    · rw [if_neg h2, if_neg (fun z => h2 ⟨by omega, z.2⟩)]
theorem gw_mga {g G : Nat → Int32} {a b : Nat} (h : gw_ab g G) (ha : a < 6) (hb : b < 6) : gw_ab (gw_mg g (g a) (g b) 6) (gf_m G a b) := by
  intro p hp
  show (if p < 6 ∧ g p = g b then g a else g p) = (if G p = G b then G a else G p)
  rw [h p hp, h a ha, h b hb]
  by_cases e : G p = G b
  · rw [if_pos ⟨hp, e⟩, if_pos e]
  · rw [if_neg (fun z => e z.2), if_neg e]
/-! ===== numbers of the walks ===== -/
theorem gn_10 : ∀ i, i < 10 → ¬ (10 : Int32) ≤ nI i := by decide +kernel
theorem gn_10e : (10 : Int32) ≤ nI 10 := by decide +kernel
theorem gn_6 : ∀ i, i < 6 → ¬ (6 : Int32) ≤ nI i := by decide +kernel
theorem gn_6e : (6 : Int32) ≤ nI 6 := by decide +kernel
theorem gn_k {s : Nat} (h : s < 1024) : ¬ (1024 : Int32) ≤ nI s := nI_ge (b := 1024) h (by decide)
theorem gn_ke : (1024 : Int32) ≤ nI 1024 := by decide +kernel
theorem gn_L {s L : Nat} (h : s < L) (hL : L ≤ 1024) : ¬ nI L ≤ nI s := nI_ge h (by omega)
theorem gn_Le (L : Nat) : nI L ≤ nI L := Int32.le_refl _
theorem gn_cl {k : Nat} (h : k < 1025) : (nI k).toNatClampNeg = k := nI_clamp (by omega)
theorem gn_cnt {s i : Nat} (hs : s < 1024) (hi : i < 10) : nI (gf_c s.testBit i) + ((nI s >>> (nI i &&& 31)) &&& 1) = nI (gf_c s.testBit (i + 1)) := by
  rw [gb_bit hs hi, nI_add, gf_cs]
/-! the ends of the lines -/
def gw_in (A : Nat → Int32) : Prop := ∀ k, k < 10 → vp_in (A k) 6
def gw_n (A : Nat → Int32) (k : Nat) : Nat := (A k).toNatClampNeg
theorem gw_nl {A : Nat → Int32} (h : gw_in A) : ∀ k, k < 10 → gw_n A k < 6 := by
  intro k hk
  obtain ⟨j, hj, e⟩ := vp_in_of (h k hk) (by omega)
  show (A k).toNatClampNeg < 6
  rw [e, nI_clamp (by omega)]
  exact hj
theorem gw_inu {A : Nat → Int32} (h : gw_in A) {k j : Nat} (hj : j < 6) : gw_in (upd A k (nI j)) := by
  intro p hp
  by_cases e : p = k
  · rw [e, pk_us]; exact vp_in_nI hj (by omega)
  · rw [pk_un e]; exact h p hp
end
section
/-! ===== the walks of the component, each with a general post ===== -/
theorem xs_siz {post : Int32 → Prop} {s : Nat} (hs : s < 1024) (h : post (nI (gf_c s.testBit 10))) : wpX_size post (nI s) := by
  have L : ∀ j i, i + j = 10 → wX_size_4 post (nI s) (j + 1) (nI (gf_c s.testBit i)) (nI i) := by
    intro j
    induction j with
    | zero =>
      intro i hi
      have e : i = 10 := by omega
      subst e
      exact br_t gn_10e h
    | succ j ih =>
      intro i hi
      exact br_f (gn_10 i (by omega)) (nm_r (gn_cnt hs (by omega)) (nm_r (nI_1 i) (ih (i + 1) (by omega))))
  exact ⟨11, L 10 0 rfl⟩
theorem xs_sep {post : SX → Prop} {P D M : Int32} {A B g : Nat → Int32} (h : post (P, D, M, A, B, gw_sp g 6)) : wpX_separatePoints post (P, D, M, A, B, g) := by
  have L : ∀ j i, i + j = 6 → wX_separatePoints_2 post P D M (j + 1) (nI i) A B (gw_sp g i) := by
    intro j
    induction j with
    | zero =>
      intro i hi
      have e : i = 6 := by omega
      subst e
      exact br_t gn_6e h
    | succ j ih =>
      intro i hi
      exact br_f (gn_6 i (by omega)) ⟨vp_in_nI (by omega) (by omega), nm_r (by rw [gn_cl (by omega)]; exact gw_sps g i) (nm_r (nI_1 i) (ih (i + 1) (by omega)))⟩
  have L0 := L 6 0 rfl
  rw [gw_sp0] at L0
  exact ⟨7, L0⟩
theorem xs_mer {post : SX → Prop} {P D M : Int32} {A B g : Nat → Int32} {kp gn : Int32} (h : post (P, D, M, A, B, gw_mg g kp gn 6)) : wpX_mergeGroups post (P, D, M, A, B, g) kp gn := by
  have L : ∀ j i, i + j = 6 → wX_mergeGroups_2 post kp gn P D M (j + 1) (nI i) A B (gw_mg g kp gn i) := by
    intro j
    induction j with
    | zero =>
      intro i hi
      have e : i = 6 := by omega
      subst e
      exact br_t gn_6e h
    | succ j ih =>
      intro i hi
      have hv : vp_in (nI i) 6 := vp_in_nI (by omega) (by omega)
      have hc : (nI i).toNatClampNeg = i := gn_cl (by omega)
      have hg : gw_mg g kp gn i (nI i).toNatClampNeg = g i := by rw [hc]; exact gw_mgi g kp gn i
      by_cases e : g i = gn
      · exact br_f (gn_6 i (by omega)) ⟨hv, br_t (hg.trans e) ⟨hv, nm_r (by rw [hc]; exact gw_mgt e) (nm_r (nI_1 i) (ih (i + 1) (by omega)))⟩⟩
      · refine br_f (gn_6 i (by omega)) ⟨hv, br_f (fun z => e (hg.symm.trans z)) (nm_r (nI_1 i) ?_)⟩
        rw [gw_mgf e]
        exact ih (i + 1) (by omega)
  have L0 := L 6 0 rfl
  rw [gw_mg0] at L0
  exact ⟨7, L0⟩
theorem xs_clo {post : Int32 → SX → Prop} {P D M : Int32} {A B g : Nat → Int32} {s : Nat} (hs : s < 1024) (hA : gw_in A) (hB : gw_in B) (h : ∀ g', post (nI (gf_c (gf_z (gw_n A) (gw_n B) s.testBit) 10)) (P, D, M, A, B, g')) : wpX_closingLines post (P, D, M, A, B, g) (nI s) := by
  have L : ∀ j i g, i + j = 10 → gw_ab g (gf_g (gw_n A) (gw_n B) s.testBit i) → wX_closingLines_8 post (nI s) (j + 1) (nI (gf_c (gf_z (gw_n A) (gw_n B) s.testBit) i)) (nI i) P D M A B g := by
    intro j
    induction j with
    | zero =>
      intro i g hi hg
      have e : i = 10 := by omega
      subst e
      exact br_t gn_10e (h g)
    | succ j ih =>
      intro i g hi hg
      have i10 : i < 10 := by omega
      have hc : (nI i).toNatClampNeg = i := gn_cl (by omega)
      have hv : vp_in (nI i) 10 := vp_in_nI i10 (by omega)
      refine br_f (gn_10 i i10) ?_
      by_cases b : s.testBit i = true
      · refine br_t ((gb_b1 hs i10).mpr b) ?_
        have hva : vp_in (A (nI i).toNatClampNeg) 6 := by rw [hc]; exact hA i i10
        have hvb : vp_in (B (nI i).toNatClampNeg) 6 := by rw [hc]; exact hB i i10
        have na := gw_nl hA i i10
        have nb := gw_nl hB i i10
        refine ⟨hv, hva, nm_r (e' := g (gw_n A i)) (by rw [hc]; rfl) ⟨hv, hvb, nm_r (e' := g (gw_n B i)) (by rw [hc]; rfl) ?_⟩⟩
        by_cases e : g (gw_n A i) = g (gw_n B i)
        · have e2 : gf_g (gw_n A) (gw_n B) s.testBit i (gw_n A i) = gf_g (gw_n A) (gw_n B) s.testBit i (gw_n B i) := (hg _ na).symm.trans (e.trans (hg _ nb))
          have hz : gf_z (gw_n A) (gw_n B) s.testBit i = true := by unfold gf_z; rw [b, decide_eq_true e2]; rfl
          refine br_t e (nm_r (by rw [nI_1, ← gf_ct hz]) (nm_r (nI_1 i) (ih (i + 1) g (by omega) ?_)))
          rw [gf_gt b, gf_mid e2]
          exact hg
        · have e2 : ¬ gf_g (gw_n A) (gw_n B) s.testBit i (gw_n A i) = gf_g (gw_n A) (gw_n B) s.testBit i (gw_n B i) := fun z => e ((hg _ na).trans (z.trans (hg _ nb).symm))
          have hz : ¬ gf_z (gw_n A) (gw_n B) s.testBit i = true := by unfold gf_z; rw [decide_eq_false e2, Bool.and_false]; decide
          refine br_f e (xs_mer (nm_r (nI_1 i) ?_))
          rw [← gf_cf hz]
          refine ih (i + 1) _ (by omega) ?_
          rw [gf_gt b]
          exact gw_mga hg na nb
      · have hz : ¬ gf_z (gw_n A) (gw_n B) s.testBit i = true := by unfold gf_z; rw [Bool.eq_false_iff.mpr b, Bool.false_and]; decide
        refine br_f (fun z => b ((gb_b1 hs i10).mp z)) (nm_r (nI_1 i) ?_)
        rw [← gf_cf hz]
        refine ih (i + 1) g (by omega) ?_
        rw [gf_gf b]
        exact hg
  exact xs_sep ⟨11, L 10 0 _ rfl (gw_spa g)⟩
theorem xs_tre {post : Int32 → SX → Prop} {n d : Nat} {M : Int32} {A B g : Nat → Int32} {s : Nat} (hs : s < 1024) (hn : 1 ≤ n) (hn6 : n ≤ 6) (hd : d < 1024) (hA : gw_in A) (hB : gw_in B) (h : ∀ g', post (gt_b (gt_t n d (gw_n A) (gw_n B) s)) (nI n, nI d, M, A, B, g')) : wpX_isTree post (nI n, nI d, M, A, B, g) (nI s) := by
  have hl : s &&& d < 1024 := gb_landlt s hd
  have hc10 := gf_cle s.testBit 10
  have hz10 := gf_cle (gf_z (gw_n A) (gw_n B) s.testBit) 10
  have e1 : nI n - 1 = nI (n - 1) := pk_sub (a := n) (b := 1) hn
  have hp : ∀ b g', gt_t n d (gw_n A) (gw_n B) s = b → post (gt_b b) (nI n, nI d, M, A, B, g') := fun b g' e => e ▸ h g'
  unfold wpX_isTree
  refine br_c (fun c1 => xs_siz hs (br_c (fun c2 => xs_clo hs hA hB (fun g' => br_c (fun c3 => ?_) (fun c3 => ?_))) (fun c2 => ?_))) (fun c1 => ?_)
  · rw [gb_and, nI_eq (by omega) (by omega)] at c1
    rw [e1, nI_eq (by omega) (by omega)] at c2
    rw [← nI_0, nI_eq (by omega) (by omega)] at c3
    exact hp true g' (by unfold gt_t gt_q; rw [decide_eq_true c1, decide_eq_true c2, decide_eq_true c3]; rfl)
  · rw [← nI_0, nI_eq (by omega) (by omega)] at c3
    exact hp false g' (by unfold gt_t gt_q; rw [decide_eq_false c3, Bool.and_false, Bool.and_false])
  · rw [e1, nI_eq (by omega) (by omega)] at c2
    exact hp false g (by unfold gt_t; rw [decide_eq_false c2, Bool.false_and])
  · rw [gb_and, nI_eq (by omega) (by omega)] at c1
    exact hp false g (by unfold gt_t gt_q; rw [decide_eq_false c1, Bool.false_and, Bool.and_false])
theorem xs_cnt {post : Int32 → SX → Prop} {n d : Nat} {M : Int32} {A B g : Nat → Int32} {nd L : Nat} (hL : L ≤ 1024) (hnd : nd < 1024) (hn : 1 ≤ n) (hn6 : n ≤ 6) (hd : d < 1024) (hA : gw_in A) (hB : gw_in B) (h : ∀ g', post (nI (gf_c (gt_h n d (gw_n A) (gw_n B) nd) L)) (nI n, nI d, M, A, B, g')) : wpX_countTrees post (nI n, nI d, M, A, B, g) (nI nd) (nI L) := by
  have K : ∀ j i g, i + j = L → wX_countTrees_5 post (nI nd) (nI L) (j + 1) (nI (gf_c (gt_h n d (gw_n A) (gw_n B) nd) i)) (nI i) (nI n) (nI d) M A B g := by
    intro j
    induction j with
    | zero =>
      intro i g hi
      have e : i = L := by omega
      subst e
      exact br_t (gn_Le _) (h g)
    | succ j ih =>
      intro i g hi
      have hl : i &&& nd < 1024 := gb_landlt i hnd
      refine br_f (gn_L (by omega) hL) (br_c (fun c => ?_) (fun c => ?_))
      · rw [gb_and, nI_eq (by omega) (by omega)] at c
        refine xs_tre (by omega) hn hn6 hd hA hB (fun g' => ?_)
        cases t : gt_t n d (gw_n A) (gw_n B) i
        · have hz : ¬ gt_h n d (gw_n A) (gw_n B) nd i = true := by unfold gt_h; rw [t, Bool.and_false]; decide
          refine br_t gt_bf (nm_r (nI_1 i) ?_)
          rw [← gf_cf hz]
          exact ih (i + 1) g' (by omega)
        · have hz : gt_h n d (gw_n A) (gw_n B) nd i = true := by unfold gt_h; rw [t, decide_eq_true c]; rfl
          exact br_f (by decide) (nm_r (by rw [nI_1, ← gf_ct hz]) (nm_r (nI_1 i) (ih (i + 1) g' (by omega))))
      · rw [gb_and, nI_eq (by omega) (by omega)] at c
        have hz : ¬ gt_h n d (gw_n A) (gw_n B) nd i = true := by unfold gt_h; rw [decide_eq_false c, Bool.false_and]; decide
        refine nm_r (nI_1 i) ?_
        rw [← gf_cf hz]
        exact ih (i + 1) g (by omega)
  exact ⟨L + 1, K L 0 g (by omega)⟩
theorem xs_fnd {post : Int32 → SX → Prop} {n d : Nat} {M : Int32} {A B g : Nat → Int32} {r : Int32} (hn : 1 ≤ n) (hn6 : n ≤ 6) (hd : d < 1024) (hA : gw_in A) (hB : gw_in B) (h : ∀ g', post (gt_f (gt_t n d (gw_n A) (gw_n B)) r 1024 0 0) (nI n, nI d, M, A, B, g')) : wpX_tree post (nI n, nI d, M, A, B, g) r := by
  have K : ∀ j i c g, i + j = 1024 → (∀ g', post (gt_f (gt_t n d (gw_n A) (gw_n B)) r j i c) (nI n, nI d, M, A, B, g')) → wX_tree_4 post r (j + 1) (nI c) (nI i) (nI n) (nI d) M A B g := by
    intro j
    induction j with
    | zero =>
      intro i c g hi hp
      have e : i = 1024 := by omega
      subst e
      exact br_t gn_ke (hp g)
    | succ j ih =>
      intro i c g hi hp
      refine br_f (gn_k (by omega)) (xs_tre (by omega) hn hn6 hd hA hB (fun g' => ?_))
      cases t : gt_t n d (gw_n A) (gw_n B) i
      · refine br_t gt_bf (nm_r (nI_1 i) (ih (i + 1) c g' (by omega) (fun g2 => ?_)))
        rw [← gt_ff t]
        exact hp g2
      · refine br_f (by decide) (br_c (fun e => ?_) (fun e => ?_))
        · have q := hp g'
          rw [gt_fh t e] at q
          exact q
        · refine nm_r (nI_1 c) (nm_r (nI_1 i) (ih (i + 1) (c + 1) g' (by omega) (fun g2 => ?_)))
          rw [← gt_fn t e]
          exact hp g2
  exact ⟨1025, K 1024 0 0 g rfl h⟩
end
section
/-! ===== the walks of the reference, each with a general post ===== -/
theorem ys_one {post : Int32 → Prop} {s : Nat} (hs : s < 1024) (h : post (nI (gf_c s.testBit 10))) : wpY_ones post (nI s) := by
  have L : ∀ j i, i + j = 10 → wY_ones_4 post (nI s) (j + 1) (nI (gf_c s.testBit i)) (nI i) := by
    intro j
    induction j with
    | zero =>
      intro i hi
      have e : i = 10 := by omega
      subst e
      exact br_t gn_10e h
    | succ j ih =>
      intro i hi
      exact br_f (gn_10 i (by omega)) (nm_r (gn_cnt hs (by omega)) (nm_r (nI_1 i) (ih (i + 1) (by omega))))
  exact ⟨11, L 10 0 rfl⟩
theorem ys_mer {post : Int32 → SY → Prop} {J : Int32 → (Nat → Int32) → (Nat → Int32) → (Nat → Int32) → (Nat → Int32) → Prop} {x1 x2 N M : Int32} {th A B g : Nat → Int32} {kp gn : Int32} (h : J (x2 + 1) th A B (gw_mg g kp gn 6)) : ∃ f, wY_ringless_83 post J x1 x2 kp gn N M f 0 th A B g := by
  have L : ∀ j i, i + j = 6 → wY_ringless_83 post J x1 x2 kp gn N M (j + 1) (nI i) th A B (gw_mg g kp gn i) := by
    intro j
    induction j with
    | zero =>
      intro i hi
      have e : i = 6 := by omega
      subst e
      exact br_t gn_6e (nm_e h)
    | succ j ih =>
      intro i hi
      have hv : vp_in (nI i) 6 := vp_in_nI (by omega) (by omega)
      have hc : (nI i).toNatClampNeg = i := gn_cl (by omega)
      have hg : gw_mg g kp gn i (nI i).toNatClampNeg = g i := by rw [hc]; exact gw_mgi g kp gn i
      by_cases e : g i = gn
      · exact br_f (gn_6 i (by omega)) ⟨hv, br_t (hg.trans e) ⟨hv, nm_r (by rw [hc]; exact gw_mgt e) (nm_r (nI_1 i) (ih (i + 1) (by omega)))⟩⟩
      · refine br_f (gn_6 i (by omega)) ⟨hv, br_f (fun z => e (hg.symm.trans z)) (nm_r (nI_1 i) ?_)⟩
        rw [gw_mgf e]
        exact ih (i + 1) (by omega)
  have L0 := L 6 0 rfl
  rw [gw_mg0] at L0
  exact ⟨7, L0⟩
/-- Y's flags are X's bits -/
def gr_th (d : Nat) (th : Nat → Int32) : Prop := ∀ k, k < 10 → th k = gt_b (d.testBit k)
theorem gr_t0 {d k : Nat} {th : Nat → Int32} (h : gr_th d th) (hk : k < 10) : th k = 0 ↔ d.testBit k = false := by
  rw [h k hk]
  cases d.testBit k <;> decide
theorem ys_rin {post : Int32 → SY → Prop} {d : Nat} {N M : Int32} {th A B g : Nat → Int32} {s : Nat} (hs : s < 1024) (ht : gr_th d th) (hA : gw_in A) (hB : gw_in B) (h : ∀ g', post (gt_b (gt_q d (gw_n A) (gw_n B) s)) (N, M, th, A, B, g')) : wpY_ringless post (N, M, th, A, B, g) (nI s) := by
  have hp : ∀ b g', gt_q d (gw_n A) (gw_n B) s = b → post (gt_b b) (N, M, th, A, B, g') := fun b g' e => e ▸ h g'
  have L : ∀ j i g, i + j = 10 → (∀ k, k < i → gt_ok d (gw_n A) (gw_n B) s k) → gw_ab g (gf_g (gw_n A) (gw_n B) s.testBit i) → wY_ringless_23 post (nI s) N M (j + 1) (nI i) th A B g := by
    intro j
    induction j with
    | zero =>
      intro i g hi hk hg
      have e : i = 10 := by omega
      subst e
      exact br_t gn_10e (hp true g ((gt_qt hs).mpr hk))
    | succ j ih =>
      intro i g hi hk hg
      have i10 : i < 10 := by omega
      have hc : (nI i).toNatClampNeg = i := gn_cl (by omega)
      have hv : vp_in (nI i) 10 := vp_in_nI i10 (by omega)
      refine br_f (gn_10 i i10) ?_
      by_cases b : s.testBit i = true
      · refine br_t ((gb_b1 hs i10).mpr b) ?_
        have hva : vp_in (A (nI i).toNatClampNeg) 6 := by rw [hc]; exact hA i i10
        have hvb : vp_in (B (nI i).toNatClampNeg) 6 := by rw [hc]; exact hB i i10
        have hth : th (nI i).toNatClampNeg = 0 ↔ d.testBit i = false := by rw [hc]; exact gr_t0 ht i10
        have na := gw_nl hA i i10
        have nb := gw_nl hB i i10
        refine ⟨hv, hva, nm_r (e' := g (gw_n A i)) (by rw [hc]; rfl) ⟨hv, hvb, nm_r (e' := g (gw_n B i)) (by rw [hc]; rfl) ⟨hv, ?_⟩⟩⟩
        refine br_c (fun z => ?_) (fun z => ?_)
        · have z2 := hth.mp z
          refine hp false g (gt_qf hs i10 (fun q => ?_))
          have q2 := (q b).1
          rw [z2] at q2
          exact absurd q2 (by decide)
        · have z2 : d.testBit i = true := by
            cases y : d.testBit i
            · exact absurd (hth.mpr y) z
            · rfl
          by_cases e : g (gw_n A i) = g (gw_n B i)
          · have e2 : gf_g (gw_n A) (gw_n B) s.testBit i (gw_n A i) = gf_g (gw_n A) (gw_n B) s.testBit i (gw_n B i) := (hg _ na).symm.trans (e.trans (hg _ nb))
            exact br_t e (hp false g (gt_qf hs i10 (fun q => (q b).2 e2)))
          · have e2 : ¬ gf_g (gw_n A) (gw_n B) s.testBit i (gw_n A i) = gf_g (gw_n A) (gw_n B) s.testBit i (gw_n B i) := fun z => e ((hg _ na).trans (z.trans (hg _ nb).symm))
            refine br_f e (ys_mer ?_)
            rw [nI_1 i]
            refine ih (i + 1) _ (by omega) (fun k hk2 => ?_) ?_
            · by_cases ek : k = i
              · rw [ek]
                exact fun _ => ⟨z2, e2⟩
              · exact hk k (by omega)
            · rw [gf_gt b]
              exact gw_mga hg na nb
      · refine br_f (fun z => b ((gb_b1 hs i10).mp z)) (nm_r (nI_1 i) ?_)
        refine ih (i + 1) g (by omega) (fun k hk2 => ?_) ?_
        · by_cases ek : k = i
          · rw [ek]
            exact fun z => absurd z b
          · exact hk k (by omega)
        · rw [gf_gf b]
          exact hg
  have S : ∀ j i, i + j = 6 → wY_ringless_2 post (nI s) N M (j + 1) (nI i) th A B (gw_sp g i) := by
    intro j
    induction j with
    | zero =>
      intro i hi
      have e : i = 6 := by omega
      subst e
      exact br_t gn_6e ⟨11, L 10 0 _ rfl (fun k hk => absurd hk (by omega)) (gw_spa g)⟩
    | succ j ih =>
      intro i hi
      exact br_f (gn_6 i (by omega)) ⟨vp_in_nI (by omega) (by omega), nm_r (by rw [gn_cl (by omega)]; exact gw_sps g i) (nm_r (nI_1 i) (ih (i + 1) (by omega)))⟩
  have S0 := S 6 0 rfl
  rw [gw_sp0] at S0
  exact ⟨7, S0⟩
theorem ys_tre {post : Int32 → SY → Prop} {n d : Nat} {M : Int32} {th A B g : Nat → Int32} {s : Nat} (hs : s < 1024) (hn : 1 ≤ n) (hn6 : n ≤ 6) (ht : gr_th d th) (hA : gw_in A) (hB : gw_in B) (h : ∀ g', post (gt_b (gt_t n d (gw_n A) (gw_n B) s)) (nI n, M, th, A, B, g')) : wpY_isTree post (nI n, M, th, A, B, g) (nI s) := by
  have hc10 := gf_cle s.testBit 10
  have e1 : nI n - 1 = nI (n - 1) := pk_sub (a := n) (b := 1) hn
  have hp : ∀ b g', gt_t n d (gw_n A) (gw_n B) s = b → post (gt_b b) (nI n, M, th, A, B, g') := fun b g' e => e ▸ h g'
  unfold wpY_isTree
  refine ys_one hs (br_c (fun c2 => ys_rin hs ht hA hB (fun g' => ?_)) (fun c2 => ?_))
  · rw [e1, nI_eq (by omega) (by omega)] at c2
    cases q : gt_q d (gw_n A) (gw_n B) s
    · exact br_t gt_bf (hp false g' (by unfold gt_t; rw [q, Bool.and_false]))
    · exact br_f (by decide) (hp true g' (by unfold gt_t; rw [q, decide_eq_true c2]; rfl))
  · rw [e1, nI_eq (by omega) (by omega)] at c2
    exact hp false g (by unfold gt_t; rw [decide_eq_false c2, Bool.false_and])
theorem ys_cnt {post : Int32 → SY → Prop} {n d : Nat} {M : Int32} {th A B g : Nat → Int32} {nd L : Nat} (hL : L ≤ 1024) (hnd : nd < 1024) (hn : 1 ≤ n) (hn6 : n ≤ 6) (ht : gr_th d th) (hA : gw_in A) (hB : gw_in B) (h : ∀ g', post (nI (gf_c (gt_h n d (gw_n A) (gw_n B) nd) L)) (nI n, M, th, A, B, g')) : wpY_count post (nI n, M, th, A, B, g) (nI L) (nI nd) := by
  have K : ∀ j i g, i + j = L → wY_count_5 post (nI L) (nI nd) (j + 1) (nI (gf_c (gt_h n d (gw_n A) (gw_n B) nd) i)) (nI i) (nI n) M th A B g := by
    intro j
    induction j with
    | zero =>
      intro i g hi
      have e : i = L := by omega
      subst e
      exact br_t (gn_Le _) (h g)
    | succ j ih =>
      intro i g hi
      have hl : i &&& nd < 1024 := gb_landlt i hnd
      refine br_f (gn_L (by omega) hL) (br_c (fun c => ?_) (fun c => ?_))
      · rw [gb_and, nI_eq (by omega) (by omega)] at c
        refine ys_tre (by omega) hn hn6 ht hA hB (fun g' => ?_)
        cases t : gt_t n d (gw_n A) (gw_n B) i
        · have hz : ¬ gt_h n d (gw_n A) (gw_n B) nd i = true := by unfold gt_h; rw [t, Bool.and_false]; decide
          refine br_t gt_bf (nm_r (nI_1 i) ?_)
          rw [← gf_cf hz]
          exact ih (i + 1) g' (by omega)
        · have hz : gt_h n d (gw_n A) (gw_n B) nd i = true := by unfold gt_h; rw [t, decide_eq_true c]; rfl
          exact br_f (by decide) (nm_r (by rw [nI_1, ← gf_ct hz]) (nm_r (nI_1 i) (ih (i + 1) g' (by omega))))
      · rw [gb_and, nI_eq (by omega) (by omega)] at c
        have hz : ¬ gt_h n d (gw_n A) (gw_n B) nd i = true := by unfold gt_h; rw [decide_eq_false c, Bool.false_and]; decide
        refine nm_r (nI_1 i) ?_
        rw [← gf_cf hz]
        exact ih (i + 1) g (by omega)
  exact ⟨L + 1, K L 0 g (by omega)⟩
theorem ys_fnd {post : Int32 → SY → Prop} {n d : Nat} {M : Int32} {th A B g : Nat → Int32} {r : Int32} (hn : 1 ≤ n) (hn6 : n ≤ 6) (ht : gr_th d th) (hA : gw_in A) (hB : gw_in B) (h : ∀ g', post (gt_f (gt_t n d (gw_n A) (gw_n B)) r 1024 0 0) (nI n, M, th, A, B, g')) : wpY_tree post (nI n, M, th, A, B, g) r := by
  have K : ∀ j i c g, i + j = 1024 → (∀ g', post (gt_f (gt_t n d (gw_n A) (gw_n B)) r j i c) (nI n, M, th, A, B, g')) → wY_tree_4 post r (j + 1) (nI c) (nI i) (nI n) M th A B g := by
    intro j
    induction j with
    | zero =>
      intro i c g hi hp
      have e : i = 1024 := by omega
      subst e
      exact br_t gn_ke (hp g)
    | succ j ih =>
      intro i c g hi hp
      refine br_f (gn_k (by omega)) (ys_tre (by omega) hn hn6 ht hA hB (fun g' => ?_))
      cases t : gt_t n d (gw_n A) (gw_n B) i
      · refine br_t gt_bf (nm_r (nI_1 i) (ih (i + 1) c g' (by omega) (fun g2 => ?_)))
        rw [← gt_ff t]
        exact hp g2
      · refine br_f (by decide) (br_c (fun e => ?_) (fun e => ?_))
        · have q := hp g'
          rw [gt_fh t e] at q
          exact q
        · refine nm_r (nI_1 c) (nm_r (nI_1 i) (ih (i + 1) (c + 1) g' (by omega) (fun g2 => ?_)))
          rw [← gt_fn t e]
          exact hp g2
  exact ⟨1025, K 1024 0 0 g rfl h⟩
end
section
/-! ===== the reference's surplus ===== -/
theorem gs_f {l i e : Nat} (h : ∀ q, q < 10 → l.testBit q = (decide (q < i) && e.testBit q)) (hb : e.testBit i = false) : ∀ q, q < 10 → l.testBit q = (decide (q < i + 1) && e.testBit q) := by
  intro q hq
  rw [h q hq]
  by_cases z : q = i
  · rw [z, hb, Bool.and_false, Bool.and_false]
  · rw [decide_eq_decide.mpr (show q < i ↔ q < i + 1 by omega)]
theorem gs_t {l i e : Nat} (h : ∀ q, q < 10 → l.testBit q = (decide (q < i) && e.testBit q)) (hb : e.testBit i = true) : ∀ q, q < 10 → (l ||| 2 ^ i).testBit q = (decide (q < i + 1) && e.testBit q) := by
  intro q hq
  rw [gb_set, h q hq]
  by_cases z : q = i
  · rw [z, hb, decide_eq_true (rfl : i = i), decide_eq_true (show i < i + 1 by omega), Bool.or_true]
    rfl
  · rw [decide_eq_decide.mpr (show q < i ↔ q < i + 1 by omega), decide_eq_false (show ¬ i = q by omega), Bool.or_false]
theorem ys_lea {post : Int32 → SY → Prop} {d e : Nat} {N M : Int32} {th A B g : Nat → Int32} (he : e < 1024) (hed : e &&& d = e) (ht : gr_th d th) (hA : gw_in A) (hB : gw_in B) (h : ∀ g', post (nI (gf_c (gf_z (gw_n A) (gw_n B) e.testBit) 10)) (N, M, th, A, B, g')) : ∃ f, wY_surplus_48 post (nI e) f 10 0 N M th A B g := by
  obtain ⟨s0, s0l, s0e, s0q, s0c⟩ := gt_ex (F := gw_n A) (T := gw_n B) (gw_nl hA) (gw_nl hB) hed he
  have hz10 := gf_cle (gf_z (gw_n A) (gw_n B) e.testBit) 10
  have he10 := gf_cle e.testBit 10
  have K : ∀ j i l g, i + j = 1024 → l ≤ 10 → gf_c (gf_z (gw_n A) (gw_n B) e.testBit) 10 ≤ l → (s0 < i → l = gf_c (gf_z (gw_n A) (gw_n B) e.testBit) 10) → wY_surplus_48 post (nI e) (j + 1) (nI l) (nI i) N M th A B g := by
    intro j
    induction j with
    | zero =>
      intro i l g hi h1 h2 h3
      have e1 : i = 1024 := by omega
      subst e1
      have e2 := h3 s0l
      rw [e2]
      exact br_t gn_ke (h g)
    | succ j ih =>
      intro i l g hi h1 h2 h3
      have i10 : i < 1024 := by omega
      have hx : i ^^^ (i &&& e) < 1024 := gb_lxorlt i10 (gb_landlt i he)
      refine br_f (gn_k i10) (br_c (fun c => ?_) (fun c => ?_))
      · rw [gb_no, ← nI_0, nI_eq (by omega) (by omega), gb_x0] at c
        refine ys_rin i10 ht hA hB (fun g' => ?_)
        cases q : gt_q d (gw_n A) (gw_n B) i
        · refine br_t gt_bf (nm_r (nI_1 i) (ih (i + 1) l g' (by omega) h1 h2 (fun z => h3 ?_)))
          have ne : s0 ≠ i := by
            intro w
            rw [w, q] at s0q
            exact absurd s0q (by decide)
          omega
        · have hg := gt_ge (d := d) (F := gw_n A) (T := gw_n B) (B := e) (gw_nl hA) (gw_nl hB) i10 c q
          refine br_f (by decide) (ys_one he (ys_one i10 (nm_r (pk_sub hg.1) ?_)))
          have hw : s0 = i → gf_c e.testBit 10 - gf_c i.testBit 10 = gf_c (gf_z (gw_n A) (gw_n B) e.testBit) 10 := by
            intro w
            rw [w] at s0c
            exact s0c
          refine br_c (fun y => ?_) (fun y => ?_)
          · rw [nI_leI (by omega) (by omega)] at y
            refine nm_r (nI_1 i) (ih (i + 1) l g' (by omega) h1 h2 (fun z => ?_))
            by_cases w : s0 = i
            · have := hw w
              omega
            · exact h3 (by omega)
          · rw [nI_leI (by omega) (by omega)] at y
            refine nm_r (nI_1 i) (ih (i + 1) _ g' (by omega) (by omega) hg.2 (fun z => ?_))
            by_cases w : s0 = i
            · exact hw w
            · have := h3 (by omega)
              omega
      · rw [gb_no, ← nI_0, nI_eq (by omega) (by omega), gb_x0] at c
        refine nm_r (nI_1 i) (ih (i + 1) l g (by omega) h1 h2 (fun z => h3 ?_))
        have ne : s0 ≠ i := by
          intro w
          rw [w] at s0e
          exact c s0e
        omega
  exact ⟨1025, K 1024 0 10 g rfl (by omega) hz10 (fun z => absurd z (by omega))⟩
theorem ys_sur {post : Int32 → SY → Prop} {d m : Nat} {N : Int32} {th A B g : Nat → Int32} (hd : d < 1024) (hm : m < 1024) (ht : gr_th d th) (hA : gw_in A) (hB : gw_in B) (h : ∀ g', post (nI (gf_c (gf_z (gw_n A) (gw_n B) (m &&& d).testBit) 10)) (N, nI m, th, A, B, g')) : wpY_surplus post (N, nI m, th, A, B, g) := by
  have he : m &&& d < 1024 := gb_landlt m hd
  have hed : (m &&& d) &&& d = m &&& d := by
    rw [gb_sub he]
    intro k hk z
    rw [Nat.testBit_and, Bool.and_eq_true] at z
    exact z.2
  have K : ∀ j i l, i + j = 10 → l < 1024 → (∀ q, q < 10 → l.testBit q = (decide (q < i) && (m &&& d).testBit q)) → wY_surplus_4 post N (nI m) th A B g (j + 1) (nI l) (nI i) := by
    intro j
    induction j with
    | zero =>
      intro i l hi hl hq
      have e1 : i = 10 := by omega
      subst e1
      have e2 : l = m &&& d := gb_ext hl he (fun k hk => by rw [hq k hk, decide_eq_true hk, Bool.true_and])
      subst e2
      exact br_t gn_10e (ys_lea he hed ht hA hB h)
    | succ j ih =>
      intro i l hi hl hq
      have i10 : i < 10 := by omega
      have hc : (nI i).toNatClampNeg = i := gn_cl (by omega)
      have hv : vp_in (nI i) 10 := vp_in_nI i10 (by omega)
      have hth : th (nI i).toNatClampNeg = 0 ↔ d.testBit i = false := by rw [hc]; exact gr_t0 ht i10
      have hb : (m &&& d).testBit i = (m.testBit i && d.testBit i) := Nat.testBit_and m d i
      refine br_f (gn_10 i i10) ⟨hv, br_c (fun z => ?_) (fun z => ?_)⟩
      · refine nm_r (nI_1 i) (ih (i + 1) l (by omega) hl (gs_f hq ?_))
        rw [hb, hth.mp z, Bool.and_false]
      · have z2 : d.testBit i = true := by
          cases y : d.testBit i
          · exact absurd (hth.mpr y) z
          · rfl
        by_cases b : m.testBit i = true
        · refine br_t ((gb_b1 hm i10).mpr b) (nm_r (by rw [gb_sh i i10, gb_or]) (nm_r (nI_1 i) (ih (i + 1) (l ||| 2 ^ i) (by omega) (gb_lorlt hl (gb_p2 i i10)) (gs_t hq ?_))))
          rw [hb, z2, b]
          rfl
        · refine br_f (fun w => b ((gb_b1 hm i10).mp w)) (nm_r (nI_1 i) (ih (i + 1) l (by omega) hl (gs_f hq ?_)))
          rw [hb, Bool.eq_false_iff.mpr b, Bool.false_and]
  exact ⟨11, K 10 0 0 rfl (by omega) (fun q hq => by rw [Nat.zero_testBit, decide_eq_false (Nat.not_lt_zero q), Bool.false_and])⟩
end
section
/-! ===== the relation, and what is owed ===== -/
def i_Rel (_ : Nat) (u : SX) (v : SY) : Prop := ∃ (n d m : Nat) (A B g th p : Nat → Int32), u = (nI n, nI d, nI m, A, B, g) ∧ v = (nI n, nI m, th, A, B, p) ∧ 1 ≤ n ∧ n ≤ 6 ∧ d < 1024 ∧ m < 1024 ∧ gw_in A ∧ gw_in B ∧ gr_th d th
theorem i_up {k : Nat} {u : SX} {v : SY} (h : i_Rel k u v) : i_Rel (k + 4) u v := h
theorem gr_new {n : Nat} (h1 : 1 ≤ n) (h6 : n ≤ 6) : i_Rel 1 (nI n, 0, 0, (fun _ => 0), (fun _ => 0), (fun _ => 0)) (nI n, 0, (fun _ => 0), (fun _ => 0), (fun _ => 0), (fun _ => 0)) := by
  have hi : gw_in (fun _ => 0) := fun k hk => vp_in_nI (n := 0) (N := 6) (by omega) (by omega)
  have ht : gr_th 0 (fun _ => 0) := by
    intro k hk
    show (0 : Int32) = gt_b (Nat.testBit 0 k)
    rw [Nat.zero_testBit]
    rfl
  exact ⟨n, 0, 0, _, _, _, _, _, rfl, rfl, h1, h6, by omega, by omega, hi, hi, ht⟩
theorem i_vc0 (k0 : Int32) : wpX_init (fun u => wpY_init (fun v => i_Rel 1 u v) k0) k0 := by
  unfold wpX_init wpY_init
  refine br_c (fun a => br_c (fun b => br_t a (br_t b ?_)) (fun b => br_t a (br_f b ?_))) (fun a => br_f a ?_)
  · obtain ⟨j, hj, e⟩ := nI_of2 (x := k0) (M := 6) (n := 6) (by decide) (Int32.not_lt.mpr (Int32.le_trans (by decide : (0 : Int32) ≤ 1) a)) b
    subst e
    have a2 : nI 1 ≤ nI j := a
    rw [nI_leI (by omega) (by omega)] at a2
    exact gr_new a2 hj
  · exact gr_new (n := 6) (by omega) (by omega)
  · exact gr_new (n := 1) (by omega) (by omega)
/-! lines and points, refused or not -/
theorem xl_no {post : Int32 → Prop} {x : Int32} (hb : x < 0 ∨ nI 10 ≤ x) (h : post 0) : wpX_isLine post x := by
  unfold wpX_isLine
  refine br_c (fun _ => h) (fun c => ?_)
  exact br_t (hb.resolve_left c) h
theorem xl_ok {post : Int32 → Prop} {k : Nat} (hk : k < 10) (h : post 1) : wpX_isLine post (nI k) := br_f (nI_pos (by omega)) (br_f (gn_10 k hk) h)
theorem yl_no {post : Int32 → Prop} {x : Int32} (hb : x < 0 ∨ nI 10 ≤ x) (h : post 1) : wpY_badLine post x := by
  unfold wpY_badLine
  refine br_c (fun _ => h) (fun c => ?_)
  exact br_f (fun z => absurd (Int32.le_trans (hb.resolve_left c) z) (by decide)) h
theorem gn_9 : ∀ k, k < 10 → nI k ≤ (9 : Int32) := by decide +kernel
theorem yl_ok {post : Int32 → Prop} {k : Nat} (hk : k < 10) (h : post 0) : wpY_badLine post (nI k) := br_f (nI_pos (by omega)) (br_t (gn_9 k hk) h)
theorem xp_no {post : Int32 → Prop} {n : Nat} {x D M : Int32} {A B g : Nat → Int32} (hb : x < 0 ∨ nI n ≤ x) (h : post 0) : wpX_isPoint post (nI n, D, M, A, B, g) x := by
  unfold wpX_isPoint
  refine br_c (fun _ => h) (fun c => ?_)
  exact br_t (hb.resolve_left c) h
theorem xp_ok {post : Int32 → Prop} {n j : Nat} {D M : Int32} {A B g : Nat → Int32} (hn : n ≤ 6) (hj : j < n) (h : post 1) : wpX_isPoint post (nI n, D, M, A, B, g) (nI j) := br_f (nI_pos (by omega)) (br_f (nI_ge hj (by omega)) h)
theorem yp_no {post : Int32 → Prop} {n : Nat} {x M : Int32} {th A B g : Nat → Int32} (hb : x < 0 ∨ nI n ≤ x) (h : post 1) : wpY_badPoint post (nI n, M, th, A, B, g) x := by
  unfold wpY_badPoint
  refine br_c (fun _ => h) (fun c => ?_)
  exact br_f (Int32.not_lt.mpr (hb.resolve_left c)) h
theorem yp_ok {post : Int32 → Prop} {n j : Nat} {M : Int32} {th A B g : Nat → Int32} (hn : n ≤ 6) (hj : j < n) (h : post 0) : wpY_badPoint post (nI n, M, th, A, B, g) (nI j) := br_f (nI_pos (by omega)) (br_t (nI_lt hj (by omega)) h)
theorem gn_ix (x : Int32) (n : Nat) (hn : n ≤ 10) : (x < 0 ∨ nI n ≤ x) ∨ ∃ j : Nat, j < n ∧ x = nI j := by
  rcases pk_ix x (n := n) (by omega) with h | h | h
  · exact Or.inl (Or.inl h)
  · exact Or.inl (Or.inr h)
  · exact Or.inr h
theorem gn_1 : ¬ (1 : Int32) = 0 := by decide
theorem i_vc_draw {k : Nat} {u : SX} {v : SY} (I : i_Rel k u v) (hk : k + 4 ≤ 2049) (v1 : Int32) (v2 : Int32) (v3 : Int32) : wpX_draw (fun r u' => wpY_draw (fun r' v' => r' = r ∧ i_Rel (k + 4) u' v') v v1 v2 v3) u v1 v2 v3 := by
  have I0 := I
  obtain ⟨n, d, m, A, B, g, th, p, rfl, rfl, hn, hn6, hd, hm, hA, hB, ht⟩ := I
  unfold wpX_draw wpY_draw
  rcases gn_ix v1 10 (by omega) with h1 | ⟨l, hl, rfl⟩
  · exact xl_no h1 (br_t rfl (yl_no h1 (br_f gn_1 ⟨rfl, I0⟩)))
  · refine xl_ok hl (br_f gn_1 ?_)
    rcases gn_ix v2 n (by omega) with h2 | ⟨a, ha, rfl⟩
    · exact xp_no h2 (br_t rfl (yl_ok hl (br_t rfl (yp_no h2 (br_f gn_1 ⟨rfl, I0⟩)))))
    · refine xp_ok hn6 ha (br_f gn_1 ?_)
      rcases gn_ix v3 n (by omega) with h3 | ⟨b, hb, rfl⟩
      · exact xp_no h3 (br_t rfl (yl_ok hl (br_t rfl (yp_ok hn6 ha (br_t rfl (yp_no h3 (br_f gn_1 ⟨rfl, I0⟩)))))))
      · refine xp_ok hn6 hb (br_f gn_1 ?_)
        have hv : vp_in (nI l) 10 := vp_in_nI hl (by omega)
        have hc : (nI l).toNatClampNeg = l := gn_cl (by omega)
        refine br_c (fun e => yl_ok hl (br_t rfl (yp_ok hn6 ha (br_t rfl (yp_ok hn6 hb (br_t rfl (br_t e ⟨rfl, I0⟩))))))) (fun e => ?_)
        refine ⟨hv, nm_r (e' := upd A l (nI a)) (by rw [hc]) ⟨hv, nm_r (e' := upd B l (nI b)) (by rw [hc]) (nm_r (e' := nI (d ||| 2 ^ l)) (by rw [gb_sh l hl, gb_or]) ?_)⟩⟩
        refine yl_ok hl (br_t rfl (yp_ok hn6 ha (br_t rfl (yp_ok hn6 hb (br_t rfl (br_f e ?_))))))
        refine ⟨hv, nm_r (e' := upd th l 1) (by rw [hc]; rfl) ⟨hv, nm_r (e' := upd A l (nI a)) (by rw [hc]) ⟨hv, nm_r (e' := upd B l (nI b)) (by rw [hc]) ?_⟩⟩⟩
        refine ⟨rfl, n, d ||| 2 ^ l, m, _, _, _, _, _, rfl, rfl, hn, hn6, gb_lorlt hd (gb_p2 l hl), hm, gw_inu hA (by omega), gw_inu hB (by omega), ?_⟩
        intro q hq
        rw [gb_set]
        by_cases e2 : q = l
        · rw [e2, pk_us, decide_eq_true (rfl : l = l), Bool.or_true]
          rfl
        · rw [pk_un e2, decide_eq_false (fun w => e2 w.symm), Bool.or_false]
          exact ht q hq
theorem i_vc_cut {k : Nat} {u : SX} {v : SY} (I : i_Rel k u v) (hk : k + 4 ≤ 2049) (v1 : Int32) : wpX_cut (fun r u' => wpY_cut (fun r' v' => r' = r ∧ i_Rel (k + 4) u' v') v v1) u v1 := by
  have I0 := I
  obtain ⟨n, d, m, A, B, g, th, p, rfl, rfl, hn, hn6, hd, hm, hA, hB, ht⟩ := I
  unfold wpX_cut wpY_cut
  rcases gn_ix v1 10 (by omega) with h1 | ⟨l, hl, rfl⟩
  · exact xl_no h1 (br_t rfl (yl_no h1 (br_f gn_1 ⟨rfl, I0⟩)))
  · have hv : vp_in (nI l) 10 := vp_in_nI hl (by omega)
    have hc : (nI l).toNatClampNeg = l := gn_cl (by omega)
    have hth : th (nI l).toNatClampNeg = 0 ↔ d.testBit l = false := by rw [hc]; exact gr_t0 ht hl
    refine xl_ok hl (br_f gn_1 (nm_r (gb_bit hd hl) (nm_r (e' := nI (d ^^^ (d &&& 2 ^ l))) (by rw [gb_sh l hl, gb_no]) ?_)))
    have R : i_Rel (k + 4) (nI n, nI (d ^^^ (d &&& 2 ^ l)), nI m, A, B, g) (nI n, nI m, upd th l 0, A, B, p) := by
      refine ⟨n, d ^^^ (d &&& 2 ^ l), m, A, B, g, upd th l 0, p, rfl, rfl, hn, hn6, gb_lxorlt hd (gb_landlt d (gb_p2 l hl)), hm, hA, hB, ?_⟩
      intro q hq
      rw [gb_clr]
      by_cases e2 : q = l
      · rw [e2, pk_us, decide_eq_true (rfl : l = l), Bool.not_true, Bool.and_false]
        rfl
      · rw [pk_un e2, decide_eq_false (fun w => e2 w.symm), Bool.not_false, Bool.and_true]
        exact ht q hq
    refine yl_ok hl (br_t rfl ⟨hv, br_c (fun z => ?_) (fun z => ?_)⟩)
    · refine ⟨hv, nm_r (e' := upd th l 0) (by rw [hc]; rfl) ⟨?_, R⟩⟩
      rw [hth.mp z]
      rfl
    · have z2 : d.testBit l = true := by
        cases y : d.testBit l
        · exact absurd (hth.mpr y) z
        · rfl
      refine ⟨hv, nm_r (e' := upd th l 0) (by rw [hc]; rfl) ⟨?_, R⟩⟩
      rw [z2]
      rfl
theorem i_vc_mark {k : Nat} {u : SX} {v : SY} (I : i_Rel k u v) (hk : k + 4 ≤ 2049) (v1 : Int32) : wpX_mark (fun r u' => wpY_mark (fun r' v' => r' = r ∧ i_Rel (k + 4) u' v') v v1) u v1 := by
  have I0 := I
  obtain ⟨n, d, m, A, B, g, th, p, rfl, rfl, hn, hn6, hd, hm, hA, hB, ht⟩ := I
  unfold wpX_mark wpY_mark
  rcases gn_ix v1 10 (by omega) with h1 | ⟨l, hl, rfl⟩
  · exact xl_no h1 (br_t rfl (yl_no h1 (br_f gn_1 ⟨rfl, I0⟩)))
  · have e : nI m ^^^ ((1 : Int32) <<< (nI l &&& 31)) = nI (m ^^^ 2 ^ l) := by rw [gb_sh l hl, gb_xor]
    refine xl_ok hl (br_f gn_1 (nm_r e (yl_ok hl (br_t rfl (nm_r e ⟨rfl, ?_⟩)))))
    exact ⟨n, d, m ^^^ 2 ^ l, A, B, g, th, p, rfl, rfl, hn, hn6, hd, gb_lxorlt hm (gb_p2 l hl), hA, hB, ht⟩
theorem i_vc_trees {k : Nat} {u : SX} {v : SY} (I : i_Rel k u v) (hk : k + 4 ≤ 2049) : wpX_trees (fun r u' => wpY_trees (fun r' v' => r' = r ∧ i_Rel (k + 4) u' v') v) u := by
  obtain ⟨n, d, m, A, B, g, th, p, rfl, rfl, hn, hn6, hd, hm, hA, hB, ht⟩ := I
  unfold wpX_trees wpY_trees
  refine xs_cnt (nd := 0) (L := 1024) (by omega) (by omega) hn hn6 hd hA hB (fun g' => ?_)
  refine ys_cnt (nd := 0) (L := 1024) (by omega) (by omega) hn hn6 ht hA hB (fun p' => ?_)
  exact ⟨rfl, n, d, m, A, B, g', th, p', rfl, rfl, hn, hn6, hd, hm, hA, hB, ht⟩
theorem i_vc_treesWith {k : Nat} {u : SX} {v : SY} (I : i_Rel k u v) (hk : k + 4 ≤ 2049) (v1 : Int32) : wpX_treesWith (fun r u' => wpY_treesWith (fun r' v' => r' = r ∧ i_Rel (k + 4) u' v') v v1) u v1 := by
  have I0 := I
  obtain ⟨n, d, m, A, B, g, th, p, rfl, rfl, hn, hn6, hd, hm, hA, hB, ht⟩ := I
  unfold wpX_treesWith wpY_treesWith
  rcases gn_ix v1 10 (by omega) with h1 | ⟨l, hl, rfl⟩
  · exact xl_no h1 (br_t rfl (yl_no h1 (br_f gn_1 ⟨rfl, I0⟩)))
  · rw [gb_sh l hl]
    refine xl_ok hl (br_f gn_1 (xs_cnt (L := 1024) (by omega) (gb_p2 l hl) hn hn6 hd hA hB (fun g' => ?_)))
    refine yl_ok hl (br_t rfl (ys_cnt (L := 1024) (by omega) (gb_p2 l hl) hn hn6 ht hA hB (fun p' => ?_)))
    exact ⟨rfl, n, d, m, A, B, g', th, p', rfl, rfl, hn, hn6, hd, hm, hA, hB, ht⟩
theorem i_vc_treesWithBoth {k : Nat} {u : SX} {v : SY} (I : i_Rel k u v) (hk : k + 4 ≤ 2049) (v1 : Int32) (v2 : Int32) : wpX_treesWithBoth (fun r u' => wpY_treesWithBoth (fun r' v' => r' = r ∧ i_Rel (k + 4) u' v') v v1 v2) u v1 v2 := by
  have I0 := I
  obtain ⟨n, d, m, A, B, g, th, p, rfl, rfl, hn, hn6, hd, hm, hA, hB, ht⟩ := I
  unfold wpX_treesWithBoth wpY_treesWithBoth
  rcases gn_ix v1 10 (by omega) with h1 | ⟨l, hl, rfl⟩
  · exact xl_no h1 (br_t rfl (yl_no h1 (br_f gn_1 ⟨rfl, I0⟩)))
  · refine xl_ok hl (br_f gn_1 ?_)
    rcases gn_ix v2 10 (by omega) with h2 | ⟨j, hj, rfl⟩
    · exact xl_no h2 (br_t rfl (yl_ok hl (br_t rfl (yl_no h2 (br_f gn_1 ⟨rfl, I0⟩)))))
    · rw [gb_sh l hl, gb_sh j hj, gb_or]
      have hb := gb_lorlt (gb_p2 l hl) (gb_p2 j hj)
      refine xl_ok hj (br_f gn_1 (xs_cnt (L := 1024) (by omega) hb hn hn6 hd hA hB (fun g' => ?_)))
      refine yl_ok hl (br_t rfl (yl_ok hj (br_t rfl (ys_cnt (L := 1024) (by omega) hb hn hn6 ht hA hB (fun p' => ?_)))))
      exact ⟨rfl, n, d, m, A, B, g', th, p', rfl, rfl, hn, hn6, hd, hm, hA, hB, ht⟩
theorem i_vc_tree {k : Nat} {u : SX} {v : SY} (I : i_Rel k u v) (hk : k + 4 ≤ 2049) (v1 : Int32) : wpX_tree (fun r u' => wpY_tree (fun r' v' => r' = r ∧ i_Rel (k + 4) u' v') v v1) u v1 := by
  obtain ⟨n, d, m, A, B, g, th, p, rfl, rfl, hn, hn6, hd, hm, hA, hB, ht⟩ := I
  refine xs_fnd hn hn6 hd hA hB (fun g' => ?_)
  refine ys_fnd hn hn6 ht hA hB (fun p' => ?_)
  exact ⟨rfl, n, d, m, A, B, g', th, p', rfl, rfl, hn, hn6, hd, hm, hA, hB, ht⟩
theorem i_vc_rank {k : Nat} {u : SX} {v : SY} (I : i_Rel k u v) (hk : k + 4 ≤ 2049) : wpX_rank (fun r u' => wpY_rank (fun r' v' => r' = r ∧ i_Rel (k + 4) u' v') v) u := by
  obtain ⟨n, d, m, A, B, g, th, p, rfl, rfl, hn, hn6, hd, hm, hA, hB, ht⟩ := I
  unfold wpX_rank wpY_rank
  refine xs_tre hm hn hn6 hd hA hB (fun g' => ?_)
  cases t : gt_t n d (gw_n A) (gw_n B) m
  · refine br_t gt_bf (ys_tre hm hn hn6 ht hA hB (fun p' => ?_))
    rw [t]
    exact br_t gt_bf ⟨rfl, n, d, m, A, B, g', th, p', rfl, rfl, hn, hn6, hd, hm, hA, hB, ht⟩
  · refine br_f (by decide) (xs_cnt (nd := 0) (by omega) (by omega) hn hn6 hd hA hB (fun g2 => ?_))
    refine ys_tre hm hn hn6 ht hA hB (fun p' => ?_)
    rw [t]
    refine br_f (by decide) (ys_cnt (nd := 0) (by omega) (by omega) hn hn6 ht hA hB (fun p2 => ?_))
    exact ⟨rfl, n, d, m, A, B, g2, th, p2, rfl, rfl, hn, hn6, hd, hm, hA, hB, ht⟩
theorem i_vc_below {k : Nat} {u : SX} {v : SY} (I : i_Rel k u v) (hk : k + 4 ≤ 2049) : wpX_below (fun r u' => wpY_below (fun r' v' => r' = r ∧ i_Rel (k + 4) u' v') v) u := by
  obtain ⟨n, d, m, A, B, g, th, p, rfl, rfl, hn, hn6, hd, hm, hA, hB, ht⟩ := I
  unfold wpX_below wpY_below
  refine xs_cnt (nd := 0) (by omega) (by omega) hn hn6 hd hA hB (fun g' => ?_)
  refine ys_cnt (nd := 0) (by omega) (by omega) hn hn6 ht hA hB (fun p' => ?_)
  exact ⟨rfl, n, d, m, A, B, g', th, p', rfl, rfl, hn, hn6, hd, hm, hA, hB, ht⟩
theorem i_vc_extensions {k : Nat} {u : SX} {v : SY} (I : i_Rel k u v) (hk : k + 4 ≤ 2049) : wpX_extensions (fun r u' => wpY_extensions (fun r' v' => r' = r ∧ i_Rel (k + 4) u' v') v) u := by
  obtain ⟨n, d, m, A, B, g, th, p, rfl, rfl, hn, hn6, hd, hm, hA, hB, ht⟩ := I
  unfold wpX_extensions wpY_extensions
  refine xs_cnt (L := 1024) (by omega) hm hn hn6 hd hA hB (fun g' => ?_)
  refine ys_cnt (L := 1024) (by omega) hm hn hn6 ht hA hB (fun p' => ?_)
  exact ⟨rfl, n, d, m, A, B, g', th, p', rfl, rfl, hn, hn6, hd, hm, hA, hB, ht⟩
theorem i_vc_surplus {k : Nat} {u : SX} {v : SY} (I : i_Rel k u v) (hk : k + 4 ≤ 2049) : wpX_surplus (fun r u' => wpY_surplus (fun r' v' => r' = r ∧ i_Rel (k + 4) u' v') v) u := by
  obtain ⟨n, d, m, A, B, g, th, p, rfl, rfl, hn, hn6, hd, hm, hA, hB, ht⟩ := I
  unfold wpX_surplus
  dsimp only
  rw [gb_and]
  refine xs_clo (gb_landlt m hd) hA hB (fun g' => ?_)
  refine ys_sur hd hm ht hA hB (fun p' => ?_)
  exact ⟨rfl, n, d, m, A, B, g', th, p', rfl, rfl, hn, hn6, hd, hm, hA, hB, ht⟩
end
