section
/-! rows of kit/rows (pasted) -/
theorem pk_us {f : Nat → Int32} {k : Nat} {x : Int32} : upd f k x k = x := if_pos rfl
theorem pk_un {f : Nat → Int32} {k j : Nat} {x : Int32} (h : j ≠ k) : upd f k x j = f j := if_neg h
theorem pk_sub {a b : Nat} (h : b ≤ a) : nI a - nI b = nI (a - b) := by
  obtain ⟨c, rfl⟩ : ∃ c, a = c + b := ⟨a - b, by omega⟩
  rw [← nI_add, Int32.add_sub_cancel, Nat.add_sub_cancel]
theorem pk_m1 (n : Nat) : nI (n + 1) + (-1) = nI n := by
  rw [← nI_1, Int32.add_assoc, show (1 : Int32) + (-1) = 0 from rfl, Int32.add_zero]
theorem pk_ix (x : Int32) {n : Nat} (hn : n < 2 ^ 31) : x < 0 ∨ nI n ≤ x ∨ ∃ j : Nat, j < n ∧ x = nI j := by
  by_cases h : x < 0
  · exact Or.inl h
  · obtain ⟨j, hj, rfl⟩ := nI_of h
    by_cases h2 : j < n
    · exact Or.inr (Or.inr ⟨j, h2, rfl⟩)
    · exact Or.inr (Or.inl (nI_le (by omega) hj))
theorem pk_le {x y : Int32} {A B : Prop} (a b : Nat) (f : a ≤ b → A) (g : b < a → B) (hx : x = nI a := by rfl) (hy : y = nI b := by rfl) (ha : a < 2 ^ 31 := by omega) (hb : b < 2 ^ 31 := by omega) : (x ≤ y → A) ∧ (¬ x ≤ y → B) := by
  subst hx hy
  rw [nI_leI ha hb]
  exact ⟨f, fun z => g (by omega)⟩
theorem pk_lt {x y : Int32} {A B : Prop} (a b : Nat) (f : a < b → A) (g : b ≤ a → B) (hx : x = nI a := by rfl) (hy : y = nI b := by rfl) (ha : a < 2 ^ 31 := by omega) (hb : b < 2 ^ 31 := by omega) : (x < y → A) ∧ (¬ x < y → B) := by
  subst hx hy
  rw [nI_ltI ha hb]
  exact ⟨f, fun z => g (by omega)⟩
theorem pk_eq {x y : Int32} {A B : Prop} (a b : Nat) (f : a = b → A) (g : a ≠ b → B) (hx : x = nI a := by rfl) (hy : y = nI b := by rfl) (ha : a < 2 ^ 31 := by omega) (hb : b < 2 ^ 31 := by omega) : (x = y → A) ∧ (¬ x = y → B) := by
  subst hx hy
  rw [nI_eq ha hb]
  exact ⟨f, g⟩
theorem pk_in {x : Int32} (n N : Nat) (h : n < N) (hx : x = nI n := by rfl) (hN : N < 2 ^ 31 := by omega) : vp_in x N := by
  subst hx
  exact vp_in_nI h hN
theorem pk_cl {x : Int32} (n : Nat) (hx : x = nI n := by rfl) (h : n < 2 ^ 31 := by omega) : x.toNatClampNeg = n := by
  subst hx
  exact nI_clamp h
theorem pk_tn {n : Nat} (h : n < 2 ^ 32) : (nI n).toBitVec.toNat = n := Nat.mod_eq_of_lt h
theorem pk_and (x : Int32) {m : Int32} (k : Nat) (hm : m.toBitVec.toNat = 2 ^ k - 1) : x &&& m = nI (x.toBitVec.toNat % 2 ^ k) := by
  apply Int32.toBitVec_inj.mp
  apply BitVec.eq_of_toNat_eq
  rw [Int32.toBitVec_and, BitVec.toNat_and, hm, Nat.and_two_pow_sub_one_eq_mod]
  show _ = (BitVec.ofNat 32 _).toNat
  rw [BitVec.toNat_ofNat]
  exact (Nat.mod_eq_of_lt (Nat.lt_of_le_of_lt (Nat.mod_le _ _) x.toBitVec.isLt)).symm
theorem pk_andN {n : Nat} (h : n < 2 ^ 32) {m : Int32} (k : Nat) (hm : m.toBitVec.toNat = 2 ^ k - 1) : nI n &&& m = nI (n % 2 ^ k) := by
  rw [pk_and _ k hm, pk_tn h]
theorem pk_shl (a s : Int32) (k : Nat) (hs : (s.toBitVec.smod 32).toNat = k) : (a <<< s).toBitVec.toNat = a.toBitVec.toNat * 2 ^ k % 2 ^ 32 := by
  show (a.toBitVec <<< (s.toBitVec.smod 32).toNat).toNat = _
  rw [hs, BitVec.toNat_shiftLeft, Nat.shiftLeft_eq]
theorem pk_shlN {n : Nat} (s : Int32) (k : Nat) (hs : (s.toBitVec.smod 32).toNat = k) (h : n * 2 ^ k < 2 ^ 32) : nI n <<< s = nI (n * 2 ^ k) := by
  apply Int32.toBitVec_inj.mp
  apply BitVec.eq_of_toNat_eq
  have hn : n < 2 ^ 32 := Nat.lt_of_le_of_lt (Nat.le_mul_of_pos_right n (Nat.two_pow_pos k)) h
  rw [pk_shl _ _ k hs, pk_tn hn, pk_tn h, Nat.mod_eq_of_lt h]
theorem pk_shr (a s : Int32) (k : Nat) (hs : (s.toBitVec.smod 32).toNat = k) : (a >>> s).toInt = a.toInt >>> k := by
  show (a.toBitVec.sshiftRight (s.toBitVec.smod 32).toNat).toInt = _
  rw [hs, BitVec.toInt_sshiftRight]
  rfl
theorem pk_shrN {n : Nat} (h : n < 2 ^ 31) (s : Int32) (k : Nat) (hs : (s.toBitVec.smod 32).toNat = k) : nI n >>> s = nI (n / 2 ^ k) := by
  apply Int32.toInt_inj.mp
  have h2 : n / 2 ^ k ≤ n := Nat.div_le_self _ _
  rw [pk_shr _ _ k hs, nI_toInt h, nI_toInt (by omega), Int.shiftRight_eq_div_pow]
  rfl
theorem s_l : ∀ n, n < 32 → ((nI n &&& 31).toBitVec.smod 32).toNat = n := by decide +kernel
end
section
/-! ===== counting below n ===== -/
def gf_c (f : Nat → Bool) : Nat → Nat
  | 0 => 0
  | n + 1 => gf_c f n + (if f n = true then 1 else 0)
theorem gf_cs (f : Nat → Bool) (n : Nat) : gf_c f (n + 1) = gf_c f n + (if f n = true then 1 else 0) := rfl
theorem gf_ct {f : Nat → Bool} {n : Nat} (h : f n = true) : gf_c f (n + 1) = gf_c f n + 1 := by rw [gf_cs, if_pos h]
theorem gf_cf {f : Nat → Bool} {n : Nat} (h : ¬ f n = true) : gf_c f (n + 1) = gf_c f n := by rw [gf_cs, if_neg h]
theorem gf_cle (f : Nat → Bool) : ∀ n, gf_c f n ≤ n := by
  intro n
  induction n with
  | zero => exact Nat.le_refl 0
  | succ n ih =>
    by_cases h : f n = true
    · rw [gf_ct h]; omega
    · rw [gf_cf h]; omega
theorem gf_ceq {f g : Nat → Bool} : ∀ n, (∀ p, p < n → f p = g p) → gf_c f n = gf_c g n := by
  intro n
  induction n with
  | zero => intro _; rfl
  | succ n ih =>
    intro h
    rw [gf_cs, gf_cs, ih (fun p hp => h p (by omega)), h n (by omega)]
theorem gf_cmono {f g : Nat → Bool} : ∀ n, (∀ p, p < n → f p = true → g p = true) → gf_c f n ≤ gf_c g n := by
  intro n
  induction n with
  | zero => intro _; exact Nat.le_refl 0
  | succ n ih =>
    intro h
    have h1 := ih (fun p hp => h p (by omega))
    by_cases a : f n = true
    · rw [gf_ct a, gf_ct (h n (by omega) a)]; omega
    · rw [gf_cf a]
      by_cases b : g n = true
      · rw [gf_ct b]; omega
      · rw [gf_cf b]; exact h1
theorem gf_cone {f g : Nat → Bool} {m : Nat} (hf : f m = true) (hg : g m = false) : ∀ n, (∀ p, p < n → p ≠ m → f p = g p) → m < n → gf_c f n = gf_c g n + 1 := by
  intro n
  induction n with
  | zero => intro _ h; omega
  | succ n ih =>
    intro h hm
    by_cases e : m = n
    · subst e
      have h1 : gf_c f m = gf_c g m := gf_ceq m (fun p hp => h p (by omega) (by omega))
      rw [gf_ct hf, gf_cf (by rw [hg]; decide), h1]
    · have h1 := ih (fun p hp => h p (by omega)) (by omega)
      have h2 := h n (by omega) (fun z => e z.symm)
      rw [gf_cs, gf_cs, h1, h2]
      omega
theorem gf_least (P : Nat → Prop) (h : ∃ k, P k) : ∃ k, P k ∧ ∀ j, j < k → ¬ P j := by
  obtain ⟨k, hk⟩ := h
  induction k using Nat.strongRecOn with
  | ind k ih =>
    by_cases e : ∃ j, j < k ∧ P j
    · obtain ⟨j, hj, pj⟩ := e
      exact ih j hj pj
    · exact ⟨k, hk, fun j hj pj => e ⟨j, hj, pj⟩⟩
/-! ===== labels of points; a merge gives b's label's bearers a's label ===== -/
def gf_m (G : Nat → Int32) (a b : Nat) : Nat → Int32 := fun p => if G p = G b then G a else G p
def gf_g (F T : Nat → Nat) (S : Nat → Bool) : Nat → Nat → Int32
  | 0 => fun p => nI p
  | k + 1 => if S k = true then gf_m (gf_g F T S k) (F k) (T k) else gf_g F T S k
def gf_z (F T : Nat → Nat) (S : Nat → Bool) (k : Nat) : Bool := S k && decide (gf_g F T S k (F k) = gf_g F T S k (T k))
def gf_r (G : Nat → Int32) (p : Nat) : Bool := decide (∀ q, q < p → G q ≠ G p)
theorem gf_gt {F T : Nat → Nat} {S : Nat → Bool} {k : Nat} (h : S k = true) : gf_g F T S (k + 1) = gf_m (gf_g F T S k) (F k) (T k) := if_pos h
theorem gf_gf {F T : Nat → Nat} {S : Nat → Bool} {k : Nat} (h : ¬ S k = true) : gf_g F T S (k + 1) = gf_g F T S k := if_neg h
theorem gf_key0 (x y s t : Int32) : ((if x = t then s else x) = (if y = t then s else y)) ↔ (x = y ∨ (x = s ∧ y = t) ∨ (x = t ∧ y = s)) := by
  by_cases h1 : x = t
  · by_cases h2 : y = t
    · rw [if_pos h1, if_pos h2]
      exact ⟨fun _ => Or.inl (h1.trans h2.symm), fun _ => rfl⟩
    · rw [if_pos h1, if_neg h2]
      constructor
      · intro e; exact Or.inr (Or.inr ⟨h1, e.symm⟩)
      · intro e
        rcases e with e | ⟨_, e⟩ | ⟨_, e⟩
        · exact absurd (e.symm.trans h1) h2
        · exact absurd e h2
        · exact e.symm
  · by_cases h2 : y = t
    · rw [if_neg h1, if_pos h2]
      constructor
      · intro e; exact Or.inr (Or.inl ⟨e, h2⟩)
      · intro e
        rcases e with e | ⟨e, _⟩ | ⟨e, _⟩
        · exact absurd (e.trans h2) h1
        · exact e
        · exact absurd e h1
    · rw [if_neg h1, if_neg h2]
      constructor
      · intro e; exact Or.inl e
      · intro e
        rcases e with e | ⟨_, e⟩ | ⟨e, _⟩
        · exact e
        · exact absurd e h2
        · exact absurd e h1
theorem gf_key (G : Nat → Int32) (a b q p : Nat) : gf_m G a b q = gf_m G a b p ↔ (G q = G p ∨ (G q = G a ∧ G p = G b) ∨ (G q = G b ∧ G p = G a)) := gf_key0 (G q) (G p) (G a) (G b)
theorem gf_mid {G : Nat → Int32} {a b : Nat} (h : G a = G b) : gf_m G a b = G := by
  funext p
  show (if G p = G b then G a else G p) = G p
  by_cases e : G p = G b
  · rw [if_pos e, h, e]
  · rw [if_neg e]
/-! a merge of two labels takes one part away -/
theorem gf_merge {G : Nat → Int32} {a b : Nat} (ha : a < 6) (hb : b < 6) (hab : ¬ G a = G b) : gf_c (gf_r G) 6 = gf_c (gf_r (gf_m G a b)) 6 + 1 := by
  obtain ⟨x, hx, mx⟩ := gf_least (fun p => G p = G a) ⟨a, rfl⟩
  obtain ⟨y, hy, my⟩ := gf_least (fun p => G p = G b) ⟨b, rfl⟩
  dsimp only at hx hy mx my
  have xa : x ≤ a := Nat.le_of_not_lt (fun z => mx a z rfl)
  have yb : y ≤ b := Nat.le_of_not_lt (fun z => my b z rfl)
  have hxy : x ≠ y := by
    intro e
    rw [e] at hx
    exact hab (hx.symm.trans hy)
  have key := gf_key G a b
  have main : ∀ m, (m = x ∨ m = y) → x ≤ m → y ≤ m → gf_c (gf_r G) 6 = gf_c (gf_r (gf_m G a b)) 6 + 1 := by
    intro m hm xm ym
    have h1 : gf_r G m = true := by
      unfold gf_r
      rw [decide_eq_true_eq]
      intro q hq e
      rcases hm with hm | hm
      · rw [hm] at hq e
        exact mx q hq (e.trans hx)
      · rw [hm] at hq e
        exact my q hq (e.trans hy)
    have h2 : gf_r (gf_m G a b) m = false := by
      unfold gf_r
      rw [decide_eq_false_iff_not]
      intro h
      rcases hm with hm | hm
      · rw [hm] at h
        exact h y (by omega) ((key y x).mpr (Or.inr (Or.inr ⟨hy, hx⟩)))
      · rw [hm] at h
        exact h x (by omega) ((key x y).mpr (Or.inr (Or.inl ⟨hx, hy⟩)))
    have h3 : ∀ p, p < 6 → p ≠ m → gf_r G p = gf_r (gf_m G a b) p := by
      intro p hp hpm
      unfold gf_r
      apply decide_eq_decide.mpr
      constructor
      · intro h q hq e
        rcases (key q p).mp e with e | ⟨e1, e2⟩ | ⟨e1, e2⟩
        · exact h q hq e
        · have g1 : x ≤ q := Nat.le_of_not_lt (fun z => mx q z e1)
          have g2 : y ≤ p := Nat.le_of_not_lt (fun z => my p z e2)
          have g3 : ¬ y < p := fun z => h y z (hy.trans e2.symm)
          omega
        · have g1 : y ≤ q := Nat.le_of_not_lt (fun z => my q z e1)
          have g2 : x ≤ p := Nat.le_of_not_lt (fun z => mx p z e2)
          have g3 : ¬ x < p := fun z => h x z (hx.trans e2.symm)
          omega
      · intro h q hq e
        exact h q hq ((key q p).mpr (Or.inl e))
    exact gf_cone h1 h2 6 h3 (by omega)
  rcases Nat.lt_or_ge x y with h | h
  · exact main y (Or.inr rfl) (by omega) (by omega)
  · exact main x (Or.inl rfl) (by omega) (by omega)
theorem gf_six : gf_c (gf_r (fun p => nI p)) 6 = 6 := by decide +kernel
/-! lines laid = points joined + lines that close -/
theorem gf_rank (F T : Nat → Nat) (S : Nat → Bool) (hF : ∀ k, k < 10 → F k < 6) (hT : ∀ k, k < 10 → T k < 6) : ∀ k, k ≤ 10 → gf_c S k + gf_c (gf_r (gf_g F T S k)) 6 = 6 + gf_c (gf_z F T S) k := by
  intro k
  induction k with
  | zero => intro _; exact (Nat.zero_add _).trans gf_six
  | succ k ih =>
    intro hk
    have h := ih (by omega)
    by_cases s : S k = true
    · rw [gf_ct s, gf_gt s]
      by_cases e : gf_g F T S k (F k) = gf_g F T S k (T k)
      · rw [gf_mid e, gf_ct (f := gf_z F T S) (by unfold gf_z; rw [s, decide_eq_true e]; rfl)]
        omega
      · have h2 := gf_merge (hF k (by omega)) (hT k (by omega)) e
        rw [gf_cf (f := gf_z F T S) (by unfold gf_z; rw [decide_eq_false e, Bool.and_false]; decide)]
        omega
    · rw [gf_cf s, gf_gf s, gf_cf (f := gf_z F T S) (by unfold gf_z; rw [Bool.eq_false_iff.mpr s, Bool.false_and]; decide)]
      exact h
/-! the labels are the least that join the ends of every line laid -/
theorem gf_min {F T : Nat → Nat} {S : Nat → Bool} {H : Nat → Int32} (hF : ∀ k, k < 10 → F k < 6) (hT : ∀ k, k < 10 → T k < 6) : ∀ n, n ≤ 10 → (∀ k, k < n → S k = true → H (F k) = H (T k)) → ∀ p q, p < 6 → q < 6 → gf_g F T S n p = gf_g F T S n q → H p = H q := by
  intro n
  induction n with
  | zero =>
    intro _ _ p q hp hq e
    have e2 : nI p = nI q := e
    rw [nI_eq (by omega) (by omega)] at e2
    rw [e2]
  | succ n ih =>
    intro hn h p q hp hq e
    have ih1 := ih (by omega) (fun k hk => h k (by omega))
    by_cases s : S n = true
    · rw [gf_gt s] at e
      have hF1 := hF n (by omega)
      have hT1 := hT n (by omega)
      have hj := h n (by omega) s
      rcases (gf_key _ _ _ _ _).mp e with e | ⟨e1, e2⟩ | ⟨e1, e2⟩
      · exact ih1 p q hp hq e
      · exact (ih1 p _ hp hF1 e1).trans (hj.trans (ih1 q _ hq hT1 e2).symm)
      · exact (ih1 p _ hp hT1 e1).trans (hj.symm.trans (ih1 q _ hq hF1 e2).symm)
    · rw [gf_gf s] at e
      exact ih1 p q hp hq e
theorem gf_join {F T : Nat → Nat} {S : Nat → Bool} : ∀ n k, k < n → S k = true → gf_g F T S n (F k) = gf_g F T S n (T k) := by
  intro n
  induction n with
  | zero => intro k hk; omega
  | succ n ih =>
    intro k hk s
    by_cases e : k = n
    · rw [e] at s ⊢
      rw [gf_gt s]
      exact (gf_key _ _ _ _ _).mpr (Or.inr (Or.inl ⟨rfl, rfl⟩))
    · have h := ih k (by omega) s
      by_cases sn : S n = true
      · rw [gf_gt sn]
        exact (gf_key _ _ _ _ _).mpr (Or.inl h)
      · rw [gf_gf sn]
        exact h
/-! a set within another joins no more -/
theorem gf_sub {F T : Nat → Nat} {A B : Nat → Bool} (hF : ∀ k, k < 10 → F k < 6) (hT : ∀ k, k < 10 → T k < 6) (h : ∀ k, k < 10 → A k = true → B k = true) : gf_c A 10 + gf_c (gf_z F T B) 10 ≤ gf_c B 10 + gf_c (gf_z F T A) 10 := by
  have rA := gf_rank F T A hF hT 10 (by omega)
  have rB := gf_rank F T B hF hT 10 (by omega)
  have hm : gf_c (gf_r (gf_g F T B 10)) 6 ≤ gf_c (gf_r (gf_g F T A 10)) 6 := by
    apply gf_cmono 6
    intro p hp hr
    unfold gf_r at hr ⊢
    rw [decide_eq_true_eq] at hr ⊢
    intro q hq e
    exact hr q hq (gf_min hF hT 10 (by omega) (fun k hk s => gf_join 10 k hk (h k hk s)) q p (by omega) hp e)
  omega
/-! the lines that joined something close no ring and are as many as can be -/
def gf_k (F T : Nat → Nat) (B : Nat → Bool) (k : Nat) : Bool := B k && !(gf_z F T B k)
theorem gf_kg (F T : Nat → Nat) (B : Nat → Bool) : ∀ k, gf_g F T (gf_k F T B) k = gf_g F T B k := by
  intro k
  induction k with
  | zero => rfl
  | succ k ih =>
    by_cases s : B k = true
    · by_cases e : gf_g F T B k (F k) = gf_g F T B k (T k)
      · have hz : gf_z F T B k = true := by unfold gf_z; rw [s, decide_eq_true e]; rfl
        have hk : ¬ gf_k F T B k = true := by unfold gf_k; rw [hz, s]; decide
        rw [gf_gf hk, gf_gt s, gf_mid e, ih]
      · have hz : gf_z F T B k = false := by unfold gf_z; rw [decide_eq_false e, Bool.and_false]
        have hk : gf_k F T B k = true := by unfold gf_k; rw [hz, s]; rfl
        rw [gf_gt hk, gf_gt s, ih]
    · have hk : ¬ gf_k F T B k = true := by unfold gf_k; rw [Bool.eq_false_iff.mpr s, Bool.false_and]; decide
      rw [gf_gf hk, gf_gf s, ih]
theorem gf_kz (F T : Nat → Nat) (B : Nat → Bool) (k : Nat) : gf_z F T (gf_k F T B) k = false := by
  unfold gf_z
  rw [gf_kg]
  by_cases e : gf_g F T B k (F k) = gf_g F T B k (T k)
  · by_cases s : B k = true
    · have hz : gf_z F T B k = true := by unfold gf_z; rw [s, decide_eq_true e]; rfl
      have hk : gf_k F T B k = false := by unfold gf_k; rw [hz, s]; rfl
      rw [hk, Bool.false_and]
    · have hk : gf_k F T B k = false := by unfold gf_k; rw [Bool.eq_false_iff.mpr s, Bool.false_and]
      rw [hk, Bool.false_and]
  · rw [decide_eq_false e, Bool.and_false]
theorem gf_c0 {f : Nat → Bool} : ∀ n, gf_c f n = 0 ↔ ∀ k, k < n → f k = false := by
  intro n
  induction n with
  | zero => exact ⟨fun _ k hk => absurd hk (by omega), fun _ => rfl⟩
  | succ n ih =>
    constructor
    · intro h k hk
      by_cases a : f n = true
      · rw [gf_ct a] at h; omega
      · rw [gf_cf a] at h
        by_cases e : k = n
        · rw [e]; exact Bool.eq_false_iff.mpr a
        · exact ih.mp h k (by omega)
    · intro h
      have a := h n (by omega)
      rw [gf_cf (by rw [a]; decide)]
      exact ih.mpr (fun k hk => h k (by omega))
theorem gf_kc (F T : Nat → Nat) (B : Nat → Bool) (hF : ∀ k, k < 10 → F k < 6) (hT : ∀ k, k < 10 → T k < 6) : gf_c (gf_k F T B) 10 + gf_c (gf_z F T B) 10 = gf_c B 10 := by
  have rA := gf_rank F T (gf_k F T B) hF hT 10 (by omega)
  have rB := gf_rank F T B hF hT 10 (by omega)
  have hz : gf_c (gf_z F T (gf_k F T B)) 10 = 0 := (gf_c0 10).mpr (fun k _ => gf_kz F T B k)
  rw [gf_kg] at rA
  omega
theorem gf_kb (F T : Nat → Nat) (B : Nat → Bool) (k : Nat) (h : gf_k F T B k = true) : B k = true := by
  unfold gf_k at h
  rw [Bool.and_eq_true] at h
  exact h.1
/-! labels depend on the lines below alone -/
theorem gf_gc {F T : Nat → Nat} {A B : Nat → Bool} : ∀ n, (∀ k, k < n → A k = B k) → gf_g F T A n = gf_g F T B n := by
  intro n
  induction n with
  | zero => intro _; rfl
  | succ n ih =>
    intro h
    have h1 := ih (fun k hk => h k (by omega))
    have h2 := h n (by omega)
    show (if A n = true then gf_m (gf_g F T A n) (F n) (T n) else gf_g F T A n) = (if B n = true then gf_m (gf_g F T B n) (F n) (T n) else gf_g F T B n)
    rw [h1, h2]
theorem gf_zc {F T : Nat → Nat} {A B : Nat → Bool} (n : Nat) (h : ∀ k, k < n → A k = B k) : gf_c (gf_z F T A) n = gf_c (gf_z F T B) n := by
  apply gf_ceq
  intro p hp
  unfold gf_z
  rw [gf_gc p (fun k hk => h k (by omega)), h p hp]
end
section
/-! ===== sets of lines as numbers below 1024 ===== -/
theorem gb_or (a b : Nat) : nI a ||| nI b = nI (a ||| b) := by
  apply Int32.toBitVec_inj.1
  show BitVec.ofNat 32 a ||| BitVec.ofNat 32 b = BitVec.ofNat 32 (a ||| b)
  apply BitVec.eq_of_getLsbD_eq
  intro i hi
  simp [hi]
theorem gb_and (a b : Nat) : nI a &&& nI b = nI (a &&& b) := by
  apply Int32.toBitVec_inj.1
  show BitVec.ofNat 32 a &&& BitVec.ofNat 32 b = BitVec.ofNat 32 (a &&& b)
  apply BitVec.eq_of_getLsbD_eq
  intro i hi
  simp [hi]
theorem gb_xor (a b : Nat) : nI a ^^^ nI b = nI (a ^^^ b) := by
  apply Int32.toBitVec_inj.1
  show BitVec.ofNat 32 a ^^^ BitVec.ofNat 32 b = BitVec.ofNat 32 (a ^^^ b)
  apply BitVec.eq_of_getLsbD_eq
  intro i hi
  simp [hi]
theorem gb_no (a b : Nat) : nI a &&& (nI b ^^^ (-1)) = nI (a ^^^ (a &&& b)) := by
  apply Int32.toBitVec_inj.1
  have e : (-1 : Int32).toBitVec = BitVec.allOnes 32 := by decide
  show BitVec.ofNat 32 a &&& (BitVec.ofNat 32 b ^^^ (-1 : Int32).toBitVec) = BitVec.ofNat 32 (a ^^^ (a &&& b))
  rw [e]
  apply BitVec.eq_of_getLsbD_eq
  intro i hi
  simp [hi]
  cases a.testBit i <;> cases b.testBit i <;> rfl
theorem gb_bit {s k : Nat} (hs : s < 1024) (hk : k < 10) : (nI s >>> (nI k &&& 31)) &&& 1 = nI (if s.testBit k = true then 1 else 0) := by
  have e : s.testBit k = decide (s / 2 ^ k % 2 = 1) := Nat.testBit_eq_decide_div_mod_eq
  have hd : s / 2 ^ k ≤ s := Nat.div_le_self _ _
  rw [pk_shrN (by omega) _ k (s_l k (by omega)), pk_andN (m := 1) (by omega) 1 (by decide), e]
  generalize s / 2 ^ k = z
  by_cases h : z % 2 = 1
  · rw [if_pos (decide_eq_true h)]
    show nI (z % 2) = _
    rw [h]
  · rw [if_neg (by rw [decide_eq_true_eq]; exact h)]
    show nI (z % 2) = _
    rw [show z % 2 = 0 by omega]
theorem gb_b1 {s k : Nat} (hs : s < 1024) (hk : k < 10) : (nI s >>> (nI k &&& 31)) &&& 1 = 1 ↔ s.testBit k = true := by
  rw [gb_bit hs hk]
  by_cases h : s.testBit k = true
  · rw [if_pos h]
    exact ⟨fun _ => h, fun _ => rfl⟩
  · rw [if_neg h]
    exact ⟨fun z => absurd z (by decide), fun z => absurd z h⟩
theorem gb_sh : ∀ k, k < 10 → (1 : Int32) <<< (nI k &&& 31) = nI (2 ^ k) := by decide +kernel
theorem gb_p2 : ∀ k, k < 10 → 2 ^ k < 1024 := by decide +kernel
theorem gb_big {a i : Nat} (ha : a < 1024) (hi : 10 ≤ i) : a.testBit i = false := by
  apply Nat.testBit_lt_two_pow
  exact Nat.lt_of_lt_of_le (show a < 2 ^ 10 from ha) (Nat.pow_le_pow_right (by decide) hi)
theorem gb_ext {a b : Nat} (ha : a < 1024) (hb : b < 1024) (h : ∀ k, k < 10 → a.testBit k = b.testBit k) : a = b := by
  apply Nat.eq_of_testBit_eq
  intro i
  rcases Nat.lt_or_ge i 10 with hi | hi
  · exact h i hi
  · rw [gb_big ha hi, gb_big hb hi]
theorem gb_landlt (a : Nat) {b : Nat} (hb : b < 1024) : a &&& b < 1024 := Nat.and_lt_two_pow a (n := 10) hb
theorem gb_lorlt {a b : Nat} (ha : a < 1024) (hb : b < 1024) : a ||| b < 1024 := Nat.or_lt_two_pow (n := 10) ha hb
theorem gb_lxorlt {a b : Nat} (ha : a < 1024) (hb : b < 1024) : a ^^^ b < 1024 := Nat.xor_lt_two_pow (n := 10) ha hb
theorem gb_sub {s d : Nat} (hs : s < 1024) : s &&& d = s ↔ ∀ k, k < 10 → s.testBit k = true → d.testBit k = true := by
  constructor
  · intro e k hk h
    rw [← e, Nat.testBit_and, Bool.and_eq_true] at h
    exact h.2
  · intro h
    apply Nat.eq_of_testBit_eq
    intro i
    rw [Nat.testBit_and]
    rcases Nat.lt_or_ge i 10 with hi | hi
    · cases e : s.testBit i
      · rfl
      · rw [h i hi e]; rfl
    · rw [gb_big hs hi]; rfl
theorem gb_x0 {a b : Nat} : a ^^^ (a &&& b) = 0 ↔ a &&& b = a := by
  constructor
  · intro e
    apply Nat.eq_of_testBit_eq
    intro i
    have h : (a ^^^ (a &&& b)).testBit i = false := by rw [e]; exact Nat.zero_testBit i
    rw [Nat.testBit_xor, Nat.testBit_and] at h
    rw [Nat.testBit_and]
    revert h
    cases a.testBit i <;> cases b.testBit i <;> decide
  · intro e
    rw [e, Nat.xor_self]
theorem gb_mk (A : Nat → Bool) : ∀ n, ∃ s, s < 2 ^ n ∧ ∀ k, k < n → s.testBit k = A k := by
  intro n
  induction n with
  | zero => exact ⟨0, by decide, fun k hk => absurd hk (by omega)⟩
  | succ n ih =>
    obtain ⟨s, hs, h⟩ := ih
    have h2 : s < 2 ^ (n + 1) := Nat.lt_of_lt_of_le hs (Nat.pow_le_pow_right (by decide) (by omega))
    by_cases a : A n = true
    · refine ⟨s ||| 2 ^ n, Nat.or_lt_two_pow h2 (Nat.pow_lt_pow_right (by decide) (by omega)), ?_⟩
      intro k hk
      rw [Nat.testBit_or, Nat.testBit_two_pow]
      by_cases e : k = n
      · rw [e, a, decide_eq_true (rfl : n = n), Bool.or_true]
      · rw [h k (by omega), decide_eq_false (fun z => e z.symm), Bool.or_false]
    · refine ⟨s, h2, ?_⟩
      intro k hk
      by_cases e : k = n
      · rw [e, Nat.testBit_lt_two_pow hs, Bool.eq_false_iff.mpr a]
      · exact h k (by omega)
/-! set bit, clear bit -/
theorem gb_set {d k i : Nat} : (d ||| 2 ^ k).testBit i = (d.testBit i || decide (k = i)) := by
  rw [Nat.testBit_or, Nat.testBit_two_pow]
theorem gb_clr {d k i : Nat} : (d ^^^ (d &&& 2 ^ k)).testBit i = (d.testBit i && !(decide (k = i))) := by
  rw [Nat.testBit_xor, Nat.testBit_and, Nat.testBit_two_pow]
  cases d.testBit i <;> cases decide (k = i) <;> rfl
/-! ===== what a tree is, for both sides ===== -/
def gt_b (b : Bool) : Int32 := if b = true then 1 else 0
theorem gt_bt : gt_b true = 1 := rfl
theorem gt_bf : gt_b false = 0 := rfl
/-- all lines of s are there and close no ring -/
def gt_q (d : Nat) (F T : Nat → Nat) (s : Nat) : Bool := decide (s &&& d = s) && decide (gf_c (gf_z F T s.testBit) 10 = 0)
def gt_t (n d : Nat) (F T : Nat → Nat) (s : Nat) : Bool := decide (gf_c s.testBit 10 = n - 1) && gt_q d F T s
/-- what a line must be for Y's look -/
def gt_ok (d : Nat) (F T : Nat → Nat) (s k : Nat) : Prop := s.testBit k = true → d.testBit k = true ∧ ¬ gf_g F T s.testBit k (F k) = gf_g F T s.testBit k (T k)
theorem gt_qt {d : Nat} {F T : Nat → Nat} {s : Nat} (hs : s < 1024) : gt_q d F T s = true ↔ ∀ k, k < 10 → gt_ok d F T s k := by
  unfold gt_q gt_ok
  rw [Bool.and_eq_true, decide_eq_true_eq, decide_eq_true_eq, gb_sub hs, gf_c0]
  constructor
  · intro h k hk hb
    refine ⟨h.1 k hk hb, fun e => ?_⟩
    have h2 := h.2 k hk
    unfold gf_z at h2
    rw [hb, decide_eq_true e] at h2
    exact absurd h2 (by decide)
  · intro h
    refine ⟨fun k hk hb => (h k hk hb).1, fun k hk => ?_⟩
    unfold gf_z
    cases hb : s.testBit k
    · rfl
    · rw [decide_eq_false (h k hk hb).2]; rfl
theorem gt_qf {d : Nat} {F T : Nat → Nat} {s k : Nat} (hs : s < 1024) (hk : k < 10) (h : ¬ gt_ok d F T s k) : gt_q d F T s = false := by
  apply Bool.eq_false_iff.mpr
  intro e
  exact h ((gt_qt hs).mp e k hk)
/-! ===== the surplus: Y's least is X's closing lines ===== -/
/-- a kept set takes away at least the closing lines -/
theorem gt_ge {d : Nat} {F T : Nat → Nat} {B s : Nat} (hF : ∀ k, k < 10 → F k < 6) (hT : ∀ k, k < 10 → T k < 6) (hs : s < 1024) (h1 : s &&& B = s) (h2 : gt_q d F T s = true) : gf_c s.testBit 10 ≤ gf_c B.testBit 10 ∧ gf_c (gf_z F T B.testBit) 10 ≤ gf_c B.testBit 10 - gf_c s.testBit 10 := by
  have h3 := (gb_sub hs).mp h1
  have h4 := gf_sub (A := s.testBit) (B := B.testBit) hF hT h3
  have h5 : gf_c (gf_z F T s.testBit) 10 = 0 := by
    unfold gt_q at h2
    rw [Bool.and_eq_true, decide_eq_true_eq, decide_eq_true_eq] at h2
    exact h2.2
  have h6 := gf_cmono 10 h3
  omega
/-- and one takes away just these -/
theorem gt_ex {d : Nat} {F T : Nat → Nat} {B : Nat} (hF : ∀ k, k < 10 → F k < 6) (hT : ∀ k, k < 10 → T k < 6) (hB : B &&& d = B) (hB2 : B < 1024) : ∃ s, s < 1024 ∧ s &&& B = s ∧ gt_q d F T s = true ∧ gf_c B.testBit 10 - gf_c s.testBit 10 = gf_c (gf_z F T B.testBit) 10 := by
  obtain ⟨s, hs, h⟩ := gb_mk (gf_k F T B.testBit) 10
  have hs2 : s < 1024 := hs
  have h1 : s &&& B = s := by
    rw [gb_sub hs2]
    intro k hk e
    rw [h k hk] at e
    exact gf_kb F T B.testBit k e
  have h2 : gf_c s.testBit 10 = gf_c (gf_k F T B.testBit) 10 := gf_ceq 10 h
  have h3 : gf_c (gf_z F T s.testBit) 10 = 0 := by
    rw [gf_zc 10 h]
    exact (gf_c0 10).mpr (fun k _ => gf_kz F T B.testBit k)
  have h4 := gf_kc F T B.testBit hF hT
  have h5 : s &&& d = s := by
    rw [gb_sub hs2]
    intro k hk e
    exact (gb_sub hB2).mp hB k hk ((gb_sub hs2).mp h1 k hk e)
  refine ⟨s, hs2, h1, ?_, by omega⟩
  unfold gt_q
  rw [h5, h3]
  simp
/-! the search for the rank-th tree -/
def gt_f (t : Nat → Bool) (r : Int32) : Nat → Nat → Nat → Int32
  | 0, _, _ => -1
  | j + 1, s, c => if t s = true then (if nI c = r then nI s else gt_f t r j (s + 1) (c + 1)) else gt_f t r j (s + 1) c
/-- the trees that have all of nd -/
def gt_h (n d : Nat) (F T : Nat → Nat) (nd s : Nat) : Bool := decide (s &&& nd = nd) && gt_t n d F T s
theorem gt_ff {t : Nat → Bool} {r : Int32} {j s c : Nat} (h : t s = false) : gt_f t r (j + 1) s c = gt_f t r j (s + 1) c := by
  show (if t s = true then (if nI c = r then nI s else gt_f t r j (s + 1) (c + 1)) else gt_f t r j (s + 1) c) = _
  rw [if_neg (by rw [h]; decide)]
theorem gt_fh {t : Nat → Bool} {r : Int32} {j s c : Nat} (h : t s = true) (e : nI c = r) : gt_f t r (j + 1) s c = nI s := by
  show (if t s = true then (if nI c = r then nI s else gt_f t r j (s + 1) (c + 1)) else gt_f t r j (s + 1) c) = _
  rw [if_pos h, if_pos e]
theorem gt_fn {t : Nat → Bool} {r : Int32} {j s c : Nat} (h : t s = true) (e : ¬ nI c = r) : gt_f t r (j + 1) s c = gt_f t r j (s + 1) (c + 1) := by
  show (if t s = true then (if nI c = r then nI s else gt_f t r j (s + 1) (c + 1)) else gt_f t r j (s + 1) c) = _
  rw [if_pos h, if_neg e]
end
section
/-! ===== the scratch array against the labels ===== -/
def gw_ab (g G : Nat → Int32) : Prop := ∀ p, p < 6 → g p = G p
/-- the points below i set apart -/
def gw_sp (g : Nat → Int32) (i : Nat) : Nat → Int32 := fun p => if p < i then nI p else g p
/-- the points below i relabelled -/
def gw_mg (g : Nat → Int32) (kp gn : Int32) (i : Nat) : Nat → Int32 := fun p => if p < i ∧ g p = gn then kp else g p
theorem gw_sp0 (g : Nat → Int32) : gw_sp g 0 = g := by
  funext p
  exact if_neg (Nat.not_lt_zero p)
theorem gw_sps (g : Nat → Int32) (i : Nat) : upd (gw_sp g i) i (nI i) = gw_sp g (i + 1) := by
  funext p
  show (if p = i then nI i else if p < i then nI p else g p) = (if p < i + 1 then nI p else g p)
  by_cases e : p = i
  · rw [if_pos e, if_pos (by omega), e]
  · rw [if_neg e]
    by_cases h : p < i
    · rw [if_pos h, if_pos (by omega)]
    · rw [if_neg h, if_neg (by omega)]
theorem gw_spa (g : Nat → Int32) : gw_ab (gw_sp g 6) (fun p => nI p) := fun p hp => if_pos hp
theorem gw_mg0 (g : Nat → Int32) (kp gn : Int32) : gw_mg g kp gn 0 = g := by
  funext p
  exact if_neg (fun z => Nat.not_lt_zero p z.1)
theorem gw_mgi (g : Nat → Int32) (kp gn : Int32) (i : Nat) : gw_mg g kp gn i i = g i := if_neg (fun z => Nat.lt_irrefl i z.1)
theorem gw_mgt {g : Nat → Int32} {kp gn : Int32} {i : Nat} (h : g i = gn) : upd (gw_mg g kp gn i) i kp = gw_mg g kp gn (i + 1) := by
  funext p
  show (if p = i then kp else if p < i ∧ g p = gn then kp else g p) = (if p < i + 1 ∧ g p = gn then kp else g p)
  by_cases e : p = i
  · rw [if_pos e, if_pos ⟨by omega, by rw [e]; exact h⟩]
  · rw [if_neg e]
    by_cases h2 : p < i ∧ g p = gn
    · rw [if_pos h2, if_pos ⟨by omega, h2.2⟩]
    · rw [if_neg h2, if_neg (fun z => h2 ⟨by omega, z.2⟩)]
theorem gw_mgf {g : Nat → Int32} {kp gn : Int32} {i : Nat} (h : ¬ g i = gn) : gw_mg g kp gn i = gw_mg g kp gn (i + 1) := by
  funext p
  show (if p < i ∧ g p = gn then kp else g p) = (if p < i + 1 ∧ g p = gn then kp else g p)
  by_cases e : p = i
  · rw [if_neg (fun z => absurd z.1 (by omega)), if_neg (fun z => h (by rw [← e]; exact z.2))]
  · by_cases h2 : p < i ∧ g p = gn
    · rw [if_pos h2, if_pos ⟨by omega, h2.2⟩]
    · rw [if_neg h2, if_neg (fun z => h2 ⟨by omega, z.2⟩)]
theorem gw_mga {g G : Nat → Int32} {a b : Nat} (h : gw_ab g G) (ha : a < 6) (hb : b < 6) : gw_ab (gw_mg g (g a) (g b) 6) (gf_m G a b) := by
  intro p hp
  show (if p < 6 ∧ g p = g b then g a else g p) = (if G p = G b then G a else G p)
  rw [h p hp, h a ha, h b hb]
  by_cases e : G p = G b
  · rw [if_pos ⟨hp, e⟩, if_pos e]
  · rw [if_neg (fun z => e z.2), if_neg e]
/-! ===== numbers of the walks ===== -/
theorem gn_10 : ∀ i, i < 10 → ¬ (10 : Int32) ≤ nI i := by decide +kernel
theorem gn_10e : (10 : Int32) ≤ nI 10 := by decide +kernel
theorem gn_6 : ∀ i, i < 6 → ¬ (6 : Int32) ≤ nI i := by decide +kernel
theorem gn_6e : (6 : Int32) ≤ nI 6 := by decide +kernel
theorem gn_k {s : Nat} (h : s < 1024) : ¬ (1024 : Int32) ≤ nI s := nI_ge (b := 1024) h (by decide)
theorem gn_ke : (1024 : Int32) ≤ nI 1024 := by decide +kernel
theorem gn_L {s L : Nat} (h : s < L) (hL : L ≤ 1024) : ¬ nI L ≤ nI s := nI_ge h (by omega)
theorem gn_Le (L : Nat) : nI L ≤ nI L := Int32.le_refl _
theorem gn_cl {k : Nat} (h : k < 1025) : (nI k).toNatClampNeg = k := nI_clamp (by omega)
theorem gn_cnt {s i : Nat} (hs : s < 1024) (hi : i < 10) : nI (gf_c s.testBit i) + ((nI s >>> (nI i &&& 31)) &&& 1) = nI (gf_c s.testBit (i + 1)) := by
  rw [gb_bit hs hi, nI_add, gf_cs]
/-! the ends of the lines -/
def gw_in (A : Nat → Int32) : Prop := ∀ k, k < 10 → vp_in (A k) 6
def gw_n (A : Nat → Int32) (k : Nat) : Nat := (A k).toNatClampNeg
theorem gw_nl {A : Nat → Int32} (h : gw_in A) : ∀ k, k < 10 → gw_n A k < 6 := by
  intro k hk
  obtain ⟨j, hj, e⟩ := vp_in_of (h k hk) (by omega)
  show (A k).toNatClampNeg < 6
  rw [e, nI_clamp (by omega)]
  exact hj
theorem gw_inu {A : Nat → Int32} (h : gw_in A) {k j : Nat} (hj : j < 6) : gw_in (upd A k (nI j)) := by
  intro p hp
  by_cases e : p = k
  · rw [e, pk_us]; exact vp_in_nI hj (by omega)
  · rw [pk_un e]; exact h p hp
end
section
/-! ===== the walks of the component, each with a general post ===== -/
theorem xs_siz {post : Int32 → Prop} {s : Nat} (hs : s < 1024) (h : post (nI (gf_c s.testBit 10))) : wpX_size post (nI s) := by
  have L : ∀ j i, i + j = 10 → wX_size_4 post (nI s) (j + 1) (nI (gf_c s.testBit i)) (nI i) := by
    intro j
    induction j with
    | zero =>
      intro i hi
      have e : i = 10 := by omega
      subst e
      exact br_t gn_10e h
    | succ j ih =>
      intro i hi
      exact br_f (gn_10 i (by omega)) (nm_r (gn_cnt hs (by omega)) (nm_r (nI_1 i) (ih (i + 1) (by omega))))
  exact ⟨11, L 10 0 rfl⟩
theorem xs_sep {post : SX → Prop} {P D M : Int32} {A B g : Nat → Int32} (h : post (P, D, M, A, B, gw_sp g 6)) : wpX_separatePoints post (P, D, M, A, B, g) := by
  have L : ∀ j i, i + j = 6 → wX_separatePoints_2 post P D M (j + 1) (nI i) A B (gw_sp g i) := by
    intro j
    induction j with
    | zero =>
      intro i hi
      have e : i = 6 := by omega
      subst e
      exact br_t gn_6e h
    | succ j ih =>
      intro i hi
      exact br_f (gn_6 i (by omega)) ⟨vp_in_nI (by omega) (by omega), nm_r (by rw [gn_cl (by omega)]; exact gw_sps g i) (nm_r (nI_1 i) (ih (i + 1) (by omega)))⟩
  have L0 := L 6 0 rfl
  rw [gw_sp0] at L0
  exact ⟨7, L0⟩
theorem xs_mer {post : SX → Prop} {P D M : Int32} {A B g : Nat → Int32} {kp gn : Int32} (h : post (P, D, M, A, B, gw_mg g kp gn 6)) : wpX_mergeGroups post (P, D, M, A, B, g) kp gn := by
  have L : ∀ j i, i + j = 6 → wX_mergeGroups_2 post kp gn P D M (j + 1) (nI i) A B (gw_mg g kp gn i) := by
    intro j
    induction j with
    | zero =>
      intro i hi
      have e : i = 6 := by omega
      subst e
      exact br_t gn_6e h
    | succ j ih =>
      intro i hi
      have hv : vp_in (nI i) 6 := vp_in_nI (by omega) (by omega)
      have hc : (nI i).toNatClampNeg = i := gn_cl (by omega)
      have hg : gw_mg g kp gn i (nI i).toNatClampNeg = g i := by rw [hc]; exact gw_mgi g kp gn i
      by_cases e : g i = gn
      · exact br_f (gn_6 i (by omega)) ⟨hv, br_t (hg.trans e) ⟨hv, nm_r (by rw [hc]; exact gw_mgt e) (nm_r (nI_1 i) (ih (i + 1) (by omega)))⟩⟩
      · refine br_f (gn_6 i (by omega)) ⟨hv, br_f (fun z => e (hg.symm.trans z)) (nm_r (nI_1 i) ?_)⟩
        rw [gw_mgf e]
        exact ih (i + 1) (by omega)
  have L0 := L 6 0 rfl
  rw [gw_mg0] at L0
  exact ⟨7, L0⟩
theorem xs_clo {post : Int32 → SX → Prop} {P D M : Int32} {A B g : Nat → Int32} {s : Nat} (hs : s < 1024) (hA : gw_in A) (hB : gw_in B) (h : ∀ g', post (nI (gf_c (gf_z (gw_n A) (gw_n B) s.testBit) 10)) (P, D, M, A, B, g')) : wpX_closingLines post (P, D, M, A, B, g) (nI s) := by
  have L : ∀ j i g, i + j = 10 → gw_ab g (gf_g (gw_n A) (gw_n B) s.testBit i) → wX_closingLines_8 post (nI s) (j + 1) (nI (gf_c (gf_z (gw_n A) (gw_n B) s.testBit) i)) (nI i) P D M A B g := by
    intro j
    induction j with
    | zero =>
      intro i g hi hg
      have e : i = 10 := by omega
      subst e
      exact br_t gn_10e (h g)
    | succ j ih =>
      intro i g hi hg
      have i10 : i < 10 := by omega
      have hc : (nI i).toNatClampNeg = i := gn_cl (by omega)
      have hv : vp_in (nI i) 10 := vp_in_nI i10 (by omega)
      refine br_f (gn_10 i i10) ?_
      by_cases b : s.testBit i = true
      · refine br_t ((gb_b1 hs i10).mpr b) ?_
        have hva : vp_in (A (nI i).toNatClampNeg) 6 := by rw [hc]; exact hA i i10
        have hvb : vp_in (B (nI i).toNatClampNeg) 6 := by rw [hc]; exact hB i i10
        have na := gw_nl hA i i10
        have nb := gw_nl hB i i10
        refine ⟨hv, hva, nm_r (e' := g (gw_n A i)) (by rw [hc]; rfl) ⟨hv, hvb, nm_r (e' := g (gw_n B i)) (by rw [hc]; rfl) ?_⟩⟩
        by_cases e : g (gw_n A i) = g (gw_n B i)
        · have e2 : gf_g (gw_n A) (gw_n B) s.testBit i (gw_n A i) = gf_g (gw_n A) (gw_n B) s.testBit i (gw_n B i) := (hg _ na).symm.trans (e.trans (hg _ nb))
          have hz : gf_z (gw_n A) (gw_n B) s.testBit i = true := by unfold gf_z; rw [b, decide_eq_true e2]; rfl
          refine br_t e (nm_r (by rw [nI_1, ← gf_ct hz]) (nm_r (nI_1 i) (ih (i + 1) g (by omega) ?_)))
          rw [gf_gt b, gf_mid e2]
          exact hg
        · have e2 : ¬ gf_g (gw_n A) (gw_n B) s.testBit i (gw_n A i) = gf_g (gw_n A) (gw_n B) s.testBit i (gw_n B i) := fun z => e ((hg _ na).trans (z.trans (hg _ nb).symm))
          have hz : ¬ gf_z (gw_n A) (gw_n B) s.testBit i = true := by unfold gf_z; rw [decide_eq_false e2, Bool.and_false]; decide
          refine br_f e (xs_mer (nm_r (nI_1 i) ?_))
          rw [← gf_cf hz]
          refine ih (i + 1) _ (by omega) ?_
          rw [gf_gt b]
          exact gw_mga hg na nb
      · have hz : ¬ gf_z (gw_n A) (gw_n B) s.testBit i = true := by unfold gf_z; rw [Bool.eq_false_iff.mpr b, Bool.false_and]; decide
        refine br_f (fun z => b ((gb_b1 hs i10).mp z)) (nm_r (nI_1 i) ?_)
        rw [← gf_cf hz]
        refine ih (i + 1) g (by omega) ?_
        rw [gf_gf b]
        exact hg
  exact xs_sep ⟨11, L 10 0 _ rfl (gw_spa g)⟩
theorem xs_tre {post : Int32 → SX → Prop} {n d : Nat} {M : Int32} {A B g : Nat → Int32} {s : Nat} (hs : s < 1024) (hn : 1 ≤ n) (hn6 : n ≤ 6) (hd : d < 1024) (hA : gw_in A) (hB : gw_in B) (h : ∀ g', post (gt_b (gt_t n d (gw_n A) (gw_n B) s)) (nI n, nI d, M, A, B, g')) : wpX_isTree post (nI n, nI d, M, A, B, g) (nI s) := by
  have hl : s &&& d < 1024 := gb_landlt s hd
  have hc10 := gf_cle s.testBit 10
  have hz10 := gf_cle (gf_z (gw_n A) (gw_n B) s.testBit) 10
  have e1 : nI n - 1 = nI (n - 1) := pk_sub (a := n) (b := 1) hn
  have hp : ∀ b g', gt_t n d (gw_n A) (gw_n B) s = b → post (gt_b b) (nI n, nI d, M, A, B, g') := fun b g' e => e ▸ h g'
  unfold wpX_isTree
  refine br_c (fun c1 => xs_siz hs (br_c (fun c2 => xs_clo hs hA hB (fun g' => br_c (fun c3 => ?_) (fun c3 => ?_))) (fun c2 => ?_))) (fun c1 => ?_)
  · rw [gb_and, nI_eq (by omega) (by omega)] at c1
    rw [e1, nI_eq (by omega) (by omega)] at c2
    rw [← nI_0, nI_eq (by omega) (by omega)] at c3
    exact hp true g' (by unfold gt_t gt_q; rw [decide_eq_true c1, decide_eq_true c2, decide_eq_true c3]; rfl)
  · rw [← nI_0, nI_eq (by omega) (by omega)] at c3
    exact hp false g' (by unfold gt_t gt_q; rw [decide_eq_false c3, Bool.and_false, Bool.and_false])
  · rw [e1, nI_eq (by omega) (by omega)] at c2
    exact hp false g (by unfold gt_t; rw [decide_eq_false c2, Bool.false_and])
  · rw [gb_and, nI_eq (by omega) (by omega)] at c1
    exact hp false g (by unfold gt_t gt_q; rw [decide_eq_false c1, Bool.false_and, Bool.and_false])
theorem xs_cnt {post : Int32 → SX → Prop} {n d : Nat} {M : Int32} {A B g : Nat → Int32} {nd L : Nat} (hL : L ≤ 1024) (hnd : nd < 1024) (hn : 1 ≤ n) (hn6 : n ≤ 6) (hd : d < 1024) (hA : gw_in A) (hB : gw_in B) (h : ∀ g', post (nI (gf_c (gt_h n d (gw_n A) (gw_n B) nd) L)) (nI n, nI d, M, A, B, g')) : wpX_countTrees post (nI n, nI d, M, A, B, g) (nI nd) (nI L) := by
  have K : ∀ j i g, i + j = L → wX_countTrees_5 post (nI nd) (nI L) (j + 1) (nI (gf_c (gt_h n d (gw_n A) (gw_n B) nd) i)) (nI i) (nI n) (nI d) M A B g := by
    intro j
    induction j with
    | zero =>
      intro i g hi
      have e : i = L := by omega
      subst e
      exact br_t (gn_Le _) (h g)
    | succ j ih =>
      intro i g hi
      have hl : i &&& nd < 1024 := gb_landlt i hnd
      refine br_f (gn_L (by omega) hL) (br_c (fun c => ?_) (fun c => ?_))
      · rw [gb_and, nI_eq (by omega) (by omega)] at c
        refine xs_tre (by omega) hn hn6 hd hA hB (fun g' => ?_)
        cases t : gt_t n d (gw_n A) (gw_n B) i
        · have hz : ¬ gt_h n d (gw_n A) (gw_n B) nd i = true := by unfold gt_h; rw [t, Bool.and_false]; decide
          refine br_t gt_bf (nm_r (nI_1 i) ?_)
          rw [← gf_cf hz]
          exact ih (i + 1) g' (by omega)
        · have hz : gt_h n d (gw_n A) (gw_n B) nd i = true := by unfold gt_h; rw [t, decide_eq_true c]; rfl
          exact br_f (by decide) (nm_r (by rw [nI_1, ← gf_ct hz]) (nm_r (nI_1 i) (ih (i + 1) g' (by omega))))
      · rw [gb_and, nI_eq (by omega) (by omega)] at c
        have hz : ¬ gt_h n d (gw_n A) (gw_n B) nd i = true := by unfold gt_h; rw [decide_eq_false c, Bool.false_and]; decide
        refine nm_r (nI_1 i) ?_
        rw [← gf_cf hz]
        exact ih (i + 1) g (by omega)
  exact ⟨L + 1, K L 0 g (by omega)⟩
theorem xs_fnd {post : Int32 → SX → Prop} {n d : Nat} {M : Int32} {A B g : Nat → Int32} {r : Int32} (hn : 1 ≤ n) (hn6 : n ≤ 6) (hd : d < 1024) (hA : gw_in A) (hB : gw_in B) (h : ∀ g', post (gt_f (gt_t n d (gw_n A) (gw_n B)) r 1024 0 0) (nI n, nI d, M, A, B, g')) : wpX_tree post (nI n, nI d, M, A, B, g) r := by
  have K : ∀ j i c g, i + j = 1024 → (∀ g', post (gt_f (gt_t n d (gw_n A) (gw_n B)) r j i c) (nI n, nI d, M, A, B, g')) → wX_tree_4 post r (j + 1) (nI c) (nI i) (nI n) (nI d) M A B g := by
    intro j
    induction j with
    | zero =>
      intro i c g hi hp
      have e : i = 1024 := by omega
      subst e
      exact br_t gn_ke (hp g)
    | succ j ih =>
      intro i c g hi hp
      refine br_f (gn_k (by omega)) (xs_tre (by omega) hn hn6 hd hA hB (fun g' => ?_))
      cases t : gt_t n d (gw_n A) (gw_n B) i
      · refine br_t gt_bf (nm_r (nI_1 i) (ih (i + 1) c g' (by omega) (fun g2 => ?_)))
        rw [← gt_ff t]
        exact hp g2
      · refine br_f (by decide) (br_c (fun e => ?_) (fun e => ?_))
        · have q := hp g'
          rw [gt_fh t e] at q
          exact q
        · refine nm_r (nI_1 c) (nm_r (nI_1 i) (ih (i + 1) (c + 1) g' (by omega) (fun g2 => ?_)))
          rw [← gt_fn t e]
          exact hp g2
  exact ⟨1025, K 1024 0 0 g rfl h⟩
end
