/-! ===== counting below n ===== -/
def gf_c (f : Nat → Bool) : Nat → Nat
  | 0 => 0
  | n + 1 => gf_c f n + (if f n = true then 1 else 0)
theorem gf_cs (f : Nat → Bool) (n : Nat) : gf_c f (n + 1) = gf_c f n + (if f n = true then 1 else 0) := rfl
theorem gf_ct {f : Nat → Bool} {n : Nat} (h : f n = true) : gf_c f (n + 1) = gf_c f n + 1 := by rw [gf_cs, if_pos h]
theorem gf_cf {f : Nat → Bool} {n : Nat} (h : ¬ f n = true) : gf_c f (n + 1) = gf_c f n := by rw [gf_cs, if_neg h, Nat.add_zero]
theorem gf_cle (f : Nat → Bool) : ∀ n, gf_c f n ≤ n := by
  intro n
  induction n with
  | zero => exact Nat.le_refl 0
  | succ n ih =>
    by_cases h : f n = true
    · rw [gf_ct h]; omega
    · rw [gf_cf h]; omega
theorem gf_ceq {f g : Nat → Bool} : ∀ n, (∀ p, p < n → f p = g p) → gf_c f n = gf_c g n := by
  intro n
  induction n with
  | zero => intro _; rfl
  | succ n ih =>
    intro h
    rw [gf_cs, gf_cs, ih (fun p hp => h p (by omega)), h n (by omega)]
theorem gf_cmono {f g : Nat → Bool} : ∀ n, (∀ p, p < n → f p = true → g p = true) → gf_c f n ≤ gf_c g n := by
  intro n
  induction n with
  | zero => intro _; exact Nat.le_refl 0
  | succ n ih =>
    intro h
    have h1 := ih (fun p hp => h p (by omega))
    by_cases a : f n = true
    · rw [gf_ct a, gf_ct (h n (by omega) a)]; omega
    · rw [gf_cf a]
      by_cases b : g n = true
      · rw [gf_ct b]; omega
      · rw [gf_cf b]; exact h1
theorem gf_cone {f g : Nat → Bool} {m : Nat} (hf : f m = true) (hg : g m = false) : ∀ n, (∀ p, p < n → p ≠ m → f p = g p) → m < n → gf_c f n = gf_c g n + 1 := by
  intro n
  induction n with
  | zero => intro _ h; omega
  | succ n ih =>
    intro h hm
    by_cases e : m = n
    · subst e
      have h1 : gf_c f m = gf_c g m := gf_ceq m (fun p hp => h p (by omega) (by omega))
      rw [gf_ct hf, gf_cf (by rw [hg]; decide), h1]
    · have h1 := ih (fun p hp => h p (by omega)) (by omega)
      have h2 := h n (by omega) (fun z => e z.symm)
      rw [gf_cs, gf_cs, h1, h2]
      omega
theorem gf_least (P : Nat → Prop) (h : ∃ k, P k) : ∃ k, P k ∧ ∀ j, j < k → ¬ P j := by
  obtain ⟨k, hk⟩ := h
  induction k using Nat.strongRecOn with
  | ind k ih =>
    by_cases e : ∃ j, j < k ∧ P j
    · obtain ⟨j, hj, pj⟩ := e
      exact ih j hj pj
    · exact ⟨k, hk, fun j hj pj => e ⟨j, hj, pj⟩⟩
/-! ===== labels of points; a merge gives b's label's bearers a's label ===== -/
def gf_m (G : Nat → Int32) (a b : Nat) : Nat → Int32 := fun p => if G p = G b then G a else G p
def gf_g (F T : Nat → Nat) (S : Nat → Bool) : Nat → Nat → Int32
  | 0 => fun p => nI p
  | k + 1 => if S k = true then gf_m (gf_g F T S k) (F k) (T k) else gf_g F T S k
def gf_z (F T : Nat → Nat) (S : Nat → Bool) (k : Nat) : Bool := S k && decide (gf_g F T S k (F k) = gf_g F T S k (T k))
def gf_r (G : Nat → Int32) (p : Nat) : Bool := decide (∀ q, q < p → G q ≠ G p)
theorem gf_gt {F T : Nat → Nat} {S : Nat → Bool} {k : Nat} (h : S k = true) : gf_g F T S (k + 1) = gf_m (gf_g F T S k) (F k) (T k) := if_pos h
theorem gf_gf {F T : Nat → Nat} {S : Nat → Bool} {k : Nat} (h : ¬ S k = true) : gf_g F T S (k + 1) = gf_g F T S k := if_neg h
theorem gf_key0 (x y s t : Int32) : ((if x = t then s else x) = (if y = t then s else y)) ↔ (x = y ∨ (x = s ∧ y = t) ∨ (x = t ∧ y = s)) := by
  by_cases h1 : x = t
  · by_cases h2 : y = t
    · rw [if_pos h1, if_pos h2]
      exact ⟨fun _ => Or.inl (h1.trans h2.symm), fun _ => rfl⟩
    · rw [if_pos h1, if_neg h2]
      constructor
      · intro e; exact Or.inr (Or.inr ⟨h1, e.symm⟩)
      · intro e
        rcases e with e | ⟨_, e⟩ | ⟨_, e⟩
        · exact absurd (e.symm.trans h1) h2
        · exact absurd e h2
        · exact e.symm
  · by_cases h2 : y = t
    · rw [if_neg h1, if_pos h2]
      constructor
      · intro e; exact Or.inr (Or.inl ⟨e, h2⟩)
      · intro e
        rcases e with e | ⟨e, _⟩ | ⟨e, _⟩
        · exact absurd (e.trans h2) h1
        · exact e
        · exact absurd e h1
    · rw [if_neg h1, if_neg h2]
      constructor
      · intro e; exact Or.inl e
      · intro e
        rcases e with e | ⟨_, e⟩ | ⟨e, _⟩
        · exact e
        · exact absurd e h2
        · exact absurd e h1
theorem gf_key (G : Nat → Int32) (a b q p : Nat) : gf_m G a b q = gf_m G a b p ↔ (G q = G p ∨ (G q = G a ∧ G p = G b) ∨ (G q = G b ∧ G p = G a)) := gf_key0 (G q) (G p) (G a) (G b)
theorem gf_mid {G : Nat → Int32} {a b : Nat} (h : G a = G b) : gf_m G a b = G := by
  funext p
  show (if G p = G b then G a else G p) = G p
  by_cases e : G p = G b
  · rw [if_pos e, h, e]
  · rw [if_neg e]
/-! a merge of two labels takes one part away -/
theorem gf_merge {G : Nat → Int32} {a b : Nat} (ha : a < 6) (hb : b < 6) (hab : ¬ G a = G b) : gf_c (gf_r G) 6 = gf_c (gf_r (gf_m G a b)) 6 + 1 := by
  obtain ⟨x, hx, mx⟩ := gf_least (fun p => G p = G a) ⟨a, rfl⟩
  obtain ⟨y, hy, my⟩ := gf_least (fun p => G p = G b) ⟨b, rfl⟩
  have xa : x ≤ a := Nat.le_of_not_lt (fun z => mx a z rfl)
  have yb : y ≤ b := Nat.le_of_not_lt (fun z => my b z rfl)
  have hxy : x ≠ y := by
    intro e
    rw [e] at hx
    exact hab (hx.symm.trans hy)
  have key := gf_key G a b
  have main : ∀ m, (m = x ∨ m = y) → x ≤ m → y ≤ m → gf_c (gf_r G) 6 = gf_c (gf_r (gf_m G a b)) 6 + 1 := by
    intro m hm xm ym
    have h1 : gf_r G m = true := by
      unfold gf_r
      rw [decide_eq_true_eq]
      intro q hq e
      rcases hm with hm | hm
      · rw [hm] at hq e
        exact mx q hq (e.trans hx)
      · rw [hm] at hq e
        exact my q hq (e.trans hy)
    have h2 : gf_r (gf_m G a b) m = false := by
      unfold gf_r
      rw [decide_eq_false_iff_not]
      intro h
      rcases hm with hm | hm
      · rw [hm] at h
        exact h y (by omega) ((key y x).mpr (Or.inr (Or.inr ⟨hy, hx⟩)))
      · rw [hm] at h
        exact h x (by omega) ((key x y).mpr (Or.inr (Or.inl ⟨hx, hy⟩)))
    have h3 : ∀ p, p < 6 → p ≠ m → gf_r G p = gf_r (gf_m G a b) p := by
      intro p hp hpm
      unfold gf_r
      apply decide_eq_decide.mpr
      constructor
      · intro h q hq e
        rcases (key q p).mp e with e | ⟨e1, e2⟩ | ⟨e1, e2⟩
        · exact h q hq e
        · have g1 : x ≤ q := Nat.le_of_not_lt (fun z => mx q z e1)
          have g2 : y ≤ p := Nat.le_of_not_lt (fun z => my p z e2)
          have g3 : ¬ y < p := fun z => h y z (hy.trans e2.symm)
          omega
        · have g1 : y ≤ q := Nat.le_of_not_lt (fun z => my q z e1)
          have g2 : x ≤ p := Nat.le_of_not_lt (fun z => mx p z e2)
          have g3 : ¬ x < p := fun z => h x z (hx.trans e2.symm)
          omega
      · intro h q hq e
        exact h q hq ((key q p).mpr (Or.inl e))
    exact gf_cone h1 h2 6 h3 (by omega)
  rcases Nat.lt_or_ge x y with h | h
  · exact main y (Or.inr rfl) (by omega) (by omega)
  · exact main x (Or.inl rfl) (by omega) (by omega)
theorem gf_six : gf_c (gf_r (fun p => nI p)) 6 = 6 := by decide +kernel
/-! lines laid = points joined + lines that close -/
theorem gf_rank (F T : Nat → Nat) (S : Nat → Bool) (hF : ∀ k, k < 10 → F k < 6) (hT : ∀ k, k < 10 → T k < 6) : ∀ k, k ≤ 10 → gf_c S k + gf_c (gf_r (gf_g F T S k)) 6 = 6 + gf_c (gf_z F T S) k := by
  intro k
  induction k with
  | zero => intro _; exact (Nat.zero_add _).trans gf_six
  | succ k ih =>
    intro hk
    have h := ih (by omega)
    by_cases s : S k = true
    · rw [gf_ct s, gf_gt s]
      by_cases e : gf_g F T S k (F k) = gf_g F T S k (T k)
      · rw [gf_mid e, gf_ct (f := gf_z F T S) (by unfold gf_z; rw [s, decide_eq_true e]; rfl)]
        omega
      · have h2 := gf_merge (hF k (by omega)) (hT k (by omega)) e
        rw [gf_cf (f := gf_z F T S) (by unfold gf_z; rw [decide_eq_false e, Bool.and_false]; decide)]
        omega
    · rw [gf_cf s, gf_gf s, gf_cf (f := gf_z F T S) (by unfold gf_z; rw [Bool.eq_false_iff.mpr s, Bool.false_and]; decide)]
      exact h
/-! the labels are the least that join the ends of every line laid -/
theorem gf_min {F T : Nat → Nat} {S : Nat → Bool} {H : Nat → Int32} (hF : ∀ k, k < 10 → F k < 6) (hT : ∀ k, k < 10 → T k < 6) : ∀ n, n ≤ 10 → (∀ k, k < n → S k = true → H (F k) = H (T k)) → ∀ p q, p < 6 → q < 6 → gf_g F T S n p = gf_g F T S n q → H p = H q := by
  intro n
  induction n with
  | zero =>
    intro _ _ p q hp hq e
    have e2 : nI p = nI q := e
    rw [nI_eq (by omega) (by omega)] at e2
    rw [e2]
  | succ n ih =>
    intro hn h p q hp hq e
    have ih1 := ih (by omega) (fun k hk => h k (by omega))
    by_cases s : S n = true
    · rw [gf_gt s] at e
      have hF1 := hF n (by omega)
      have hT1 := hT n (by omega)
      have hj := h n (by omega) s
      rcases (gf_key _ _ _ _ _).mp e with e | ⟨e1, e2⟩ | ⟨e1, e2⟩
      · exact ih1 p q hp hq e
      · exact (ih1 p _ hp hF1 e1).trans (hj.trans (ih1 q _ hq hT1 e2).symm)
      · exact (ih1 p _ hp hT1 e1).trans (hj.symm.trans (ih1 q _ hq hF1 e2).symm)
    · rw [gf_gf s] at e
      exact ih1 p q hp hq e
theorem gf_join {F T : Nat → Nat} {S : Nat → Bool} : ∀ n k, k < n → S k = true → gf_g F T S n (F k) = gf_g F T S n (T k) := by
  intro n
  induction n with
  | zero => intro k hk; omega
  | succ n ih =>
    intro k hk s
    by_cases e : k = n
    · rw [e] at s ⊢
      rw [gf_gt s]
      exact (gf_key _ _ _ _ _).mpr (Or.inr (Or.inl ⟨rfl, rfl⟩))
    · have h := ih k (by omega) s
      by_cases sn : S n = true
      · rw [gf_gt sn]
        exact (gf_key _ _ _ _ _).mpr (Or.inl h)
      · rw [gf_gf sn]
        exact h
/-! a set within another joins no more -/
theorem gf_sub {F T : Nat → Nat} {A B : Nat → Bool} (hF : ∀ k, k < 10 → F k < 6) (hT : ∀ k, k < 10 → T k < 6) (h : ∀ k, k < 10 → A k = true → B k = true) : gf_c A 10 + gf_c (gf_z F T B) 10 ≤ gf_c B 10 + gf_c (gf_z F T A) 10 := by
  have rA := gf_rank F T A hF hT 10 (by omega)
  have rB := gf_rank F T B hF hT 10 (by omega)
  have hm : gf_c (gf_r (gf_g F T B 10)) 6 ≤ gf_c (gf_r (gf_g F T A 10)) 6 := by
    apply gf_cmono 6
    intro p hp hr
    unfold gf_r at hr ⊢
    rw [decide_eq_true_eq] at hr ⊢
    intro q hq e
    exact hr q hq (gf_min hF hT 10 (by omega) (fun k hk s => gf_join 10 k hk (h k hk s)) q p (by omega) hp e)
  omega
/-! the lines that joined something close no ring and are as many as can be -/
def gf_k (F T : Nat → Nat) (B : Nat → Bool) (k : Nat) : Bool := B k && !(gf_z F T B k)
theorem gf_kg (F T : Nat → Nat) (B : Nat → Bool) : ∀ k, gf_g F T (gf_k F T B) k = gf_g F T B k := by
  intro k
  induction k with
  | zero => rfl
  | succ k ih =>
    by_cases s : B k = true
    · by_cases e : gf_g F T B k (F k) = gf_g F T B k (T k)
      · have hz : gf_z F T B k = true := by unfold gf_z; rw [s, decide_eq_true e]; rfl
        have hk : ¬ gf_k F T B k = true := by unfold gf_k; rw [hz, s]; decide
        rw [gf_gf hk, gf_gt s, gf_mid e, ih]
      · have hz : gf_z F T B k = false := by unfold gf_z; rw [decide_eq_false e, Bool.and_false]
        have hk : gf_k F T B k = true := by unfold gf_k; rw [hz, s]; rfl
        rw [gf_gt hk, gf_gt s, ih]
    · have hk : ¬ gf_k F T B k = true := by unfold gf_k; rw [Bool.eq_false_iff.mpr s, Bool.false_and]; decide
      rw [gf_gf hk, gf_gf s, ih]
theorem gf_kz (F T : Nat → Nat) (B : Nat → Bool) (k : Nat) : gf_z F T (gf_k F T B) k = false := by
  unfold gf_z
  rw [gf_kg]
  by_cases e : gf_g F T B k (F k) = gf_g F T B k (T k)
  · by_cases s : B k = true
    · have hz : gf_z F T B k = true := by unfold gf_z; rw [s, decide_eq_true e]; rfl
      have hk : gf_k F T B k = false := by unfold gf_k; rw [hz, s]; rfl
      rw [hk, Bool.false_and]
    · have hk : gf_k F T B k = false := by unfold gf_k; rw [Bool.eq_false_iff.mpr s, Bool.false_and]
      rw [hk, Bool.false_and]
  · rw [decide_eq_false e, Bool.and_false]
theorem gf_c0 {f : Nat → Bool} : ∀ n, gf_c f n = 0 ↔ ∀ k, k < n → f k = false := by
  intro n
  induction n with
  | zero => exact ⟨fun _ k hk => absurd hk (by omega), fun _ => rfl⟩
  | succ n ih =>
    constructor
    · intro h k hk
      by_cases a : f n = true
      · rw [gf_ct a] at h; omega
      · rw [gf_cf a] at h
        by_cases e : k = n
        · rw [e]; exact Bool.eq_false_iff.mpr a
        · exact ih.mp h k (by omega)
    · intro h
      have a := h n (by omega)
      rw [gf_cf (by rw [a]; decide)]
      exact ih.mpr (fun k hk => h k (by omega))
theorem gf_kc (F T : Nat → Nat) (B : Nat → Bool) (hF : ∀ k, k < 10 → F k < 6) (hT : ∀ k, k < 10 → T k < 6) : gf_c (gf_k F T B) 10 + gf_c (gf_z F T B) 10 = gf_c B 10 := by
  have rA := gf_rank F T (gf_k F T B) hF hT 10 (by omega)
  have rB := gf_rank F T B hF hT 10 (by omega)
  have hz : gf_c (gf_z F T (gf_k F T B)) 10 = 0 := (gf_c0 10).mpr (fun k _ => gf_kz F T B k)
  rw [gf_kg] at rA
  omega
theorem gf_kb (F T : Nat → Nat) (B : Nat → Bool) (k : Nat) (h : gf_k F T B k = true) : B k = true := by
  unfold gf_k at h
  rw [Bool.and_eq_true] at h
  exact h.1
/-! labels depend on the lines below alone -/
theorem gf_gc {F T : Nat → Nat} {A B : Nat → Bool} : ∀ n, (∀ k, k < n → A k = B k) → gf_g F T A n = gf_g F T B n := by
  intro n
  induction n with
  | zero => intro _; rfl
  | succ n ih =>
    intro h
    have h1 := ih (fun k hk => h k (by omega))
    have h2 := h n (by omega)
    show (if A n = true then gf_m (gf_g F T A n) (F n) (T n) else gf_g F T A n) = (if B n = true then gf_m (gf_g F T B n) (F n) (T n) else gf_g F T B n)
    rw [h1, h2]
theorem gf_zc {F T : Nat → Nat} {A B : Nat → Bool} (n : Nat) (h : ∀ k, k < n → A k = B k) : gf_c (gf_z F T A) n = gf_c (gf_z F T B) n := by
  apply gf_ceq
  intro p hp
  unfold gf_z
  rw [gf_gc p (fun k hk => h k (by omega)), h p hp]
