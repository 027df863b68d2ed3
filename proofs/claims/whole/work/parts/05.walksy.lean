/-! ===== the walks of the reference, each with a general post ===== -/
theorem ys_one {post : Int32 → Prop} {s : Nat} (hs : s < 1024) (h : post (nI (gf_c s.testBit 10))) : wpY_ones post (nI s) := by
  have L : ∀ j i, i + j = 10 → wY_ones_4 post (nI s) (j + 1) (nI (gf_c s.testBit i)) (nI i) := by
    intro j
    induction j with
    | zero =>
      intro i hi
      have e : i = 10 := by omega
      subst e
      exact br_t gn_10e h
    | succ j ih =>
      intro i hi
      exact br_f (gn_10 i (by omega)) (nm_r (gn_cnt hs (by omega)) (nm_r (nI_1 i) (ih (i + 1) (by omega))))
  exact ⟨11, L 10 0 rfl⟩
theorem ys_mer {post : Int32 → SY → Prop} {J : Int32 → (Nat → Int32) → (Nat → Int32) → (Nat → Int32) → (Nat → Int32) → Prop} {x1 x2 N M : Int32} {th A B g : Nat → Int32} {kp gn : Int32} (h : J (x2 + 1) th A B (gw_mg g kp gn 6)) : ∃ f, wY_ringless_83 post J x1 x2 kp gn N M f 0 th A B g := by
  have L : ∀ j i, i + j = 6 → wY_ringless_83 post J x1 x2 kp gn N M (j + 1) (nI i) th A B (gw_mg g kp gn i) := by
    intro j
    induction j with
    | zero =>
      intro i hi
      have e : i = 6 := by omega
      subst e
      exact br_t gn_6e (nm_e h)
    | succ j ih =>
      intro i hi
      have hv : vp_in (nI i) 6 := vp_in_nI (by omega) (by omega)
      have hc : (nI i).toNatClampNeg = i := gn_cl (by omega)
      have hg : gw_mg g kp gn i (nI i).toNatClampNeg = g i := by rw [hc]; exact gw_mgi g kp gn i
      by_cases e : g i = gn
      · exact br_f (gn_6 i (by omega)) ⟨hv, br_t (hg.trans e) ⟨hv, nm_r (by rw [hc]; exact gw_mgt e) (nm_r (nI_1 i) (ih (i + 1) (by omega)))⟩⟩
      · refine br_f (gn_6 i (by omega)) ⟨hv, br_f (fun z => e (hg.symm.trans z)) (nm_r (nI_1 i) ?_)⟩
        rw [gw_mgf e]
        exact ih (i + 1) (by omega)
  have L0 := L 6 0 rfl
  rw [gw_mg0] at L0
  exact ⟨7, L0⟩
/-- Y's flags are X's bits -/
def gr_th (d : Nat) (th : Nat → Int32) : Prop := ∀ k, k < 10 → th k = gt_b (d.testBit k)
theorem gr_t0 {d k : Nat} {th : Nat → Int32} (h : gr_th d th) (hk : k < 10) : th k = 0 ↔ d.testBit k = false := by
  rw [h k hk]
  cases d.testBit k <;> decide
theorem ys_rin {post : Int32 → SY → Prop} {d : Nat} {N M : Int32} {th A B g : Nat → Int32} {s : Nat} (hs : s < 1024) (ht : gr_th d th) (hA : gw_in A) (hB : gw_in B) (h : ∀ g', post (gt_b (gt_q d (gw_n A) (gw_n B) s)) (N, M, th, A, B, g')) : wpY_ringless post (N, M, th, A, B, g) (nI s) := by
  have hp : ∀ b g', gt_q d (gw_n A) (gw_n B) s = b → post (gt_b b) (N, M, th, A, B, g') := fun b g' e => e ▸ h g'
  have L : ∀ j i g, i + j = 10 → (∀ k, k < i → gt_ok d (gw_n A) (gw_n B) s k) → gw_ab g (gf_g (gw_n A) (gw_n B) s.testBit i) → wY_ringless_23 post (nI s) N M (j + 1) (nI i) th A B g := by
    intro j
    induction j with
    | zero =>
      intro i g hi hk hg
      have e : i = 10 := by omega
      subst e
      exact br_t gn_10e (hp true g ((gt_qt hs).mpr hk))
    | succ j ih =>
      intro i g hi hk hg
      have i10 : i < 10 := by omega
      have hc : (nI i).toNatClampNeg = i := gn_cl (by omega)
      have hv : vp_in (nI i) 10 := vp_in_nI i10 (by omega)
      refine br_f (gn_10 i i10) ?_
      by_cases b : s.testBit i = true
      · refine br_t ((gb_b1 hs i10).mpr b) ?_
        have hva : vp_in (A (nI i).toNatClampNeg) 6 := by rw [hc]; exact hA i i10
        have hvb : vp_in (B (nI i).toNatClampNeg) 6 := by rw [hc]; exact hB i i10
        have hth : th (nI i).toNatClampNeg = 0 ↔ d.testBit i = false := by rw [hc]; exact gr_t0 ht i10
        have na := gw_nl hA i i10
        have nb := gw_nl hB i i10
        refine ⟨hv, hva, nm_r (e' := g (gw_n A i)) (by rw [hc]; rfl) ⟨hv, hvb, nm_r (e' := g (gw_n B i)) (by rw [hc]; rfl) ⟨hv, ?_⟩⟩⟩
        refine br_c (fun z => ?_) (fun z => ?_)
        · have z2 := hth.mp z
          refine hp false g (gt_qf hs i10 (fun q => ?_))
          have q2 := (q b).1
          rw [z2] at q2
          exact absurd q2 (by decide)
        · have z2 : d.testBit i = true := by
            cases y : d.testBit i
            · exact absurd (hth.mpr y) z
            · rfl
          by_cases e : g (gw_n A i) = g (gw_n B i)
          · have e2 : gf_g (gw_n A) (gw_n B) s.testBit i (gw_n A i) = gf_g (gw_n A) (gw_n B) s.testBit i (gw_n B i) := (hg _ na).symm.trans (e.trans (hg _ nb))
            exact br_t e (hp false g (gt_qf hs i10 (fun q => (q b).2 e2)))
          · have e2 : ¬ gf_g (gw_n A) (gw_n B) s.testBit i (gw_n A i) = gf_g (gw_n A) (gw_n B) s.testBit i (gw_n B i) := fun z => e ((hg _ na).trans (z.trans (hg _ nb).symm))
            refine br_f e (ys_mer ?_)
            rw [nI_1 i]
            refine ih (i + 1) _ (by omega) (fun k hk2 => ?_) ?_
            · by_cases ek : k = i
              · rw [ek]
                exact fun _ => ⟨z2, e2⟩
              · exact hk k (by omega)
            · rw [gf_gt b]
              exact gw_mga hg na nb
      · refine br_f (fun z => b ((gb_b1 hs i10).mp z)) (nm_r (nI_1 i) ?_)
        refine ih (i + 1) g (by omega) (fun k hk2 => ?_) ?_
        · by_cases ek : k = i
          · rw [ek]
            exact fun z => absurd z b
          · exact hk k (by omega)
        · rw [gf_gf b]
          exact hg
  have S : ∀ j i, i + j = 6 → wY_ringless_2 post (nI s) N M (j + 1) (nI i) th A B (gw_sp g i) := by
    intro j
    induction j with
    | zero =>
      intro i hi
      have e : i = 6 := by omega
      subst e
      exact br_t gn_6e ⟨11, L 10 0 _ rfl (fun k hk => absurd hk (by omega)) (gw_spa g)⟩
    | succ j ih =>
      intro i hi
      exact br_f (gn_6 i (by omega)) ⟨vp_in_nI (by omega) (by omega), nm_r (by rw [gn_cl (by omega)]; exact gw_sps g i) (nm_r (nI_1 i) (ih (i + 1) (by omega)))⟩
  have S0 := S 6 0 rfl
  rw [gw_sp0] at S0
  exact ⟨7, S0⟩
theorem ys_tre {post : Int32 → SY → Prop} {n d : Nat} {M : Int32} {th A B g : Nat → Int32} {s : Nat} (hs : s < 1024) (hn : 1 ≤ n) (hn6 : n ≤ 6) (ht : gr_th d th) (hA : gw_in A) (hB : gw_in B) (h : ∀ g', post (gt_b (gt_t n d (gw_n A) (gw_n B) s)) (nI n, M, th, A, B, g')) : wpY_isTree post (nI n, M, th, A, B, g) (nI s) := by
  have hc10 := gf_cle s.testBit 10
  have e1 : nI n - 1 = nI (n - 1) := pk_sub (a := n) (b := 1) hn
  have hp : ∀ b g', gt_t n d (gw_n A) (gw_n B) s = b → post (gt_b b) (nI n, M, th, A, B, g') := fun b g' e => e ▸ h g'
  unfold wpY_isTree
  refine ys_one hs (br_c (fun c2 => ys_rin hs ht hA hB (fun g' => ?_)) (fun c2 => ?_))
  · rw [e1, nI_eq (by omega) (by omega)] at c2
    cases q : gt_q d (gw_n A) (gw_n B) s
    · exact br_t gt_bf (hp false g' (by unfold gt_t; rw [q, Bool.and_false]))
    · exact br_f (by decide) (hp true g' (by unfold gt_t; rw [q, decide_eq_true c2]; rfl))
  · rw [e1, nI_eq (by omega) (by omega)] at c2
    exact hp false g (by unfold gt_t; rw [decide_eq_false c2, Bool.false_and])
theorem ys_cnt {post : Int32 → SY → Prop} {n d : Nat} {M : Int32} {th A B g : Nat → Int32} {nd L : Nat} (hL : L ≤ 1024) (hnd : nd < 1024) (hn : 1 ≤ n) (hn6 : n ≤ 6) (ht : gr_th d th) (hA : gw_in A) (hB : gw_in B) (h : ∀ g', post (nI (gf_c (gt_h n d (gw_n A) (gw_n B) nd) L)) (nI n, M, th, A, B, g')) : wpY_count post (nI n, M, th, A, B, g) (nI L) (nI nd) := by
  have K : ∀ j i g, i + j = L → wY_count_5 post (nI L) (nI nd) (j + 1) (nI (gf_c (gt_h n d (gw_n A) (gw_n B) nd) i)) (nI i) (nI n) M th A B g := by
    intro j
    induction j with
    | zero =>
      intro i g hi
      have e : i = L := by omega
      subst e
      exact br_t (gn_Le _) (h g)
    | succ j ih =>
      intro i g hi
      have hl : i &&& nd < 1024 := gb_landlt i hnd
      refine br_f (gn_L (by omega) hL) (br_c (fun c => ?_) (fun c => ?_))
      · rw [gb_and, nI_eq (by omega) (by omega)] at c
        refine ys_tre (by omega) hn hn6 ht hA hB (fun g' => ?_)
        cases t : gt_t n d (gw_n A) (gw_n B) i
        · have hz : ¬ gt_h n d (gw_n A) (gw_n B) nd i = true := by unfold gt_h; rw [t, Bool.and_false]; decide
          refine br_t gt_bf (nm_r (nI_1 i) ?_)
          rw [← gf_cf hz]
          exact ih (i + 1) g' (by omega)
        · have hz : gt_h n d (gw_n A) (gw_n B) nd i = true := by unfold gt_h; rw [t, decide_eq_true c]; rfl
          exact br_f (by decide) (nm_r (by rw [nI_1, ← gf_ct hz]) (nm_r (nI_1 i) (ih (i + 1) g' (by omega))))
      · rw [gb_and, nI_eq (by omega) (by omega)] at c
        have hz : ¬ gt_h n d (gw_n A) (gw_n B) nd i = true := by unfold gt_h; rw [decide_eq_false c, Bool.false_and]; decide
        refine nm_r (nI_1 i) ?_
        rw [← gf_cf hz]
        exact ih (i + 1) g (by omega)
  exact ⟨L + 1, K L 0 g (by omega)⟩
theorem ys_fnd {post : Int32 → SY → Prop} {n d : Nat} {M : Int32} {th A B g : Nat → Int32} {r : Int32} (hn : 1 ≤ n) (hn6 : n ≤ 6) (ht : gr_th d th) (hA : gw_in A) (hB : gw_in B) (h : ∀ g', post (gt_f (gt_t n d (gw_n A) (gw_n B)) r 1024 0 0) (nI n, M, th, A, B, g')) : wpY_tree post (nI n, M, th, A, B, g) r := by
  have K : ∀ j i c g, i + j = 1024 → (∀ g', post (gt_f (gt_t n d (gw_n A) (gw_n B)) r j i c) (nI n, M, th, A, B, g')) → wY_tree_4 post r (j + 1) (nI c) (nI i) (nI n) M th A B g := by
    intro j
    induction j with
    | zero =>
      intro i c g hi hp
      have e : i = 1024 := by omega
      subst e
      exact br_t gn_ke (hp g)
    | succ j ih =>
      intro i c g hi hp
      refine br_f (gn_k (by omega)) (ys_tre (by omega) hn hn6 ht hA hB (fun g' => ?_))
      cases t : gt_t n d (gw_n A) (gw_n B) i
      · refine br_t gt_bf (nm_r (nI_1 i) (ih (i + 1) c g' (by omega) (fun g2 => ?_)))
        rw [← gt_ff t]
        exact hp g2
      · refine br_f (by decide) (br_c (fun e => ?_) (fun e => ?_))
        · have q := hp g'
          rw [gt_fh t e] at q
          exact q
        · refine nm_r (nI_1 c) (nm_r (nI_1 i) (ih (i + 1) (c + 1) g' (by omega) (fun g2 => ?_)))
          rw [← gt_fn t e]
          exact hp g2
  exact ⟨1025, K 1024 0 0 g rfl h⟩
