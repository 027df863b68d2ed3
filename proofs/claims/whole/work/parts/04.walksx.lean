/-! ===== the walks of the component, each with a general post ===== -/
theorem xs_siz {post : Int32 → Prop} {s : Nat} (hs : s < 1024) (h : post (nI (gf_c s.testBit 10))) : wpX_size post (nI s) := by
  have L : ∀ j i, i + j = 10 → wX_size_4 post (nI s) (j + 1) (nI (gf_c s.testBit i)) (nI i) := by
    intro j
    induction j with
    | zero =>
      intro i hi
      have e : i = 10 := by omega
      subst e
      exact br_t gn_10e h
    | succ j ih =>
      intro i hi
      exact br_f (gn_10 i (by omega)) (nm_r (gn_cnt hs (by omega)) (nm_r (nI_1 i) (ih (i + 1) (by omega))))
  exact ⟨11, L 10 0 rfl⟩
theorem xs_sep {post : SX → Prop} {P D M : Int32} {A B g : Nat → Int32} (h : post (P, D, M, A, B, gw_sp g 6)) : wpX_separatePoints post (P, D, M, A, B, g) := by
  have L : ∀ j i, i + j = 6 → wX_separatePoints_2 post P D M (j + 1) (nI i) A B (gw_sp g i) := by
    intro j
    induction j with
    | zero =>
      intro i hi
      have e : i = 6 := by omega
      subst e
      exact br_t gn_6e h
    | succ j ih =>
      intro i hi
      exact br_f (gn_6 i (by omega)) ⟨vp_in_nI (by omega) (by omega), nm_r (by rw [gn_cl (by omega)]; exact gw_sps g i) (nm_r (nI_1 i) (ih (i + 1) (by omega)))⟩
  have L0 := L 6 0 rfl
  rw [gw_sp0] at L0
  exact ⟨7, L0⟩
theorem xs_mer {post : SX → Prop} {P D M : Int32} {A B g : Nat → Int32} {kp gn : Int32} (h : post (P, D, M, A, B, gw_mg g kp gn 6)) : wpX_mergeGroups post (P, D, M, A, B, g) kp gn := by
  have L : ∀ j i, i + j = 6 → wX_mergeGroups_2 post kp gn P D M (j + 1) (nI i) A B (gw_mg g kp gn i) := by
    intro j
    induction j with
    | zero =>
      intro i hi
      have e : i = 6 := by omega
      subst e
      exact br_t gn_6e h
    | succ j ih =>
      intro i hi
      have hv : vp_in (nI i) 6 := vp_in_nI (by omega) (by omega)
      have hc : (nI i).toNatClampNeg = i := gn_cl (by omega)
      have hg : gw_mg g kp gn i (nI i).toNatClampNeg = g i := by rw [hc]; exact gw_mgi g kp gn i
      by_cases e : g i = gn
      · exact br_f (gn_6 i (by omega)) ⟨hv, br_t (hg.trans e) ⟨hv, nm_r (by rw [hc]; exact gw_mgt e) (nm_r (nI_1 i) (ih (i + 1) (by omega)))⟩⟩
      · refine br_f (gn_6 i (by omega)) ⟨hv, br_f (fun z => e (hg.symm.trans z)) (nm_r (nI_1 i) ?_)⟩
        rw [gw_mgf e]
        exact ih (i + 1) (by omega)
  have L0 := L 6 0 rfl
  rw [gw_mg0] at L0
  exact ⟨7, L0⟩
theorem xs_clo {post : Int32 → SX → Prop} {P D M : Int32} {A B g : Nat → Int32} {s : Nat} (hs : s < 1024) (hA : gw_in A) (hB : gw_in B) (h : ∀ g', post (nI (gf_c (gf_z (gw_n A) (gw_n B) s.testBit) 10)) (P, D, M, A, B, g')) : wpX_closingLines post (P, D, M, A, B, g) (nI s) := by
  have L : ∀ j i g, i + j = 10 → gw_ab g (gf_g (gw_n A) (gw_n B) s.testBit i) → wX_closingLines_8 post (nI s) (j + 1) (nI (gf_c (gf_z (gw_n A) (gw_n B) s.testBit) i)) (nI i) P D M A B g := by
    intro j
    induction j with
    | zero =>
      intro i g hi hg
      have e : i = 10 := by omega
      subst e
      exact br_t gn_10e (h g)
    | succ j ih =>
      intro i g hi hg
      have i10 : i < 10 := by omega
      have hc : (nI i).toNatClampNeg = i := gn_cl (by omega)
      have hv : vp_in (nI i) 10 := vp_in_nI i10 (by omega)
      refine br_f (gn_10 i i10) ?_
      by_cases b : s.testBit i = true
      · refine br_t ((gb_b1 hs i10).mpr b) ?_
        have hva : vp_in (A (nI i).toNatClampNeg) 6 := by rw [hc]; exact hA i i10
        have hvb : vp_in (B (nI i).toNatClampNeg) 6 := by rw [hc]; exact hB i i10
        have na := gw_nl hA i i10
        have nb := gw_nl hB i i10
        refine ⟨hv, hva, nm_r (e' := g (gw_n A i)) (by rw [hc]; rfl) ⟨hv, hvb, nm_r (e' := g (gw_n B i)) (by rw [hc]; rfl) ?_⟩⟩
        by_cases e : g (gw_n A i) = g (gw_n B i)
        · have e2 : gf_g (gw_n A) (gw_n B) s.testBit i (gw_n A i) = gf_g (gw_n A) (gw_n B) s.testBit i (gw_n B i) := (hg _ na).symm.trans (e.trans (hg _ nb))
          have hz : gf_z (gw_n A) (gw_n B) s.testBit i = true := by unfold gf_z; rw [b, decide_eq_true e2]; rfl
          refine br_t e (nm_r (by rw [nI_1, ← gf_ct hz]) (nm_r (nI_1 i) (ih (i + 1) g (by omega) ?_)))
          rw [gf_gt b, gf_mid e2]
          exact hg
        · have e2 : ¬ gf_g (gw_n A) (gw_n B) s.testBit i (gw_n A i) = gf_g (gw_n A) (gw_n B) s.testBit i (gw_n B i) := fun z => e ((hg _ na).trans (z.trans (hg _ nb).symm))
          have hz : ¬ gf_z (gw_n A) (gw_n B) s.testBit i = true := by unfold gf_z; rw [decide_eq_false e2, Bool.and_false]; decide
          refine br_f e (xs_mer (nm_r (nI_1 i) ?_))
          rw [← gf_cf hz]
          refine ih (i + 1) _ (by omega) ?_
          rw [gf_gt b]
          exact gw_mga hg na nb
      · have hz : ¬ gf_z (gw_n A) (gw_n B) s.testBit i = true := by unfold gf_z; rw [Bool.eq_false_iff.mpr b, Bool.false_and]; decide
        refine br_f (fun z => b ((gb_b1 hs i10).mp z)) (nm_r (nI_1 i) ?_)
        rw [← gf_cf hz]
        refine ih (i + 1) g (by omega) ?_
        rw [gf_gf b]
        exact hg
  exact xs_sep ⟨11, L 10 0 _ rfl (gw_spa g)⟩
theorem xs_tre {post : Int32 → SX → Prop} {n d : Nat} {M : Int32} {A B g : Nat → Int32} {s : Nat} (hs : s < 1024) (hn : 1 ≤ n) (hn6 : n ≤ 6) (hd : d < 1024) (hA : gw_in A) (hB : gw_in B) (h : ∀ g', post (gt_b (gt_t n d (gw_n A) (gw_n B) s)) (nI n, nI d, M, A, B, g')) : wpX_isTree post (nI n, nI d, M, A, B, g) (nI s) := by
  have hl : s &&& d < 1024 := gb_landlt s hd
  have hc10 := gf_cle s.testBit 10
  have hz10 := gf_cle (gf_z (gw_n A) (gw_n B) s.testBit) 10
  have e1 : nI n - 1 = nI (n - 1) := pk_sub (a := n) (b := 1) hn
  have hp : ∀ b g', gt_t n d (gw_n A) (gw_n B) s = b → post (gt_b b) (nI n, nI d, M, A, B, g') := fun b g' e => e ▸ h g'
  unfold wpX_isTree
  refine br_c (fun c1 => xs_siz hs (br_c (fun c2 => xs_clo hs hA hB (fun g' => br_c (fun c3 => ?_) (fun c3 => ?_))) (fun c2 => ?_))) (fun c1 => ?_)
  · rw [gb_and, nI_eq (by omega) (by omega)] at c1
    rw [e1, nI_eq (by omega) (by omega)] at c2
    rw [← nI_0, nI_eq (by omega) (by omega)] at c3
    exact hp true g' (by unfold gt_t gt_q; rw [decide_eq_true c1, decide_eq_true c2, decide_eq_true c3]; rfl)
  · rw [← nI_0, nI_eq (by omega) (by omega)] at c3
    exact hp false g' (by unfold gt_t gt_q; rw [decide_eq_false c3, Bool.and_false, Bool.and_false])
  · rw [e1, nI_eq (by omega) (by omega)] at c2
    exact hp false g (by unfold gt_t; rw [decide_eq_false c2, Bool.false_and])
  · rw [gb_and, nI_eq (by omega) (by omega)] at c1
    exact hp false g (by unfold gt_t gt_q; rw [decide_eq_false c1, Bool.false_and, Bool.and_false])
theorem xs_cnt {post : Int32 → SX → Prop} {n d : Nat} {M : Int32} {A B g : Nat → Int32} {nd L : Nat} (hL : L ≤ 1024) (hnd : nd < 1024) (hn : 1 ≤ n) (hn6 : n ≤ 6) (hd : d < 1024) (hA : gw_in A) (hB : gw_in B) (h : ∀ g', post (nI (gf_c (gt_h n d (gw_n A) (gw_n B) nd) L)) (nI n, nI d, M, A, B, g')) : wpX_countTrees post (nI n, nI d, M, A, B, g) (nI nd) (nI L) := by
  have K : ∀ j i g, i + j = L → wX_countTrees_5 post (nI nd) (nI L) (j + 1) (nI (gf_c (gt_h n d (gw_n A) (gw_n B) nd) i)) (nI i) (nI n) (nI d) M A B g := by
    intro j
    induction j with
    | zero =>
      intro i g hi
      have e : i = L := by omega
      subst e
      exact br_t (gn_Le _) (h g)
    | succ j ih =>
      intro i g hi
      have hl : i &&& nd < 1024 := gb_landlt i hnd
      refine br_f (gn_L (by omega) hL) (br_c (fun c => ?_) (fun c => ?_))
      · rw [gb_and, nI_eq (by omega) (by omega)] at c
        refine xs_tre (by omega) hn hn6 hd hA hB (fun g' => ?_)
        cases t : gt_t n d (gw_n A) (gw_n B) i
        · have hz : ¬ gt_h n d (gw_n A) (gw_n B) nd i = true := by unfold gt_h; rw [t, Bool.and_false]; decide
          refine br_t gt_bf (nm_r (nI_1 i) ?_)
          rw [← gf_cf hz]
          exact ih (i + 1) g' (by omega)
        · have hz : gt_h n d (gw_n A) (gw_n B) nd i = true := by unfold gt_h; rw [t, decide_eq_true c]; rfl
          exact br_f (by decide) (nm_r (by rw [nI_1, ← gf_ct hz]) (nm_r (nI_1 i) (ih (i + 1) g' (by omega))))
      · rw [gb_and, nI_eq (by omega) (by omega)] at c
        have hz : ¬ gt_h n d (gw_n A) (gw_n B) nd i = true := by unfold gt_h; rw [decide_eq_false c, Bool.false_and]; decide
        refine nm_r (nI_1 i) ?_
        rw [← gf_cf hz]
        exact ih (i + 1) g (by omega)
  exact ⟨L + 1, K L 0 g (by omega)⟩
theorem xs_fnd {post : Int32 → SX → Prop} {n d : Nat} {M : Int32} {A B g : Nat → Int32} {r : Int32} (hn : 1 ≤ n) (hn6 : n ≤ 6) (hd : d < 1024) (hA : gw_in A) (hB : gw_in B) (h : ∀ g', post (gt_f (gt_t n d (gw_n A) (gw_n B)) r 1024 0 0) (nI n, nI d, M, A, B, g')) : wpX_tree post (nI n, nI d, M, A, B, g) r := by
  have K : ∀ j i c g, i + j = 1024 → (∀ g', post (gt_f (gt_t n d (gw_n A) (gw_n B)) r j i c) (nI n, nI d, M, A, B, g')) → wX_tree_4 post r (j + 1) (nI c) (nI i) (nI n) (nI d) M A B g := by
    intro j
    induction j with
    | zero =>
      intro i c g hi hp
      have e : i = 1024 := by omega
      subst e
      exact br_t gn_ke (hp g)
    | succ j ih =>
      intro i c g hi hp
      refine br_f (gn_k (by omega)) (xs_tre (by omega) hn hn6 hd hA hB (fun g' => ?_))
      cases t : gt_t n d (gw_n A) (gw_n B) i
      · refine br_t gt_bf (nm_r (nI_1 i) (ih (i + 1) c g' (by omega) (fun g2 => ?_)))
        rw [← gt_ff t]
        exact hp g2
      · refine br_f (by decide) (br_c (fun e => ?_) (fun e => ?_))
        · have q := hp g'
          rw [gt_fh t e] at q
          exact q
        · refine nm_r (nI_1 c) (nm_r (nI_1 i) (ih (i + 1) (c + 1) g' (by omega) (fun g2 => ?_)))
          rw [← gt_fn t e]
          exact hp g2
  exact ⟨1025, K 1024 0 0 g rfl h⟩
