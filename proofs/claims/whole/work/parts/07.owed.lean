/-! ===== the relation, and what is owed ===== -/
def i_Rel (_ : Nat) (u : SX) (v : SY) : Prop := ∃ (n d m : Nat) (A B g th p : Nat → Int32), u = (nI n, nI d, nI m, A, B, g) ∧ v = (nI n, nI m, th, A, B, p) ∧ 1 ≤ n ∧ n ≤ 6 ∧ d < 1024 ∧ m < 1024 ∧ gw_in A ∧ gw_in B ∧ gr_th d th
theorem i_up {k : Nat} {u : SX} {v : SY} (h : i_Rel k u v) : i_Rel (k + 4) u v := h
theorem gr_new {n : Nat} (h1 : 1 ≤ n) (h6 : n ≤ 6) : i_Rel 1 (nI n, 0, 0, (fun _ => 0), (fun _ => 0), (fun _ => 0)) (nI n, 0, (fun _ => 0), (fun _ => 0), (fun _ => 0), (fun _ => 0)) := by
  have hi : gw_in (fun _ => 0) := fun k hk => vp_in_nI (n := 0) (N := 6) (by omega) (by omega)
  have ht : gr_th 0 (fun _ => 0) := by
    intro k hk
    show (0 : Int32) = gt_b (Nat.testBit 0 k)
    rw [Nat.zero_testBit]
    rfl
  exact ⟨n, 0, 0, _, _, _, _, _, rfl, rfl, h1, h6, by omega, by omega, hi, hi, ht⟩
theorem i_vc0 (k0 : Int32) : wpX_init (fun u => wpY_init (fun v => i_Rel 1 u v) k0) k0 := by
  unfold wpX_init wpY_init
  refine br_c (fun a => br_c (fun b => br_t a (br_t b ?_)) (fun b => br_t a (br_f b ?_))) (fun a => br_f a ?_)
  · obtain ⟨j, hj, e⟩ := nI_of2 (x := k0) (M := 6) (n := 6) (by decide) (Int32.not_lt.mpr (Int32.le_trans (by decide : (0 : Int32) ≤ 1) a)) b
    subst e
    have a2 : nI 1 ≤ nI j := a
    rw [nI_leI (by omega) (by omega)] at a2
    exact gr_new a2 hj
  · exact gr_new (n := 6) (by omega) (by omega)
  · exact gr_new (n := 1) (by omega) (by omega)
/-! lines and points, refused or not -/
theorem xl_no {post : Int32 → Prop} {x : Int32} (hb : x < 0 ∨ nI 10 ≤ x) (h : post 0) : wpX_isLine post x := by
  unfold wpX_isLine
  refine br_c (fun _ => h) (fun c => ?_)
  exact br_t (hb.resolve_left c) h
theorem xl_ok {post : Int32 → Prop} {k : Nat} (hk : k < 10) (h : post 1) : wpX_isLine post (nI k) := br_f (nI_pos (by omega)) (br_f (gn_10 k hk) h)
theorem yl_no {post : Int32 → Prop} {x : Int32} (hb : x < 0 ∨ nI 10 ≤ x) (h : post 1) : wpY_badLine post x := by
  unfold wpY_badLine
  refine br_c (fun _ => h) (fun c => ?_)
  exact br_f (fun z => absurd (Int32.le_trans (hb.resolve_left c) z) (by decide)) h
theorem gn_9 : ∀ k, k < 10 → nI k ≤ (9 : Int32) := by decide +kernel
theorem yl_ok {post : Int32 → Prop} {k : Nat} (hk : k < 10) (h : post 0) : wpY_badLine post (nI k) := br_f (nI_pos (by omega)) (br_t (gn_9 k hk) h)
theorem xp_no {post : Int32 → Prop} {n : Nat} {x D M : Int32} {A B g : Nat → Int32} (hb : x < 0 ∨ nI n ≤ x) (h : post 0) : wpX_isPoint post (nI n, D, M, A, B, g) x := by
  unfold wpX_isPoint
  refine br_c (fun _ => h) (fun c => ?_)
  exact br_t (hb.resolve_left c) h
theorem xp_ok {post : Int32 → Prop} {n j : Nat} {D M : Int32} {A B g : Nat → Int32} (hn : n ≤ 6) (hj : j < n) (h : post 1) : wpX_isPoint post (nI n, D, M, A, B, g) (nI j) := br_f (nI_pos (by omega)) (br_f (nI_ge hj (by omega)) h)
theorem yp_no {post : Int32 → Prop} {n : Nat} {x M : Int32} {th A B g : Nat → Int32} (hb : x < 0 ∨ nI n ≤ x) (h : post 1) : wpY_badPoint post (nI n, M, th, A, B, g) x := by
  unfold wpY_badPoint
  refine br_c (fun _ => h) (fun c => ?_)
  exact br_f (Int32.not_lt.mpr (hb.resolve_left c)) h
theorem yp_ok {post : Int32 → Prop} {n j : Nat} {M : Int32} {th A B g : Nat → Int32} (hn : n ≤ 6) (hj : j < n) (h : post 0) : wpY_badPoint post (nI n, M, th, A, B, g) (nI j) := br_f (nI_pos (by omega)) (br_t (nI_lt hj (by omega)) h)
theorem gn_ix (x : Int32) (n : Nat) (hn : n ≤ 10) : (x < 0 ∨ nI n ≤ x) ∨ ∃ j : Nat, j < n ∧ x = nI j := by
  rcases pk_ix x (n := n) (by omega) with h | h | h
  · exact Or.inl (Or.inl h)
  · exact Or.inl (Or.inr h)
  · exact Or.inr h
theorem gn_1 : ¬ (1 : Int32) = 0 := by decide
theorem i_vc_draw {k : Nat} {u : SX} {v : SY} (I : i_Rel k u v) (hk : k + 4 ≤ 2049) (v1 : Int32) (v2 : Int32) (v3 : Int32) : wpX_draw (fun r u' => wpY_draw (fun r' v' => r' = r ∧ i_Rel (k + 4) u' v') v v1 v2 v3) u v1 v2 v3 := by
  have I0 := I
  obtain ⟨n, d, m, A, B, g, th, p, rfl, rfl, hn, hn6, hd, hm, hA, hB, ht⟩ := I
  unfold wpX_draw wpY_draw
  rcases gn_ix v1 10 (by omega) with h1 | ⟨l, hl, rfl⟩
  · exact xl_no h1 (br_t rfl (yl_no h1 (br_f gn_1 ⟨rfl, I0⟩)))
  · refine xl_ok hl (br_f gn_1 ?_)
    rcases gn_ix v2 n (by omega) with h2 | ⟨a, ha, rfl⟩
    · exact xp_no h2 (br_t rfl (yl_ok hl (br_t rfl (yp_no h2 (br_f gn_1 ⟨rfl, I0⟩)))))
    · refine xp_ok hn6 ha (br_f gn_1 ?_)
      rcases gn_ix v3 n (by omega) with h3 | ⟨b, hb, rfl⟩
      · exact xp_no h3 (br_t rfl (yl_ok hl (br_t rfl (yp_ok hn6 ha (br_t rfl (yp_no h3 (br_f gn_1 ⟨rfl, I0⟩)))))))
      · refine xp_ok hn6 hb (br_f gn_1 ?_)
        have hv : vp_in (nI l) 10 := vp_in_nI hl (by omega)
        have hc : (nI l).toNatClampNeg = l := gn_cl (by omega)
        refine br_c (fun e => yl_ok hl (br_t rfl (yp_ok hn6 ha (br_t rfl (yp_ok hn6 hb (br_t rfl (br_t e ⟨rfl, I0⟩))))))) (fun e => ?_)
        refine ⟨hv, nm_r (e' := upd A l (nI a)) (by rw [hc]) ⟨hv, nm_r (e' := upd B l (nI b)) (by rw [hc]) (nm_r (e' := nI (d ||| 2 ^ l)) (by rw [gb_sh l hl, gb_or]) ?_)⟩⟩
        refine yl_ok hl (br_t rfl (yp_ok hn6 ha (br_t rfl (yp_ok hn6 hb (br_t rfl (br_f e ?_))))))
        refine ⟨hv, nm_r (e' := upd th l 1) (by rw [hc]; rfl) ⟨hv, nm_r (e' := upd A l (nI a)) (by rw [hc]) ⟨hv, nm_r (e' := upd B l (nI b)) (by rw [hc]) ?_⟩⟩⟩
        refine ⟨rfl, n, d ||| 2 ^ l, m, _, _, _, _, _, rfl, rfl, hn, hn6, gb_lorlt hd (gb_p2 l hl), hm, gw_inu hA (by omega), gw_inu hB (by omega), ?_⟩
        intro q hq
        rw [gb_set]
        by_cases e2 : q = l
        · rw [e2, pk_us, decide_eq_true (rfl : l = l), Bool.or_true]
          rfl
        · rw [pk_un e2, decide_eq_false (fun w => e2 w.symm), Bool.or_false]
          exact ht q hq
theorem i_vc_cut {k : Nat} {u : SX} {v : SY} (I : i_Rel k u v) (hk : k + 4 ≤ 2049) (v1 : Int32) : wpX_cut (fun r u' => wpY_cut (fun r' v' => r' = r ∧ i_Rel (k + 4) u' v') v v1) u v1 := by
  have I0 := I
  obtain ⟨n, d, m, A, B, g, th, p, rfl, rfl, hn, hn6, hd, hm, hA, hB, ht⟩ := I
  unfold wpX_cut wpY_cut
  rcases gn_ix v1 10 (by omega) with h1 | ⟨l, hl, rfl⟩
  · exact xl_no h1 (br_t rfl (yl_no h1 (br_f gn_1 ⟨rfl, I0⟩)))
  · have hv : vp_in (nI l) 10 := vp_in_nI hl (by omega)
    have hc : (nI l).toNatClampNeg = l := gn_cl (by omega)
    have hth : th (nI l).toNatClampNeg = 0 ↔ d.testBit l = false := by rw [hc]; exact gr_t0 ht hl
    refine xl_ok hl (br_f gn_1 (nm_r (gb_bit hd hl) (nm_r (e' := nI (d ^^^ (d &&& 2 ^ l))) (by rw [gb_sh l hl, gb_no]) ?_)))
    have R : i_Rel (k + 4) (nI n, nI (d ^^^ (d &&& 2 ^ l)), nI m, A, B, g) (nI n, nI m, upd th l 0, A, B, p) := by
      refine ⟨n, d ^^^ (d &&& 2 ^ l), m, A, B, g, upd th l 0, p, rfl, rfl, hn, hn6, gb_lxorlt hd (gb_landlt d (gb_p2 l hl)), hm, hA, hB, ?_⟩
      intro q hq
      rw [gb_clr]
      by_cases e2 : q = l
      · rw [e2, pk_us, decide_eq_true (rfl : l = l), Bool.not_true, Bool.and_false]
        rfl
      · rw [pk_un e2, decide_eq_false (fun w => e2 w.symm), Bool.not_false, Bool.and_true]
        exact ht q hq
    refine yl_ok hl (br_t rfl ⟨hv, br_c (fun z => ?_) (fun z => ?_)⟩)
    · refine ⟨hv, nm_r (e' := upd th l 0) (by rw [hc]; rfl) ⟨?_, R⟩⟩
      rw [hth.mp z]
      rfl
    · have z2 : d.testBit l = true := by
        cases y : d.testBit l
        · exact absurd (hth.mpr y) z
        · rfl
      refine ⟨hv, nm_r (e' := upd th l 0) (by rw [hc]; rfl) ⟨?_, R⟩⟩
      rw [z2]
      rfl
theorem i_vc_mark {k : Nat} {u : SX} {v : SY} (I : i_Rel k u v) (hk : k + 4 ≤ 2049) (v1 : Int32) : wpX_mark (fun r u' => wpY_mark (fun r' v' => r' = r ∧ i_Rel (k + 4) u' v') v v1) u v1 := by
  have I0 := I
  obtain ⟨n, d, m, A, B, g, th, p, rfl, rfl, hn, hn6, hd, hm, hA, hB, ht⟩ := I
  unfold wpX_mark wpY_mark
  rcases gn_ix v1 10 (by omega) with h1 | ⟨l, hl, rfl⟩
  · exact xl_no h1 (br_t rfl (yl_no h1 (br_f gn_1 ⟨rfl, I0⟩)))
  · have e : nI m ^^^ ((1 : Int32) <<< (nI l &&& 31)) = nI (m ^^^ 2 ^ l) := by rw [gb_sh l hl, gb_xor]
    refine xl_ok hl (br_f gn_1 (nm_r e (yl_ok hl (br_t rfl (nm_r e ⟨rfl, ?_⟩)))))
    exact ⟨n, d, m ^^^ 2 ^ l, A, B, g, th, p, rfl, rfl, hn, hn6, hd, gb_lxorlt hm (gb_p2 l hl), hA, hB, ht⟩
theorem i_vc_trees {k : Nat} {u : SX} {v : SY} (I : i_Rel k u v) (hk : k + 4 ≤ 2049) : wpX_trees (fun r u' => wpY_trees (fun r' v' => r' = r ∧ i_Rel (k + 4) u' v') v) u := by
  obtain ⟨n, d, m, A, B, g, th, p, rfl, rfl, hn, hn6, hd, hm, hA, hB, ht⟩ := I
  unfold wpX_trees wpY_trees
  refine xs_cnt (nd := 0) (L := 1024) (by omega) (by omega) hn hn6 hd hA hB (fun g' => ?_)
  refine ys_cnt (nd := 0) (L := 1024) (by omega) (by omega) hn hn6 ht hA hB (fun p' => ?_)
  exact ⟨rfl, n, d, m, A, B, g', th, p', rfl, rfl, hn, hn6, hd, hm, hA, hB, ht⟩
theorem i_vc_treesWith {k : Nat} {u : SX} {v : SY} (I : i_Rel k u v) (hk : k + 4 ≤ 2049) (v1 : Int32) : wpX_treesWith (fun r u' => wpY_treesWith (fun r' v' => r' = r ∧ i_Rel (k + 4) u' v') v v1) u v1 := by
  have I0 := I
  obtain ⟨n, d, m, A, B, g, th, p, rfl, rfl, hn, hn6, hd, hm, hA, hB, ht⟩ := I
  unfold wpX_treesWith wpY_treesWith
  rcases gn_ix v1 10 (by omega) with h1 | ⟨l, hl, rfl⟩
  · exact xl_no h1 (br_t rfl (yl_no h1 (br_f gn_1 ⟨rfl, I0⟩)))
  · rw [gb_sh l hl]
    refine xl_ok hl (br_f gn_1 (xs_cnt (L := 1024) (by omega) (gb_p2 l hl) hn hn6 hd hA hB (fun g' => ?_)))
    refine yl_ok hl (br_t rfl (ys_cnt (L := 1024) (by omega) (gb_p2 l hl) hn hn6 ht hA hB (fun p' => ?_)))
    exact ⟨rfl, n, d, m, A, B, g', th, p', rfl, rfl, hn, hn6, hd, hm, hA, hB, ht⟩
theorem i_vc_treesWithBoth {k : Nat} {u : SX} {v : SY} (I : i_Rel k u v) (hk : k + 4 ≤ 2049) (v1 : Int32) (v2 : Int32) : wpX_treesWithBoth (fun r u' => wpY_treesWithBoth (fun r' v' => r' = r ∧ i_Rel (k + 4) u' v') v v1 v2) u v1 v2 := by
  have I0 := I
  obtain ⟨n, d, m, A, B, g, th, p, rfl, rfl, hn, hn6, hd, hm, hA, hB, ht⟩ := I
  unfold wpX_treesWithBoth wpY_treesWithBoth
  rcases gn_ix v1 10 (by omega) with h1 | ⟨l, hl, rfl⟩
  · exact xl_no h1 (br_t rfl (yl_no h1 (br_f gn_1 ⟨rfl, I0⟩)))
  · refine xl_ok hl (br_f gn_1 ?_)
    rcases gn_ix v2 10 (by omega) with h2 | ⟨j, hj, rfl⟩
    · exact xl_no h2 (br_t rfl (yl_ok hl (br_t rfl (yl_no h2 (br_f gn_1 ⟨rfl, I0⟩)))))
    · rw [gb_sh l hl, gb_sh j hj, gb_or]
      have hb := gb_lorlt (gb_p2 l hl) (gb_p2 j hj)
      refine xl_ok hj (br_f gn_1 (xs_cnt (L := 1024) (by omega) hb hn hn6 hd hA hB (fun g' => ?_)))
      refine yl_ok hl (br_t rfl (yl_ok hj (br_t rfl (ys_cnt (L := 1024) (by omega) hb hn hn6 ht hA hB (fun p' => ?_)))))
      exact ⟨rfl, n, d, m, A, B, g', th, p', rfl, rfl, hn, hn6, hd, hm, hA, hB, ht⟩
theorem i_vc_tree {k : Nat} {u : SX} {v : SY} (I : i_Rel k u v) (hk : k + 4 ≤ 2049) (v1 : Int32) : wpX_tree (fun r u' => wpY_tree (fun r' v' => r' = r ∧ i_Rel (k + 4) u' v') v v1) u v1 := by
  obtain ⟨n, d, m, A, B, g, th, p, rfl, rfl, hn, hn6, hd, hm, hA, hB, ht⟩ := I
  refine xs_fnd hn hn6 hd hA hB (fun g' => ?_)
  refine ys_fnd hn hn6 ht hA hB (fun p' => ?_)
  exact ⟨rfl, n, d, m, A, B, g', th, p', rfl, rfl, hn, hn6, hd, hm, hA, hB, ht⟩
theorem i_vc_rank {k : Nat} {u : SX} {v : SY} (I : i_Rel k u v) (hk : k + 4 ≤ 2049) : wpX_rank (fun r u' => wpY_rank (fun r' v' => r' = r ∧ i_Rel (k + 4) u' v') v) u := by
  obtain ⟨n, d, m, A, B, g, th, p, rfl, rfl, hn, hn6, hd, hm, hA, hB, ht⟩ := I
  unfold wpX_rank wpY_rank
  refine xs_tre hm hn hn6 hd hA hB (fun g' => ?_)
  cases t : gt_t n d (gw_n A) (gw_n B) m
  · refine br_t gt_bf (ys_tre hm hn hn6 ht hA hB (fun p' => ?_))
    rw [t]
    exact br_t gt_bf ⟨rfl, n, d, m, A, B, g', th, p', rfl, rfl, hn, hn6, hd, hm, hA, hB, ht⟩
  · refine br_f (by decide) (xs_cnt (nd := 0) (by omega) (by omega) hn hn6 hd hA hB (fun g2 => ?_))
    refine ys_tre hm hn hn6 ht hA hB (fun p' => ?_)
    rw [t]
    refine br_f (by decide) (ys_cnt (nd := 0) (by omega) (by omega) hn hn6 ht hA hB (fun p2 => ?_))
    exact ⟨rfl, n, d, m, A, B, g2, th, p2, rfl, rfl, hn, hn6, hd, hm, hA, hB, ht⟩
theorem i_vc_below {k : Nat} {u : SX} {v : SY} (I : i_Rel k u v) (hk : k + 4 ≤ 2049) : wpX_below (fun r u' => wpY_below (fun r' v' => r' = r ∧ i_Rel (k + 4) u' v') v) u := by
  obtain ⟨n, d, m, A, B, g, th, p, rfl, rfl, hn, hn6, hd, hm, hA, hB, ht⟩ := I
  unfold wpX_below wpY_below
  refine xs_cnt (nd := 0) (by omega) (by omega) hn hn6 hd hA hB (fun g' => ?_)
  refine ys_cnt (nd := 0) (by omega) (by omega) hn hn6 ht hA hB (fun p' => ?_)
  exact ⟨rfl, n, d, m, A, B, g', th, p', rfl, rfl, hn, hn6, hd, hm, hA, hB, ht⟩
theorem i_vc_extensions {k : Nat} {u : SX} {v : SY} (I : i_Rel k u v) (hk : k + 4 ≤ 2049) : wpX_extensions (fun r u' => wpY_extensions (fun r' v' => r' = r ∧ i_Rel (k + 4) u' v') v) u := by
  obtain ⟨n, d, m, A, B, g, th, p, rfl, rfl, hn, hn6, hd, hm, hA, hB, ht⟩ := I
  unfold wpX_extensions wpY_extensions
  refine xs_cnt (L := 1024) (by omega) hm hn hn6 hd hA hB (fun g' => ?_)
  refine ys_cnt (L := 1024) (by omega) hm hn hn6 ht hA hB (fun p' => ?_)
  exact ⟨rfl, n, d, m, A, B, g', th, p', rfl, rfl, hn, hn6, hd, hm, hA, hB, ht⟩
theorem i_vc_surplus {k : Nat} {u : SX} {v : SY} (I : i_Rel k u v) (hk : k + 4 ≤ 2049) : wpX_surplus (fun r u' => wpY_surplus (fun r' v' => r' = r ∧ i_Rel (k + 4) u' v') v) u := by
  obtain ⟨n, d, m, A, B, g, th, p, rfl, rfl, hn, hn6, hd, hm, hA, hB, ht⟩ := I
  unfold wpX_surplus
  dsimp only
  rw [gb_and]
  refine xs_clo (gb_landlt m hd) hA hB (fun g' => ?_)
  refine ys_sur hd hm ht hA hB (fun p' => ?_)
  exact ⟨rfl, n, d, m, A, B, g', th, p', rfl, rfl, hn, hn6, hd, hm, hA, hB, ht⟩
