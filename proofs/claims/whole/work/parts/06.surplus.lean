/-! ===== the reference's surplus ===== -/
theorem gs_f {l i e : Nat} (h : ∀ q, q < 10 → l.testBit q = (decide (q < i) && e.testBit q)) (hb : e.testBit i = false) : ∀ q, q < 10 → l.testBit q = (decide (q < i + 1) && e.testBit q) := by
  intro q hq
  rw [h q hq]
  by_cases z : q = i
  · rw [z, hb, Bool.and_false, Bool.and_false]
  · rw [decide_eq_decide.mpr (show q < i ↔ q < i + 1 by omega)]
theorem gs_t {l i e : Nat} (h : ∀ q, q < 10 → l.testBit q = (decide (q < i) && e.testBit q)) (hb : e.testBit i = true) : ∀ q, q < 10 → (l ||| 2 ^ i).testBit q = (decide (q < i + 1) && e.testBit q) := by
  intro q hq
  rw [gb_set, h q hq]
  by_cases z : q = i
  · rw [z, hb, decide_eq_true (rfl : i = i), decide_eq_true (show i < i + 1 by omega), Bool.or_true]
    rfl
  · rw [decide_eq_decide.mpr (show q < i ↔ q < i + 1 by omega), decide_eq_false (show ¬ i = q by omega), Bool.or_false]
theorem ys_lea {post : Int32 → SY → Prop} {d e : Nat} {N M : Int32} {th A B g : Nat → Int32} (he : e < 1024) (hed : e &&& d = e) (ht : gr_th d th) (hA : gw_in A) (hB : gw_in B) (h : ∀ g', post (nI (gf_c (gf_z (gw_n A) (gw_n B) e.testBit) 10)) (N, M, th, A, B, g')) : ∃ f, wY_surplus_48 post (nI e) f 10 0 N M th A B g := by
  obtain ⟨s0, s0l, s0e, s0q, s0c⟩ := gt_ex (F := gw_n A) (T := gw_n B) (gw_nl hA) (gw_nl hB) hed he
  have hz10 := gf_cle (gf_z (gw_n A) (gw_n B) e.testBit) 10
  have he10 := gf_cle e.testBit 10
  have K : ∀ j i l g, i + j = 1024 → l ≤ 10 → gf_c (gf_z (gw_n A) (gw_n B) e.testBit) 10 ≤ l → (s0 < i → l = gf_c (gf_z (gw_n A) (gw_n B) e.testBit) 10) → wY_surplus_48 post (nI e) (j + 1) (nI l) (nI i) N M th A B g := by
    intro j
    induction j with
    | zero =>
      intro i l g hi h1 h2 h3
      have e1 : i = 1024 := by omega
      subst e1
      have e2 := h3 s0l
      rw [e2]
      exact br_t gn_ke (h g)
    | succ j ih =>
      intro i l g hi h1 h2 h3
      have i10 : i < 1024 := by omega
      have hx : i ^^^ (i &&& e) < 1024 := gb_lxorlt i10 (gb_landlt i he)
      refine br_f (gn_k i10) (br_c (fun c => ?_) (fun c => ?_))
      · rw [gb_no, ← nI_0, nI_eq (by omega) (by omega), gb_x0] at c
        refine ys_rin i10 ht hA hB (fun g' => ?_)
        cases q : gt_q d (gw_n A) (gw_n B) i
        · refine br_t gt_bf (nm_r (nI_1 i) (ih (i + 1) l g' (by omega) h1 h2 (fun z => h3 ?_)))
          have ne : s0 ≠ i := by
            intro w
            rw [w, q] at s0q
            exact absurd s0q (by decide)
          omega
        · have hg := gt_ge (d := d) (F := gw_n A) (T := gw_n B) (B := e) (gw_nl hA) (gw_nl hB) i10 c q
          refine br_f (by decide) (ys_one he (ys_one i10 (nm_r (pk_sub hg.1) ?_)))
          have hw : s0 = i → gf_c e.testBit 10 - gf_c i.testBit 10 = gf_c (gf_z (gw_n A) (gw_n B) e.testBit) 10 := by
            intro w
            rw [w] at s0c
            exact s0c
          refine br_c (fun y => ?_) (fun y => ?_)
          · rw [nI_leI (by omega) (by omega)] at y
            refine nm_r (nI_1 i) (ih (i + 1) l g' (by omega) h1 h2 (fun z => ?_))
            by_cases w : s0 = i
            · have := hw w
              omega
            · exact h3 (by omega)
          · rw [nI_leI (by omega) (by omega)] at y
            refine nm_r (nI_1 i) (ih (i + 1) _ g' (by omega) (by omega) hg.2 (fun z => ?_))
            by_cases w : s0 = i
            · exact hw w
            · have := h3 (by omega)
              omega
      · rw [gb_no, ← nI_0, nI_eq (by omega) (by omega), gb_x0] at c
        refine nm_r (nI_1 i) (ih (i + 1) l g (by omega) h1 h2 (fun z => h3 ?_))
        have ne : s0 ≠ i := by
          intro w
          rw [w] at s0e
          exact c s0e
        omega
  exact ⟨1025, K 1024 0 10 g rfl (by omega) hz10 (fun z => absurd z (by omega))⟩
theorem ys_sur {post : Int32 → SY → Prop} {d m : Nat} {N : Int32} {th A B g : Nat → Int32} (hd : d < 1024) (hm : m < 1024) (ht : gr_th d th) (hA : gw_in A) (hB : gw_in B) (h : ∀ g', post (nI (gf_c (gf_z (gw_n A) (gw_n B) (m &&& d).testBit) 10)) (N, nI m, th, A, B, g')) : wpY_surplus post (N, nI m, th, A, B, g) := by
  have he : m &&& d < 1024 := gb_landlt m hd
  have hed : (m &&& d) &&& d = m &&& d := by
    rw [gb_sub he]
    intro k hk z
    rw [Nat.testBit_and, Bool.and_eq_true] at z
    exact z.2
  have K : ∀ j i l, i + j = 10 → l < 1024 → (∀ q, q < 10 → l.testBit q = (decide (q < i) && (m &&& d).testBit q)) → wY_surplus_4 post N (nI m) th A B g (j + 1) (nI l) (nI i) := by
    intro j
    induction j with
    | zero =>
      intro i l hi hl hq
      have e1 : i = 10 := by omega
      subst e1
      have e2 : l = m &&& d := gb_ext hl he (fun k hk => by rw [hq k hk, decide_eq_true hk, Bool.true_and])
      subst e2
      exact br_t gn_10e (ys_lea he hed ht hA hB h)
    | succ j ih =>
      intro i l hi hl hq
      have i10 : i < 10 := by omega
      have hc : (nI i).toNatClampNeg = i := gn_cl (by omega)
      have hv : vp_in (nI i) 10 := vp_in_nI i10 (by omega)
      have hth : th (nI i).toNatClampNeg = 0 ↔ d.testBit i = false := by rw [hc]; exact gr_t0 ht i10
      have hb : (m &&& d).testBit i = (m.testBit i && d.testBit i) := Nat.testBit_and m d i
      refine br_f (gn_10 i i10) ⟨hv, br_c (fun z => ?_) (fun z => ?_)⟩
      · refine nm_r (nI_1 i) (ih (i + 1) l (by omega) hl (gs_f hq ?_))
        rw [hb, hth.mp z, Bool.and_false]
      · have z2 : d.testBit i = true := by
          cases y : d.testBit i
          · exact absurd (hth.mpr y) z
          · rfl
        by_cases b : m.testBit i = true
        · refine br_t ((gb_b1 hm i10).mpr b) (nm_r (by rw [gb_sh i i10, gb_or]) (nm_r (nI_1 i) (ih (i + 1) (l ||| 2 ^ i) (by omega) (gb_lorlt hl (gb_p2 i i10)) (gs_t hq ?_))))
          rw [hb, z2, b]
          rfl
        · refine br_f (fun w => b ((gb_b1 hm i10).mp w)) (nm_r (nI_1 i) (ih (i + 1) l (by omega) hl (gs_f hq ?_)))
          rw [hb, Bool.eq_false_iff.mpr b, Bool.false_and]
  exact ⟨11, K 10 0 0 rfl (by omega) (fun q hq => by rw [Nat.zero_testBit, decide_eq_false (Nat.not_lt_zero q), Bool.false_and])⟩
