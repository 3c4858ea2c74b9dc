section
variable {n c : Nat} (o : Int32) (sc bn hs lh yh nw : Nat → Int32)
theorem sd_word (hn : n ≤ 5) (d : Int32) : ∃ r : Int32, (∀ post : Int32 → Prop, post r → wpX_isWord post (nI n, o, nI c, sc, bn, hs, lh) d) ∧ (r = 0 ∧ (d < 1 ∨ ¬ d < 1 ∧ nI n < d) ∨ r = 1 ∧ ¬ d < 1 ∧ ¬ nI n < d ∧ ∃ j : Nat, 1 ≤ j ∧ j ≤ n ∧ d = nI j) := by
  by_cases h1 : d < 1
  · exact ⟨0, fun post hp => br_t h1 hp, Or.inl ⟨rfl, Or.inl h1⟩⟩
  · by_cases h2 : nI n < d
    · exact ⟨0, fun post hp => br_f h1 (br_t h2 hp), Or.inl ⟨rfl, Or.inr ⟨h1, h2⟩⟩⟩
    · refine ⟨1, fun post hp => br_f h1 (br_f h2 hp), Or.inr ⟨rfl, h1, h2, ?_⟩⟩
      have h0 : ¬ d < 0 := fun z => h1 (Int32.lt_trans z (by decide))
      obtain ⟨j, hj, rfl⟩ := nI_of h0
      rw [show (1 : Int32) = nI 1 from rfl, nI_ltI hj (by omega)] at h1
      rw [nI_ltI (by omega) hj] at h2
      exact ⟨j, by omega, by omega, rfl⟩
theorem sd_arc (hn : n ≤ 5) (h d : Int32) : ∃ r : Int32, (∀ post : Int32 → Prop, post r → wpX_isArc post (nI n, o, nI c, sc, bn, hs, lh) h d) ∧ (∀ post : Int32 → Prop, post r → wpY_isArc post (nI n, nI c, sc, bn, yh, nw) h d) ∧
    (r = 0 ∨ r = 1 ∧ ∃ i j : Nat, i ≤ n ∧ 1 ≤ j ∧ j ≤ n ∧ h = nI i ∧ d = nI j) := by
  by_cases h0 : h < 0
  · exact ⟨0, fun post hp => br_t h0 hp, fun post hp => br_t h0 hp, Or.inl rfl⟩
  · by_cases h1 : nI n < h
    · exact ⟨0, fun post hp => br_f h0 (br_t h1 hp), fun post hp => br_f h0 (br_t h1 hp), Or.inl rfl⟩
    · obtain ⟨r, hX, hr⟩ := sd_word (c := c) o sc bn hs lh hn d
      rcases hr with ⟨rfl, hd⟩ | ⟨rfl, hd1, hd2, j, hj1, hj2, rfl⟩
      · refine ⟨0, fun post hp => br_f h0 (br_f h1 (hX _ (br_t rfl hp))), fun post hp => br_f h0 (br_f h1 ?_), Or.inl rfl⟩
        rcases hd with hd | ⟨hd1, hd2⟩
        · exact br_t hd hp
        · exact br_f hd1 (br_t hd2 hp)
      · have h10 : ¬ (1 : Int32) = 0 := by decide
        by_cases he : h = nI j
        · exact ⟨0, fun post hp => br_f h0 (br_f h1 (hX _ (br_f h10 (br_t he hp)))), fun post hp => br_f h0 (br_f h1 (br_f hd1 (br_f hd2 (br_t he hp)))), Or.inl rfl⟩
        · refine ⟨1, fun post hp => br_f h0 (br_f h1 (hX _ (br_f h10 (br_f he hp)))), fun post hp => br_f h0 (br_f h1 (br_f hd1 (br_f hd2 (br_f he hp)))), Or.inr ⟨rfl, ?_⟩⟩
          obtain ⟨i, hi, rfl⟩ := nI_of h0
          rw [nI_ltI (by omega) hi] at h1
          exact ⟨i, j, by omega, hj1, hj2, rfl, rfl⟩
end
theorem sd_rgu {sc : Nat → Int32} {k : Nat} {x : Int32} (h : sd_rg sc) (hx : -1000 ≤ x.toInt ∧ x.toInt ≤ 1000) : sd_rg (upd sc k x) := by
  intro j
  by_cases z : j = k
  · subst z; rw [pk_us]; exact hx
  · rw [pk_un z]; exact h j
theorem i_vc_score {k : Nat} {u : SX} {v : SY} (I : i_Rel k u v) (hk : k + 4 ≤ 2050) (v1 : Int32) (v2 : Int32) (v3 : Int32) : wpX_score (fun r u' => wpY_score (fun r' v' => r' = r ∧ i_Rel (k + 4) u' v') v v1 v2 v3) u v1 v2 v3 := by
  have J := i_up I
  obtain ⟨n, c, o, sc, bn, hs, lh, yh, nw, rfl, rfl, H⟩ := I
  obtain ⟨r, hX, hY, hr⟩ := sd_arc (c := c) o sc bn hs lh yh nw H.2.1 v1 v2
  unfold wpX_score wpY_score
  dsimp only
  rcases hr with rfl | ⟨rfl, i, j, hi, hj1, hj2, rfl, rfl⟩
  · refine hX _ (br_t rfl ?_)
    refine hY _ (br_t rfl ?_)
    exact ⟨rfl, J⟩
  · have hn5 : n ≤ 5 := H.2.1
    have h10 : ¬ (1 : Int32) = 0 := by decide
    by_cases h1 : v3 < -1000
    · refine hX _ (br_f h10 (br_t h1 ?_))
      refine hY _ (br_f h10 (br_t h1 ?_))
      exact ⟨rfl, J⟩
    · by_cases h2 : v3 ≤ 1000
      · refine hX _ (br_f h10 (br_f h1 (br_t h2 (sd_ac ⟨vp_in_nI (by omega) (by omega), nm_e ?_⟩))))
        refine hY _ (br_f h10 (br_f h1 (br_t h2 ⟨by rw [sd_f6]; exact vp_in_nI (by omega) (by omega), nm_r (by rw [sd_f6]) ?_⟩)))
        refine ⟨rfl, n, c, o, _, bn, hs, lh, yh, nw, rfl, rfl, H.1, H.2.1, H.2.2.1, H.2.2.2.1, sd_rgu H.2.2.2.2 ?_⟩
        rw [Int32.lt_iff_toInt_lt, show (-1000 : Int32).toInt = -1000 from by decide] at h1
        rw [Int32.le_iff_toInt_le, show (1000 : Int32).toInt = 1000 from by decide] at h2
        omega
      · refine hX _ (br_f h10 (br_f h1 (br_f h2 ?_)))
        refine hY _ (br_f h10 (br_f h1 (br_f h2 ?_)))
        exact ⟨rfl, J⟩
theorem i_vc_ban {k : Nat} {u : SX} {v : SY} (I : i_Rel k u v) (hk : k + 4 ≤ 2050) (v1 : Int32) (v2 : Int32) (v3 : Int32) : wpX_ban (fun r u' => wpY_ban (fun r' v' => r' = r ∧ i_Rel (k + 4) u' v') v v1 v2 (lw_bz v3)) u v1 v2 (lw_bz v3) := by
  have J := i_up I
  obtain ⟨n, c, o, sc, bn, hs, lh, yh, nw, rfl, rfl, H⟩ := I
  obtain ⟨r, hX, hY, hr⟩ := sd_arc (c := c) o sc bn hs lh yh nw H.2.1 v1 v2
  unfold wpX_ban wpY_ban
  dsimp only
  rcases hr with rfl | ⟨rfl, i, j, hi, hj1, hj2, rfl, rfl⟩
  · refine hX _ (br_t rfl ?_)
    refine hY _ (br_t rfl ?_)
    exact ⟨rfl, J⟩
  · have hn5 : n ≤ 5 := H.2.1
    have h10 : ¬ (1 : Int32) = 0 := by decide
    refine hX _ (br_f h10 (sd_ac ⟨vp_in_nI (by omega) (by omega), nm_e ?_⟩))
    refine hY _ (br_f h10 ⟨by rw [sd_f6]; exact vp_in_nI (by omega) (by omega), nm_r (by rw [sd_f6]) ?_⟩)
    exact ⟨rfl, n, c, o, sc, _, hs, lh, yh, nw, rfl, rfl, H⟩
theorem i_vc_best {k : Nat} {u : SX} {v : SY} (I : i_Rel k u v) (hk : k + 4 ≤ 2050) : wpX_best (fun r => wpY_best (fun r' => r' = r ∧ i_Rel (k + 4) u v) v) u := by
  have J := i_up I
  obtain ⟨n, c, o, sc, bn, hs, lh, yh, nw, rfl, rfl, H⟩ := I
  obtain ⟨r, hX, hY⟩ := sd_bst o bn hs nw H
  exact hX _ (hY _ ⟨rfl, J⟩)
theorem i_vc_head {k : Nat} {u : SX} {v : SY} (I : i_Rel k u v) (hk : k + 4 ≤ 2050) (v1 : Int32) : wpX_head (fun r => wpY_head (fun r' => r' = r ∧ i_Rel (k + 4) u v) v v1) u v1 := by
  have J := i_up I
  obtain ⟨n, c, o, sc, bn, hs, lh, yh, nw, rfl, rfl, H⟩ := I
  obtain ⟨r, hX, hr⟩ := sd_word (c := c) o sc bn hs lh H.2.1 v1
  unfold wpX_head wpY_head
  dsimp only
  rcases hr with ⟨rfl, hd⟩ | ⟨rfl, hd1, hd2, j, hj1, hj2, rfl⟩
  · refine hX _ (br_t rfl ?_)
    rcases hd with hd | ⟨hd1, hd2⟩
    · exact br_t hd ⟨rfl, J⟩
    · exact br_f hd1 (br_f (Int32.not_le.mpr hd2) ⟨rfl, J⟩)
  · obtain ⟨r, hBX, hBY⟩ := sd_bst o bn hs nw H
    obtain ⟨r', hHX, hHY⟩ := sd_head o bn hs nw H r hj1 hj2 c 0 (by omega)
    refine hX _ (br_f (by decide) ?_)
    refine hBX _ ?_
    refine Exists.intro _ (hHX _ ?_)
    refine br_f hd1 (br_t (Int32.not_lt.mp hd2) ?_)
    refine hBY _ ?_
    exact Exists.intro _ (hHY _ ⟨rfl, J⟩)
theorem i_vc_bestTrees {k : Nat} {u : SX} {v : SY} (I : i_Rel k u v) (hk : k + 4 ≤ 2050) : wpX_bestTrees (fun r => wpY_bestTrees (fun r' => r' = r ∧ i_Rel (k + 4) u v) v) u := by
  have J := i_up I
  obtain ⟨n, c, o, sc, bn, hs, lh, yh, nw, rfl, rfl, H⟩ := I
  unfold wpX_bestTrees wpY_bestTrees
  dsimp only
  obtain ⟨r, hBX, hBY⟩ := sd_bst o bn hs nw H
  obtain ⟨r', hHX, hHY⟩ := sd_bestTrees o bn hs nw H r c 0 (by omega) 0
  refine hBX _ ?_
  refine Exists.intro _ (hHX _ ?_)
  refine hBY _ ?_
  exact Exists.intro _ (hHY _ ⟨rfl, J⟩)
theorem i_vc_trees {k : Nat} {u : SX} {v : SY} (I : i_Rel k u v) (hk : k + 4 ≤ 2050) : wpX_trees (fun r => wpY_trees (fun r' => r' = r ∧ i_Rel (k + 4) u v) v) u := by
  have J := i_up I
  obtain ⟨n, c, o, sc, bn, hs, lh, yh, nw, rfl, rfl, H⟩ := I
  unfold wpX_trees wpY_trees
  dsimp only
  obtain ⟨r', hHX, hHY⟩ := sd_trees o bn hs nw H c 0 (by omega) 0
  refine Exists.intro _ (hHX _ ?_)
  exact Exists.intro _ (hHY _ ⟨rfl, J⟩)
theorem i_vc_bestWith {k : Nat} {u : SX} {v : SY} (I : i_Rel k u v) (hk : k + 4 ≤ 2050) (v1 : Int32) (v2 : Int32) : wpX_bestWith (fun r => wpY_bestWith (fun r' => r' = r ∧ i_Rel (k + 4) u v) v v1 v2) u v1 v2 := by
  have J := i_up I
  obtain ⟨n, c, o, sc, bn, hs, lh, yh, nw, rfl, rfl, H⟩ := I
  obtain ⟨r, hX, hY, hr⟩ := sd_arc (c := c) o sc bn hs lh yh nw H.2.1 v1 v2
  unfold wpX_bestWith wpY_bestWith wpX_bestWhere wpY_greatest
  dsimp only
  rcases hr with rfl | ⟨rfl, i, j, hi, hj1, hj2, rfl, rfl⟩
  · refine hX _ (br_t rfl ?_)
    refine hY _ (br_t rfl ?_)
    exact ⟨rfl, J⟩
  · have h10 : ¬ (1 : Int32) = 0 := by decide
    obtain ⟨r', hHX, hHY⟩ := sd_where o bn hs nw H (nI i) 1 hj1 hj2 c 0 (by omega) (-1000000) (Int32.le_refl _)
    refine hX _ (br_f h10 ?_)
    refine Exists.intro _ (hHX _ ?_)
    refine hY _ (br_f h10 ?_)
    exact Exists.intro _ (hHY _ ⟨rfl, J⟩)
theorem i_vc_bestWithout {k : Nat} {u : SX} {v : SY} (I : i_Rel k u v) (hk : k + 4 ≤ 2050) (v1 : Int32) (v2 : Int32) : wpX_bestWithout (fun r => wpY_bestWithout (fun r' => r' = r ∧ i_Rel (k + 4) u v) v v1 v2) u v1 v2 := by
  have J := i_up I
  obtain ⟨n, c, o, sc, bn, hs, lh, yh, nw, rfl, rfl, H⟩ := I
  obtain ⟨r, hX, hY, hr⟩ := sd_arc (c := c) o sc bn hs lh yh nw H.2.1 v1 v2
  unfold wpX_bestWithout wpY_bestWithout wpX_bestWhere wpY_greatest
  dsimp only
  rcases hr with rfl | ⟨rfl, i, j, hi, hj1, hj2, rfl, rfl⟩
  · refine hX _ (br_t rfl ?_)
    refine hY _ (br_t rfl ?_)
    exact ⟨rfl, J⟩
  · have h10 : ¬ (1 : Int32) = 0 := by decide
    obtain ⟨r', hHX, hHY⟩ := sd_where o bn hs nw H (nI i) 0 hj1 hj2 c 0 (by omega) (-1000000) (Int32.le_refl _)
    refine hX _ (br_f h10 ?_)
    refine Exists.intro _ (hHX _ ?_)
    refine hY _ (br_f h10 ?_)
    exact Exists.intro _ (hHY _ ⟨rfl, J⟩)
theorem i_vc_treesWith {k : Nat} {u : SX} {v : SY} (I : i_Rel k u v) (hk : k + 4 ≤ 2050) (v1 : Int32) (v2 : Int32) : wpX_treesWith (fun r => wpY_treesWith (fun r' => r' = r ∧ i_Rel (k + 4) u v) v v1 v2) u v1 v2 := by
  have J := i_up I
  obtain ⟨n, c, o, sc, bn, hs, lh, yh, nw, rfl, rfl, H⟩ := I
  obtain ⟨r, hX, hY, hr⟩ := sd_arc (c := c) o sc bn hs lh yh nw H.2.1 v1 v2
  unfold wpX_treesWith wpY_treesWith
  dsimp only
  rcases hr with rfl | ⟨rfl, i, j, hi, hj1, hj2, rfl, rfl⟩
  · refine hX _ (br_t rfl ?_)
    refine hY _ (br_t rfl ?_)
    exact ⟨rfl, J⟩
  · have h10 : ¬ (1 : Int32) = 0 := by decide
    obtain ⟨r', hHX, hHY⟩ := sd_treesWith o bn hs nw H (nI i) hj1 hj2 c 0 (by omega) 0
    refine hX _ (br_f h10 ?_)
    refine Exists.intro _ (hHX _ ?_)
    refine hY _ (br_f h10 ?_)
    exact Exists.intro _ (hHY _ ⟨rfl, J⟩)
theorem sd_clr (n c o : Int32) (hs lh yh nw : Nat → Int32) : ∀ m j : Nat, j + m = 36 → ∀ (a : Int32) (sc bn : Nat → Int32), sd_rg sc → ∃ (r : Int32) (sc' bn' : Nat → Int32), sd_rg sc' ∧
    (∀ post : Int32 → SX → Prop, post r (n, o, c, sc', bn', hs, lh) → wX_clear_4 post n o c (m + 1) a (nI j) sc bn hs lh) ∧
    (∀ post : Int32 → SY → Prop, post r (n, c, sc', bn', yh, nw) → wY_clear_4 post n c (m + 1) a (nI j) sc bn yh nw) := by
  intro m
  induction m with
  | zero =>
    intro j hj a sc bn hr
    have h : (36 : Int32) ≤ nI j := nI_le (a := 36) (by omega) (by omega)
    exact ⟨a, sc, bn, hr, fun _ hp => br_t h hp, fun _ hp => br_t h hp⟩
  | succ m ih =>
    intro j hj a sc bn hr
    have h : ¬ (36 : Int32) ≤ nI j := nI_ge (b := 36) (by omega) (by omega)
    have hi : vp_in (nI j) 36 := vp_in_nI (by omega) (by omega)
    have hr' : sd_rg (upd sc (nI j).toNatClampNeg 0) := sd_rgu hr (by decide)
    by_cases z : bn (nI j).toNatClampNeg = 0
    · obtain ⟨r, sc', bn', hR, hX, hY⟩ := ih (j + 1) (by omega) a (upd sc (nI j).toNatClampNeg 0) (upd bn (nI j).toNatClampNeg (vp_nar .boolean 0)) hr'
      refine ⟨r, sc', bn', hR, fun post hp => br_f h ⟨hi, br_t z ?_⟩, fun post hp => br_f h ⟨hi, br_t z ?_⟩⟩
      · exact And.intro hi (nm_e ⟨hi, nm_e (nm_r (nI_1 j) (hX post hp))⟩)
      · exact And.intro hi (nm_e ⟨hi, nm_e (nm_r (nI_1 j) (hY post hp))⟩)
    · obtain ⟨r, sc', bn', hR, hX, hY⟩ := ih (j + 1) (by omega) (a + 1) (upd sc (nI j).toNatClampNeg 0) (upd bn (nI j).toNatClampNeg (vp_nar .boolean 0)) hr'
      refine ⟨r, sc', bn', hR, fun post hp => br_f h ⟨hi, br_f z (nm_e ?_)⟩, fun post hp => br_f h ⟨hi, br_f z (nm_e ?_)⟩⟩
      · exact And.intro hi (nm_e ⟨hi, nm_e (nm_r (nI_1 j) (hX post hp))⟩)
      · exact And.intro hi (nm_e ⟨hi, nm_e (nm_r (nI_1 j) (hY post hp))⟩)
theorem i_vc_clear {k : Nat} {u : SX} {v : SY} (I : i_Rel k u v) (hk : k + 4 ≤ 2050) : wpX_clear (fun r u' => wpY_clear (fun r' v' => r' = r ∧ i_Rel (k + 4) u' v') v) u := by
  obtain ⟨n, c, o, sc, bn, hs, lh, yh, nw, rfl, rfl, H⟩ := I
  unfold wpX_clear wpY_clear
  dsimp only
  obtain ⟨r, sc', bn', hR, hX, hY⟩ := sd_clr (nI n) (nI c) o hs lh yh nw 36 0 (by omega) 0 sc bn H.2.2.2.2
  refine Exists.intro _ (hX _ ?_)
  refine Exists.intro _ (hY _ ?_)
  exact ⟨rfl, n, c, o, sc', bn', hs, lh, yh, nw, rfl, rfl, H.1, H.2.1, H.2.2.1, H.2.2.2.1, hR⟩
