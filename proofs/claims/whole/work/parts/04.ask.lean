section
variable {n c : Nat} {sc lh yh : Nat → Int32} (o : Int32) (bn hs nw : Nat → Int32)
theorem sd_best (H : sd_R n c sc lh yh) : ∀ m j : Nat, j + m = c → ∀ a : Int32, (-1000000 : Int32) ≤ a → ∃ r : Int32,
    (∀ post : Int32 → Prop, post r → wX_best_5 post (nI n) o (nI c) sc bn hs lh (m + 1) a (nI j)) ∧
    (∀ post : Int32 → Prop, post r → wY_greatest_7 post 0 0 1 (nI n) (nI c) sc bn yh nw (m + 1) a (nI j)) := by
  have hc : c ≤ 273 := H.2.2.1
  intro m
  induction m with
  | zero =>
    intro j hj a ha
    have h : nI c ≤ nI j := nI_le (by omega) (by omega)
    exact ⟨a, fun _ hp => br_t h hp, fun _ hp => br_t h hp⟩
  | succ m ih =>
    intro j hj a ha
    have h : ¬ nI c ≤ nI j := nI_ge (by omega) (by omega)
    obtain ⟨b, w, hw, hw2, A, S, W⟩ := sd_tr o bn hs nw H (t := j) (by omega)
    cases b with
    | false =>
      obtain ⟨r, hX, hY⟩ := ih (j + 1) (by omega) a ha
      exact ⟨r, fun post hp => br_f h (A _ (br_t sd_b0 (nm_r (nI_1 j) (hX post hp)))), fun post hp => br_f h (W _ (br_t rfl (br_t ha (nm_r (nI_1 j) (hY post hp)))))⟩
    | true =>
      by_cases z : w ≤ a
      · obtain ⟨r, hX, hY⟩ := ih (j + 1) (by omega) a ha
        exact ⟨r, fun post hp => br_f h (A _ (br_f sd_b1 (S _ (br_t z (nm_r (nI_1 j) (hX post hp)))))), fun post hp => br_f h (W _ (br_t rfl (br_t z (nm_r (nI_1 j) (hY post hp)))))⟩
      · obtain ⟨r, hX, hY⟩ := ih (j + 1) (by omega) w hw2
        exact ⟨r, fun post hp => br_f h (A _ (br_f sd_b1 (S _ (br_f z (nm_r (nI_1 j) (hX post hp)))))), fun post hp => br_f h (W _ (br_t rfl (br_f z (nm_r (nI_1 j) (hY post hp)))))⟩
theorem sd_bst (H : sd_R n c sc lh yh) : ∃ r : Int32, (∀ post : Int32 → Prop, post r → wpX_best post (nI n, o, nI c, sc, bn, hs, lh)) ∧ (∀ post : Int32 → Prop, post r → wpY_best post (nI n, nI c, sc, bn, yh, nw)) := by
  obtain ⟨r, hX, hY⟩ := sd_best o bn hs nw H c 0 (by omega) (-1000000) (Int32.le_refl _)
  refine ⟨r, fun post hp => Exists.intro _ (hX post hp), fun post hp => ?_⟩
  unfold wpY_best wpY_greatest
  exact Exists.intro _ (hY _ hp)
theorem sd_where (H : sd_R n c sc lh yh) (x1 x3 : Int32) {d : Nat} (hd1 : 1 ≤ d) (hdn : d ≤ n) : ∀ m j : Nat, j + m = c → ∀ a : Int32, (-1000000 : Int32) ≤ a → ∃ r : Int32,
    (∀ post : Int32 → Prop, post r → wX_bestWhere_7 post x1 (nI d) x3 (nI n) o (nI c) sc bn hs lh (m + 1) a (nI j)) ∧
    (∀ post : Int32 → Prop, post r → wY_greatest_7 post x1 (nI d) x3 (nI n) (nI c) sc bn yh nw (m + 1) a (nI j)) := by
  have hc : c ≤ 273 := H.2.2.1
  have hn5 : n ≤ 5 := H.2.1
  have hd0 : ¬ nI d = 0 := nI_ne0 (by omega) (by omega)
  intro m
  induction m with
  | zero =>
    intro j hj a ha
    have h : nI c ≤ nI j := nI_le (by omega) (by omega)
    exact ⟨a, fun _ hp => br_t h hp, fun _ hp => br_t h hp⟩
  | succ m ih =>
    intro j hj a ha
    have h : ¬ nI c ≤ nI j := nI_ge (by omega) (by omega)
    obtain ⟨b, w, hw, hw2, A, S, W⟩ := sd_tr o bn hs nw H (t := j) (by omega)
    obtain ⟨g, hg, hx, hy⟩ := H.2.2.2.1 j d (by omega) hd1 hdn
    have hi1 : 6 * j + d < 1638 := by omega
    have hi2 : vp_in (6 * nI j + nI d) 1800 := by rw [sd_f6]; exact vp_in_nI (by omega) (by omega)
    have he : yh (6 * nI j + nI d).toNatClampNeg = nI g := by rw [sd_f6, nI_clamp (by omega), hy]
    have key : ∃ z0 : Int32, (∀ P : Int32 → Prop, P z0 → ((nI g = x1 → P 1) ∧ (¬ nI g = x1 → P 0))) := by
      by_cases q : nI g = x1
      · exact ⟨1, fun P hp => br_t q hp⟩
      · exact ⟨0, fun P hp => br_f q hp⟩
    obtain ⟨z0, hz⟩ := key
    have hzX := fun (post : Int32 → Prop) => hz (fun z => wX_bestWhere_41 post (wX_bestWhere_7 post x1 (nI d) x3 (nI n) o (nI c) sc bn hs lh (m + 1)) x1 (nI d) x3 a (nI j) z (nI n) o (nI c) sc bn hs lh)
    have hzY := fun (post : Int32 → Prop) (v : Int32) => hz (fun z => wY_greatest_49 post (wY_greatest_7 post x1 (nI d) x3 (nI n) (nI c) sc bn yh nw (m + 1)) x1 (nI d) x3 a (nI j) v z (nI n) (nI c) sc bn yh nw)
    rw [← he] at hzY
    cases b with
    | false =>
      obtain ⟨r, hX, hY⟩ := ih (j + 1) (by omega) a ha
      refine ⟨r, fun post hp => br_f h (A _ (br_t sd_b0 (nm_r (nI_1 j) (hX post hp)))), fun post hp => br_f h (W _ (br_f hd0 ⟨hi2, hzY post _ ?_⟩))⟩
      exact br_c (fun _ => br_t ha (nm_r (nI_1 j) (hY post hp))) (fun _ => nm_r (nI_1 j) (hY post hp))
    | true =>
      by_cases q : z0 = x3
      · by_cases z : w ≤ a
        · obtain ⟨r, hX, hY⟩ := ih (j + 1) (by omega) a ha
          exact ⟨r, fun post hp => br_f h (A _ (br_f sd_b1 (sd_xh hi1 hx (hzX post (br_t q (S _ (br_t z (nm_r (nI_1 j) (hX post hp))))))))), fun post hp => br_f h (W _ (br_f hd0 ⟨hi2, hzY post _ (br_t q (br_t z (nm_r (nI_1 j) (hY post hp))))⟩))⟩
        · obtain ⟨r, hX, hY⟩ := ih (j + 1) (by omega) w hw2
          exact ⟨r, fun post hp => br_f h (A _ (br_f sd_b1 (sd_xh hi1 hx (hzX post (br_t q (S _ (br_f z (nm_r (nI_1 j) (hX post hp))))))))), fun post hp => br_f h (W _ (br_f hd0 ⟨hi2, hzY post _ (br_t q (br_f z (nm_r (nI_1 j) (hY post hp))))⟩))⟩
      · obtain ⟨r, hX, hY⟩ := ih (j + 1) (by omega) a ha
        exact ⟨r, fun post hp => br_f h (A _ (br_f sd_b1 (sd_xh hi1 hx (hzX post (br_f q (nm_r (nI_1 j) (hX post hp))))))), fun post hp => br_f h (W _ (br_f hd0 ⟨hi2, hzY post _ (br_f q (nm_r (nI_1 j) (hY post hp)))⟩))⟩
theorem sd_head (H : sd_R n c sc lh yh) (x2 : Int32) {d : Nat} (hd1 : 1 ≤ d) (hdn : d ≤ n) : ∀ m j : Nat, j + m = c → ∃ r : Int32,
    (∀ post : Int32 → Prop, post r → wX_head_18 post (nI d) x2 (nI n) o (nI c) sc bn hs lh (m + 1) (nI j)) ∧
    (∀ post : Int32 → Prop, post r → wY_head_23 post (nI d) x2 (nI n) (nI c) sc bn yh nw (m + 1) (nI j)) := by
  have hc : c ≤ 273 := H.2.2.1
  have hn5 : n ≤ 5 := H.2.1
  intro m
  induction m with
  | zero =>
    intro j hj
    have h : nI c ≤ nI j := nI_le (by omega) (by omega)
    exact ⟨_, fun _ hp => br_t h hp, fun _ hp => br_t h hp⟩
  | succ m ih =>
    intro j hj
    have h : ¬ nI c ≤ nI j := nI_ge (by omega) (by omega)
    obtain ⟨b, w, hw, hw2, A, S, W⟩ := sd_tr o bn hs nw H (t := j) (by omega)
    obtain ⟨g, hg, hx, hy⟩ := H.2.2.2.1 j d (by omega) hd1 hdn
    have hi1 : 6 * j + d < 1638 := by omega
    have hi2 : vp_in (6 * nI j + nI d) 1800 := by rw [sd_f6]; exact vp_in_nI (by omega) (by omega)
    have he : yh (6 * nI j + nI d).toNatClampNeg = nI g := by rw [sd_f6, nI_clamp (by omega), hy]
    obtain ⟨r, hX, hY⟩ := ih (j + 1) (by omega)
    cases b with
    | false =>
      exact ⟨r, fun post hp => br_f h (A _ (br_t sd_b0 (nm_r (nI_1 j) (hX post hp)))), fun post hp => br_f h (W _ (br_t rfl (nm_r (nI_1 j) (hY post hp))))⟩
    | true =>
      by_cases z : w = x2
      · exact ⟨nI g, fun post hp => br_f h (A _ (br_f sd_b1 (S _ (br_t z (sd_xh hi1 hx hp))))), fun post hp => br_f h (W _ (br_f hw (br_t z ⟨hi2, sd_ev he hp⟩)))⟩
      · exact ⟨r, fun post hp => br_f h (A _ (br_f sd_b1 (S _ (br_f z (nm_r (nI_1 j) (hX post hp)))))), fun post hp => br_f h (W _ (br_f hw (br_f z (nm_r (nI_1 j) (hY post hp)))))⟩
theorem sd_bestTrees (H : sd_R n c sc lh yh) (x1 : Int32) : ∀ m j : Nat, j + m = c → ∀ a : Int32, ∃ r : Int32,
    (∀ post : Int32 → Prop, post r → wX_bestTrees_9 post x1 (nI n) o (nI c) sc bn hs lh (m + 1) a (nI j)) ∧
    (∀ post : Int32 → Prop, post r → wY_bestTrees_9 post x1 (nI n) (nI c) sc bn yh nw (m + 1) a (nI j)) := by
  have hc : c ≤ 273 := H.2.2.1
  intro m
  induction m with
  | zero =>
    intro j hj a
    have h : nI c ≤ nI j := nI_le (by omega) (by omega)
    exact ⟨a, fun _ hp => br_t h hp, fun _ hp => br_t h hp⟩
  | succ m ih =>
    intro j hj a
    have h : ¬ nI c ≤ nI j := nI_ge (by omega) (by omega)
    obtain ⟨b, w, hw, hw2, A, S, W⟩ := sd_tr o bn hs nw H (t := j) (by omega)
    cases b with
    | false =>
      obtain ⟨r, hX, hY⟩ := ih (j + 1) (by omega) a
      exact ⟨r, fun post hp => br_f h (A _ (br_t sd_b0 (nm_r (nI_1 j) (hX post hp)))), fun post hp => br_f h (W _ (br_t rfl (nm_r (nI_1 j) (hY post hp))))⟩
    | true =>
      by_cases z : w = x1
      · obtain ⟨r, hX, hY⟩ := ih (j + 1) (by omega) (a + 1)
        exact ⟨r, fun post hp => br_f h (A _ (br_f sd_b1 (S _ (br_t z (nm_e (nm_r (nI_1 j) (hX post hp))))))), fun post hp => br_f h (W _ (br_f hw (br_t z (nm_e (nm_r (nI_1 j) (hY post hp))))))⟩
      · obtain ⟨r, hX, hY⟩ := ih (j + 1) (by omega) a
        exact ⟨r, fun post hp => br_f h (A _ (br_f sd_b1 (S _ (br_f z (nm_r (nI_1 j) (hX post hp)))))), fun post hp => br_f h (W _ (br_f hw (br_f z (nm_r (nI_1 j) (hY post hp)))))⟩
theorem sd_trees (H : sd_R n c sc lh yh) : ∀ m j : Nat, j + m = c → ∀ a : Int32, ∃ r : Int32,
    (∀ post : Int32 → Prop, post r → wX_trees_4 post (nI n) o (nI c) sc bn hs lh (m + 1) a (nI j)) ∧
    (∀ post : Int32 → Prop, post r → wY_trees_4 post (nI n) (nI c) sc bn yh nw (m + 1) a (nI j)) := by
  have hc : c ≤ 273 := H.2.2.1
  intro m
  induction m with
  | zero =>
    intro j hj a
    have h : nI c ≤ nI j := nI_le (by omega) (by omega)
    exact ⟨a, fun _ hp => br_t h hp, fun _ hp => br_t h hp⟩
  | succ m ih =>
    intro j hj a
    have h : ¬ nI c ≤ nI j := nI_ge (by omega) (by omega)
    obtain ⟨b, w, hw, hw2, A, S, W⟩ := sd_tr o bn hs nw H (t := j) (by omega)
    cases b with
    | false =>
      obtain ⟨r, hX, hY⟩ := ih (j + 1) (by omega) a
      exact ⟨r, fun post hp => br_f h (A _ (br_t sd_b0 (nm_r (nI_1 j) (hX post hp)))), fun post hp => br_f h (W _ (br_t rfl (nm_r (nI_1 j) (hY post hp))))⟩
    | true =>
      obtain ⟨r, hX, hY⟩ := ih (j + 1) (by omega) (a + 1)
      exact ⟨r, fun post hp => br_f h (A _ (br_f sd_b1 (nm_e (nm_r (nI_1 j) (hX post hp))))), fun post hp => br_f h (W _ (br_f hw (nm_e (nm_r (nI_1 j) (hY post hp)))))⟩
theorem sd_treesWith (H : sd_R n c sc lh yh) (x1 : Int32) {d : Nat} (hd1 : 1 ≤ d) (hdn : d ≤ n) : ∀ m j : Nat, j + m = c → ∀ a : Int32, ∃ r : Int32,
    (∀ post : Int32 → Prop, post r → wX_treesWith_17 post x1 (nI d) (nI n) o (nI c) sc bn hs lh (m + 1) a (nI j)) ∧
    (∀ post : Int32 → Prop, post r → wY_treesWith_17 post x1 (nI d) (nI n) (nI c) sc bn yh nw (m + 1) a (nI j)) := by
  have hc : c ≤ 273 := H.2.2.1
  have hn5 : n ≤ 5 := H.2.1
  intro m
  induction m with
  | zero =>
    intro j hj a
    have h : nI c ≤ nI j := nI_le (by omega) (by omega)
    exact ⟨a, fun _ hp => br_t h hp, fun _ hp => br_t h hp⟩
  | succ m ih =>
    intro j hj a
    have h : ¬ nI c ≤ nI j := nI_ge (by omega) (by omega)
    obtain ⟨b, w, hw, hw2, A, S, W⟩ := sd_tr o bn hs nw H (t := j) (by omega)
    obtain ⟨g, hg, hx, hy⟩ := H.2.2.2.1 j d (by omega) hd1 hdn
    have hi1 : 6 * j + d < 1638 := by omega
    have hi2 : vp_in (6 * nI j + nI d) 1800 := by rw [sd_f6]; exact vp_in_nI (by omega) (by omega)
    have he : yh (6 * nI j + nI d).toNatClampNeg = nI g := by rw [sd_f6, nI_clamp (by omega), hy]
    by_cases q : nI g = x1
    · have q' := he.trans q
      cases b with
      | false =>
        obtain ⟨r, hX, hY⟩ := ih (j + 1) (by omega) a
        exact ⟨r, fun post hp => br_f h (A _ (br_t sd_b0 (nm_r (nI_1 j) (hX post hp)))), fun post hp => br_f h ⟨hi2, br_t q' (W _ (br_t rfl (nm_r (nI_1 j) (hY post hp))))⟩⟩
      | true =>
        obtain ⟨r, hX, hY⟩ := ih (j + 1) (by omega) (a + 1)
        exact ⟨r, fun post hp => br_f h (A _ (br_f sd_b1 (sd_xh hi1 hx (br_t q (nm_e (nm_r (nI_1 j) (hX post hp))))))), fun post hp => br_f h ⟨hi2, br_t q' (W _ (br_f hw (nm_e (nm_r (nI_1 j) (hY post hp)))))⟩⟩
    · have q' : ¬ yh (6 * nI j + nI d).toNatClampNeg = x1 := fun e => q (he.symm.trans e)
      obtain ⟨r, hX, hY⟩ := ih (j + 1) (by omega) a
      refine ⟨r, fun post hp => br_f h (A _ ?_), fun post hp => br_f h ⟨hi2, br_f q' (nm_r (nI_1 j) (hY post hp))⟩⟩
      exact br_c (fun _ => nm_r (nI_1 j) (hX post hp)) (fun _ => sd_xh hi1 hx (br_f q (nm_r (nI_1 j) (hX post hp))))
end
