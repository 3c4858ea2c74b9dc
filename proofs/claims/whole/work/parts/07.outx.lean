theorem sd_pX_1 {n t : Nat} {s : Bool} (e : sd_in (sd_h n t) 0 n n 1 = false) : sd_pX n s t = false := by
  simp only [sd_pX, e]
theorem sd_pX_2 {n t : Nat} {s : Bool} (e : sd_in (sd_h n t) 0 n n 1 = true) (e2 : sd_fl (sd_h n t) n n 1 = false) : sd_pX n s t = false := by
  simp only [sd_pX, e, e2]
theorem sd_pX_3 {n t : Nat} {s b : Bool} (e : sd_in (sd_h n t) 0 n n 1 = true) (e2 : sd_fl (sd_h n t) n n 1 = true) (e3 : sd_rr (sd_rt (sd_h n t) n 1 0) s = b) : sd_pX n s t = b := by
  rw [← e3]
  cases s
  · simp only [sd_pX, e, e2, sd_rr]
  · simp only [sd_pX, e, e2, sd_rr]
theorem sd_xo {n T : Nat} (hn : n ≤ 5) (s : Bool) (hT : T ≤ 7776) (hL : (sd_sel (sd_pX n s) 0 T).length ≤ 273) (sc bn : Nat → Int32) (post : SX → Prop)
    (hp : ∀ a lh : Nat → Int32, sd_hold n (sd_h n) (sd_sel (sd_pX n s) 0 T) lh → post (nI n, sd_b s, nI (sd_sel (sd_pX n s) 0 T).length, sc, bn, a, lh)) :
    ∀ (m t : Nat) (a lh : Nat → Int32), t + m = T → a 0 = 0 → sd_hold n (sd_h n) (sd_sel (sd_pX n s) 0 t) lh → wX_listFlatTrees_29 post (nI T) (m + 1) (nI t) (nI n) (sd_b s) (nI (sd_sel (sd_pX n s) 0 t).length) sc bn a lh := by
  intro m
  induction m with
  | zero =>
    intro t a lh ht h0 hh
    have e : t = T := by omega
    subst e
    exact br_t (nI_le (by omega) (by omega)) (hp a lh hh)
  | succ m ih =>
    intro t a lh ht h0 hh
    refine br_f (nI_ge (by omega) (by omega)) (sd_xsw hn (by omega) _ _ sc bn a lh h0 ?_)
    intro a' ha
    dsimp only
    have hb : ∀ j, j ≤ n → sd_h n t j ≤ n := fun j _ => sd_hle n t j
    have h0' : a' 0 = 0 := ha 0 (Nat.zero_le _)
    have rej : sd_pX n s t = false → wX_listFlatTrees_29 post (nI T) (m + 1) (nI (t + 1)) (nI n) (sd_b s) (nI (sd_sel (sd_pX n s) 0 t).length) sc bn a' lh := by
      intro hf
      have := ih (t + 1) a' lh (by omega) h0'
      rw [sd_sel_f hf] at this
      exact this hh
    refine sd_xtw _ _ sc bn lh hn ha hb ?_
    cases e1 : sd_in (sd_h n t) 0 n n 1 with
    | false => exact br_t sd_b0 (nm_r (nI_1 t) (rej (sd_pX_1 e1)))
    | true =>
      refine br_f sd_b1 ?_
      refine sd_xfw _ _ sc bn lh hn ha hb ?_
      cases e2 : sd_fl (sd_h n t) n n 1 with
      | false => exact br_t sd_b0 (nm_r (nI_1 t) (rej (sd_pX_2 e1 e2)))
      | true =>
        refine br_f sd_b1 ?_
        refine sd_xrw _ sc bn lh hn ha hb s ?_
        cases e3 : sd_rr (sd_rt (sd_h n t) n 1 0) s with
        | false => exact br_t sd_b0 (nm_r (nI_1 t) (rej (sd_pX_3 e1 e2 e3)))
        | true =>
          refine br_f sd_b1 ?_
          have hacc := sd_sel_t (sd_pX_3 e1 e2 e3)
          have hlen : (sd_sel (sd_pX n s) 0 (t + 1)).length = (sd_sel (sd_pX n s) 0 t).length + 1 := by
            rw [hacc, List.length_append, List.length_singleton]
          have hle : (sd_sel (sd_pX n s) 0 (t + 1)).length ≤ (sd_sel (sd_pX n s) 0 T).length := by
            have := sd_sel_le (sd_pX n s) (t + 1) m
            rw [show t + 1 + m = T from by omega] at this
            exact this
          refine sd_xlw hn (by omega) ha hb _ sc bn lh ?_
          intro lh' h1 h2
          dsimp only
          refine nm_r (nI_1 t) ?_
          have := ih (t + 1) a' lh' (by omega) h0'
          rw [hlen, hacc] at this
          exact this (sd_hold_s hn hh h1 h2)
theorem sd_x4 {n : Nat} (hn : n ≤ 5) (o c : Int32) (sc bn a lh : Nat → Int32) (post : SX → Prop) (hp : ∃ n29 : Nat, wX_listFlatTrees_29 post (nI ((n + 1) ^ n)) n29 0 (nI n) o c sc bn a lh) : ∀ m d e : Nat, d + m = n + 1 → e + m = n → wX_listFlatTrees_4 post (nI n) o c sc bn a lh (m + 1) (nI ((n + 1) ^ e)) (nI d) := by
  intro m
  induction m with
  | zero =>
    intro d e hd he
    have h : e = n := by omega
    subst h
    exact br_t (nI_lt (by omega) (by omega)) hp
  | succ m ih =>
    intro d e hd he
    have e1 : nI ((n + 1) ^ e) * (nI n + 1) = nI ((n + 1) ^ (e + 1)) := by rw [nI_1, pk_mul, Nat.pow_succ]
    exact br_f (nI_nlt (by omega) (by omega)) (nm_r e1 (nm_r (nI_1 d) (ih (d + 1) (e + 1) (by omega) (by omega))))
theorem sd_pw : ∀ n : Nat, n < 6 → (n + 1) ^ n ≤ 7776 := by decide
theorem sd_xi {n : Nat} (hn : n ≤ 5) (s : Bool) (hL : (sd_sel (sd_pX n s) 0 ((n + 1) ^ n)).length ≤ 273) {post : SX → Prop}
    (hp : ∀ a lh : Nat → Int32, sd_hold n (sd_h n) (sd_sel (sd_pX n s) 0 ((n + 1) ^ n)) lh → post (nI n, sd_b s, nI (sd_sel (sd_pX n s) 0 ((n + 1) ^ n)).length, fun _ => 0, fun _ => 0, a, lh)) :
    wpX_listFlatTrees post (nI n, sd_b s, 0, fun _ => 0, fun _ => 0, fun _ => 0, fun _ => 0) := by
  have h := sd_x4 hn (sd_b s) 0 (fun _ => 0) (fun _ => 0) (fun _ => 0) (fun _ => 0) post (Exists.intro _ (sd_xo hn s (sd_pw n (by omega)) hL (fun _ => 0) (fun _ => 0) post hp _ 0 (fun _ => 0) (fun _ => 0) (Nat.zero_add _) rfl (fun i v hv => by simp only [sd_sel, List.getElem?_nil] at hv; exact nomatch hv))) n 1 0 (by omega) (by omega)
  rw [Nat.pow_zero] at h
  exact Exists.intro _ h
theorem sd_xin {n : Nat} (hn : n ≤ 5) (p1 : Int32) (s : Bool) (hs : s = !(p1 == 0)) (hL : (sd_sel (sd_pX n s) 0 ((n + 1) ^ n)).length ≤ 273) {post : SX → Prop}
    (hp : ∀ a lh : Nat → Int32, sd_hold n (sd_h n) (sd_sel (sd_pX n s) 0 ((n + 1) ^ n)) lh → post (nI n, sd_b s, nI (sd_sel (sd_pX n s) 0 ((n + 1) ^ n)).length, fun _ => 0, fun _ => 0, a, lh)) :
    wX_init_62 post p1 (nI n) 0 0 0 (fun _ => 0) (fun _ => 0) (fun _ => 0) (fun _ => 0) := by
  have h0 : narrow .boolean (.int 0) = .int 0 := lw_bz_n 0
  have h1 : narrow .boolean (.int 1) = .int 1 := lw_bz_n 1
  by_cases z : p1 = 0
  · have es : s = false := by rw [hs, z]; rfl
    subst es
    refine br_t z ?_
    unfold wX_init_75
    exact ⟨h0, by decide, sd_xi hn false hL (fun a lh hh => hp a lh hh)⟩
  · have es : s = true := by rw [hs, beq_eq_false_iff_ne.mpr z]; rfl
    subst es
    refine br_f z ?_
    unfold wX_init_75
    exact ⟨h1, by decide, sd_xi hn true hL (fun a lh hh => hp a lh hh)⟩
