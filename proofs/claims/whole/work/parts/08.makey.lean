section
variable {n : Nat} {h : Nat → Nat} {a : Nat → Int32} (c : Int32) (sc bn yh : Nat → Int32)
theorem sd_yc (f : Int32) (ha : ∀ j, j ≤ 5 → a j = nI (h j)) (hb : ∀ j, j ≤ 5 → h j ≤ 5) {g : Nat} (hg : g ≤ 5) : ∀ m i : Nat, i + m = 5 → ∀ w : Nat, w ≤ 5 → ∀ post : Int32 → Prop, post (sd_b (sd_c h g m w)) → wY_comes_5 post (nI g) f c sc bn yh a (m + 2) (nI w) (nI i) := by
  intro m
  induction m with
  | zero =>
    intro i hi w hw post hp
    have h1 : ¬ (6 : Int32) ≤ nI i := nI_ge (b := 6) (by omega) (by omega)
    have h2 : (6 : Int32) ≤ nI (i + 1) := nI_le (a := 6) (by omega) (by omega)
    rcases sd_bq w g with ⟨e, eb⟩ | ⟨e, eb⟩
    · simp only [sd_c, eb] at hp
      exact br_f h1 (br_t (congrArg nI e) hp)
    · simp only [sd_c, eb] at hp
      exact br_f h1 (br_f (sd_nq (by omega) (by omega) e) ⟨vp_in_nI (by omega) (by omega), nm_e (nm_r (nI_1 i) (br_t h2 hp))⟩)
  | succ m ih =>
    intro i hi w hw post hp
    have h1 : ¬ (6 : Int32) ≤ nI i := nI_ge (b := 6) (by omega) (by omega)
    rcases sd_bq w g with ⟨e, eb⟩ | ⟨e, eb⟩
    · simp only [sd_c, eb] at hp
      exact br_f h1 (br_t (congrArg nI e) hp)
    · simp only [sd_c, eb] at hp
      exact br_f h1 (br_f (sd_nq (by omega) (by omega) e) ⟨vp_in_nI (by omega) (by omega), nm_r (by rw [nI_clamp (by omega)]; exact ha w hw) (nm_r (nI_1 i) (ih (i + 1) (by omega) (h w) (hb w hw) post hp))⟩)
theorem sd_ycw (f : Int32) (ha : ∀ j, j ≤ 5 → a j = nI (h j)) (hb : ∀ j, j ≤ 5 → h j ≤ 5) {g w : Nat} (hg : g ≤ 5) (hw : w ≤ 5) {post : Int32 → Prop} (hp : post (sd_b (sd_c h g 5 w))) : wpY_comes post (f, c, sc, bn, yh, a) (nI w) (nI g) :=
  Exists.intro _ (sd_yc c sc bn yh f ha hb hg 5 0 (by omega) w hw post hp)
theorem sd_ycv (f : Int32) (ha : ∀ j, j ≤ 5 → a j = nI (h j)) (hb : ∀ j, j ≤ 5 → h j ≤ 5) {d k : Nat} (hd : d ≤ 5) (hk : k ≤ 5) {post : Int32 → Prop} (hp : post (sd_b (sd_cv (h d) d k))) : wpY_covers post (f, c, sc, bn, yh, a) (nI d) (nI k) := by
  have hh := hb d hd
  refine And.intro (vp_in_nI (by omega) (by omega)) (nm_r (e' := nI (h d)) (by rw [nI_clamp (by omega)]; exact ha d hd) ?_)
  have e17 : post (sd_b (match Nat.ble k d with | true => false | false => match Nat.ble (h d) k with | true => false | false => true)) → wY_covers_17 post (nI d) (nI k) (nI (h d)) f c sc bn yh a := by
    intro hq
    rcases sd_bl k d with ⟨e, eb⟩ | ⟨e, eb⟩
    · rw [eb] at hq
      exact br_t (nI_le e (by omega)) hq
    · rw [eb] at hq
      dsimp only at hq
      rcases sd_bl (h d) k with ⟨e', eb'⟩ | ⟨e', eb'⟩
      · rw [eb'] at hq
        exact br_f (nI_ge e (by omega)) (br_t (nI_le e' (by omega)) hq)
      · rw [eb'] at hq
        exact br_f (nI_ge e (by omega)) (br_f (nI_ge e' (by omega)) hq)
  unfold sd_cv at hp
  rcases sd_bl k (h d) with ⟨e, eb⟩ | ⟨e, eb⟩
  · rw [eb] at hp
    exact br_t (nI_le e (by omega)) (e17 hp)
  · rw [eb] at hp
    dsimp only at hp
    rcases sd_bl d k with ⟨e', eb'⟩ | ⟨e', eb'⟩
    · rw [eb'] at hp
      exact br_f (nI_ge e (by omega)) (br_f (nI_nlt e' (by omega)) (e17 hp))
    · rw [eb'] at hp
      exact br_f (nI_ge e (by omega)) (br_t (nI_lt e' (by omega)) hp)
theorem sd_y112 (hn : n ≤ 5) (ha : ∀ j, j ≤ 5 → a j = nI (h j)) (hb : ∀ j, j ≤ 5 → h j ≤ 5) {d : Nat} (hd : d ≤ 5) (post : Int32 → Prop) (J : Int32 → Prop) : ∀ m k : Nat, k + m = n + 1 → (sd_yk h d m k = false → post 0) → (sd_yk h d m k = true → J (nI (d + 1))) → wY_isFlat_112 post J (nI d) (nI n) c sc bn yh a (m + 1) (nI k) := by
  intro m
  induction m with
  | zero =>
    intro k hk hF hT
    exact br_t (nI_lt (by omega) (by omega)) (nm_r (nI_1 d) (hT rfl))
  | succ m ih =>
    intro k hk hF hT
    refine br_f (nI_nlt (by omega) (by omega)) (sd_ycv c sc bn yh _ ha hb hd (by omega) ?_)
    simp only [sd_yk] at hF hT
    cases e : sd_cv (h d) d k with
    | false =>
      rw [e] at hF hT
      exact br_t sd_b0 (nm_r (nI_1 k) (ih (k + 1) (by omega) hF hT))
    | true =>
      rw [e] at hF hT
      dsimp only at hF hT
      refine br_f sd_b1 ⟨vp_in_nI (by omega) (by omega), ?_⟩
      rw [show a (nI d).toNatClampNeg = nI (h d) from by rw [nI_clamp (by omega)]; exact ha d hd]
      refine sd_ycw c sc bn yh _ ha hb (hb d hd) (by omega) ?_
      cases e2 : sd_c h (h d) 5 k with
      | false =>
        rw [e2] at hF
        exact br_t sd_b0 (hF rfl)
      | true =>
        rw [e2] at hF hT
        exact br_f sd_b1 (nm_r (nI_1 k) (ih (k + 1) (by omega) hF hT))
theorem sd_y90 (hn : n ≤ 5) (ha : ∀ j, j ≤ 5 → a j = nI (h j)) (hb : ∀ j, j ≤ 5 → h j ≤ 5) (post : Int32 → Prop) : ∀ m d : Nat, d + m = n + 1 → post (sd_b (sd_yd h n m d)) → wY_isFlat_90 post (nI n) c sc bn yh a (m + 1) (nI d) := by
  intro m
  induction m with
  | zero =>
    intro d hd hp
    exact br_t (nI_lt (by omega) (by omega)) hp
  | succ m ih =>
    intro d hd hp
    refine br_f (nI_nlt (by omega) (by omega)) (sd_ycw (g := 0) c sc bn yh _ ha hb (by omega) (by omega) ?_)
    simp only [sd_yd] at hp
    cases e : sd_c h 0 5 d with
    | false =>
      rw [e] at hp
      exact br_t sd_b0 hp
    | true =>
      rw [e] at hp
      dsimp only at hp
      refine br_f sd_b1 (Exists.intro _ (sd_y112 c sc bn yh hn ha hb (by omega) post _ n 1 (by omega) ?_ ?_))
      · intro z
        rw [z] at hp
        exact hp
      · intro z
        rw [z] at hp
        exact ih (d + 1) (by omega) hp
def sd_fin (h : Nat → Nat) (n : Nat) (s : Bool) : Option Nat → Bool
  | none => false
  | some r => match s with
    | false => sd_yd h n n 1
    | true => match Nat.beq r 1 with
      | false => false
      | true => sd_yd h n n 1
theorem sd_y4 (hn : n ≤ 5) (ha : ∀ j, j ≤ 5 → a j = nI (h j)) (hb : ∀ j, j ≤ 5 → h j ≤ 5) (s : Bool) (post : Int32 → Prop) : ∀ m d q : Nat, 1 ≤ d → d + m = 6 → q + m ≤ 10 → post (sd_b (sd_fin h n s (sd_yr h n m d q))) → wY_isFlat_4 post (sd_b s) (nI n) c sc bn yh a (m + 1) (nI q) (nI d) := by
  intro m
  induction m with
  | zero =>
    intro d q hd1 hd hq hp
    refine br_t (nI_lt (a := 5) (by omega) (by omega)) ?_
    cases s with
    | false => exact br_t sd_b0 (Exists.intro _ (sd_y90 c sc bn yh hn ha hb post n 1 (by omega) hp))
    | true =>
      refine br_f sd_b1 ?_
      simp only [sd_yr, sd_fin] at hp
      rcases sd_bq q 1 with ⟨e, eb⟩ | ⟨e, eb⟩
      · rw [eb] at hp
        exact br_t (congrArg nI e) (Exists.intro _ (sd_y90 c sc bn yh hn ha hb post n 1 (by omega) hp))
      · rw [eb] at hp
        exact br_f (sd_nq (b := 1) (by omega) (by omega) e) hp
  | succ m ih =>
    intro d q hd1 hd hq hp
    have hdh : h d ≤ 5 := hb d (by omega)
    have ea : a (nI d).toNatClampNeg = nI (h d) := by rw [nI_clamp (by omega)]; exact ha d (by omega)
    have hi : vp_in (nI d) 6 := vp_in_nI (by omega) (by omega)
    have k26 : post (sd_b (sd_fin h n s (match Nat.ble (h d) n with
      | false => none
      | true => match Nat.beq (h d) d with
        | true => none
        | false => match Nat.ble d n with
          | false => sd_yr h n m (d + 1) q
          | true => match Nat.beq (h d) 0 with
            | true => sd_yr h n m (d + 1) (q + 1)
            | false => sd_yr h n m (d + 1) q))) → wY_isFlat_26 post (wY_isFlat_4 post (sd_b s) (nI n) c sc bn yh a (m + 1)) (sd_b s) (nI q) (nI d) (nI n) c sc bn yh a := by
      intro hz
      unfold wY_isFlat_26
      rw [ea]
      refine ⟨hi, ?_⟩
      rcases sd_bl (h d) n with ⟨e, eb⟩ | ⟨e, eb⟩
      · rw [eb] at hz
        dsimp only at hz
        refine br_f (nI_nlt e (by omega)) ⟨hi, ?_⟩
        rcases sd_bq (h d) d with ⟨e2, eb2⟩ | ⟨e2, eb2⟩
        · rw [eb2] at hz
          exact br_t (congrArg nI e2) hz
        · rw [eb2] at hz
          dsimp only at hz
          refine br_f (sd_nq (by omega) (by omega) e2) ?_
          rcases sd_bl d n with ⟨e3, eb3⟩ | ⟨e3, eb3⟩
          · rw [eb3] at hz
            dsimp only at hz
            refine br_f (nI_nlt e3 (by omega)) ⟨hi, ?_⟩
            rcases sd_bq (h d) 0 with ⟨e4, eb4⟩ | ⟨e4, eb4⟩
            · rw [eb4] at hz
              exact br_t (congrArg nI e4) (nm_r (nI_1 q) (nm_r (nI_1 d) (ih (d + 1) (q + 1) (by omega) (by omega) (by omega) hz)))
            · rw [eb4] at hz
              exact br_f (sd_nq (b := 0) (by omega) (by omega) e4) (nm_r (nI_1 d) (ih (d + 1) q (by omega) (by omega) (by omega) hz))
          · rw [eb3] at hz
            exact br_t (nI_lt e3 (by omega)) (nm_r (nI_1 d) (ih (d + 1) q (by omega) (by omega) (by omega) hz))
      · rw [eb] at hz
        exact br_t (nI_lt e (by omega)) hz
    refine br_f (nI_nlt (b := d) (a := 5) (by omega) (by omega)) ?_
    rw [sd_yr] at hp
    rcases sd_bl d n with ⟨e, eb⟩ | ⟨e, eb⟩
    · refine br_t (nI_le e (by omega)) (k26 ?_)
      rw [eb] at hp ⊢
      exact hp
    · refine br_f (nI_ge e (by omega)) ⟨hi, ?_⟩
      rcases sd_bq (h d) 0 with ⟨e4, eb4⟩ | ⟨e4, eb4⟩
      · refine br_t (ea.trans (congrArg nI e4)) (k26 ?_)
        rw [eb] at hp ⊢
        rw [eb4] at hp ⊢
        exact hp
      · refine br_f (fun z => sd_nq (b := 0) (by omega) (by omega) e4 (ea.symm.trans z)) ?_
        rw [eb] at hp
        rw [eb4] at hp
        exact hp
theorem sd_y4w (hn : n ≤ 5) (ha : ∀ j, j ≤ 5 → a j = nI (h j)) (hb : ∀ j, j ≤ 5 → h j ≤ 5) (s : Bool) {post : Int32 → Prop} (hp : post (sd_b (sd_fY h n s))) : wpY_isFlat post (nI n, c, sc, bn, yh, a) (sd_b s) := by
  refine Exists.intro _ (sd_y4 c sc bn yh hn ha hb s post 5 1 0 (by omega) (by omega) (by omega) ?_)
  have e : sd_fin h n s (sd_yr h n 5 1 0) = sd_fY h n s := by
    unfold sd_fY
    cases sd_yr h n 5 1 0 with
    | none => rfl
    | some r => rfl
  rw [e]
  exact hp
end
theorem sd_y140 {n k : Nat} {h : Nat → Nat} {a : Nat → Int32} (hn : n ≤ 5) (hk : k < 300) (ha : ∀ j, j ≤ 5 → a j = nI (h j)) (x2 : Int32) (t : Nat) (sc bn : Nat → Int32) (post : SY → Prop) (J : Int32 → Int32 → (Nat → Int32) → (Nat → Int32) → (Nat → Int32) → (Nat → Int32) → Prop) : ∀ (m d : Nat) (lh : Nat → Int32), d + m = n + 1 → (∀ lh' : Nat → Int32, (∀ j, j < 6 * k + d → lh' j = lh j) → (∀ e, d ≤ e → e ≤ n → lh' (6 * k + e) = nI (h e)) → J (nI (t + 1)) (nI (k + 1)) sc bn lh' a) → wY_init_140 post J x2 (nI t) (nI n) (nI k) (m + 1) (nI d) sc bn lh a := by
  intro m
  induction m with
  | zero =>
    intro d lh hd hp
    exact br_t (nI_lt (by omega) (by omega)) (nm_r (nI_1 k) (nm_r (nI_1 t) (hp lh (fun _ _ => rfl) (fun e h1 h2 => absurd h1 (by omega)))))
  | succ m ih =>
    intro d lh hd hp
    have e1 : upd lh ((6 * nI k) + nI d).toNatClampNeg (a (nI d).toNatClampNeg) = upd lh (6 * k + d) (nI (h d)) := by
      rw [sd_f6, nI_clamp (by omega), nI_clamp (by omega), ha d (by omega)]
    refine br_f (nI_nlt (by omega) (by omega)) ⟨vp_in_nI (by omega) (by omega), by rw [sd_f6]; exact vp_in_nI (by omega) (by omega), nm_r e1 (nm_r (nI_1 d) (ih (d + 1) _ (by omega) ?_))⟩
    intro lh' h1 h2
    refine hp lh' (fun j hj => (h1 j (by omega)).trans (pk_un (by omega))) (fun e he1 he2 => ?_)
    by_cases z : e = d
    · subst z; exact (h1 (6 * k + e) (by omega)).trans pk_us
    · exact h2 e (by omega) he2
theorem sd_ys {t : Nat} (ht : t < 7776) (x2 x3 f c : Int32) (sc bn lh : Nat → Int32) (post : SY → Prop) (J : Int32 → Int32 → (Nat → Int32) → (Nat → Int32) → (Nat → Int32) → (Nat → Int32) → Prop) (s : Bool) (hs : s = !(x2 == 0)) : ∀ (d : Nat) (a : Nat → Int32), d ≤ 5 → a 0 = 0 → (∀ j, d < j → j ≤ 5 → a j = nI (sd_h 5 t j)) → (∀ a', (∀ j, j ≤ 5 → a' j = nI (sd_h 5 t j)) → wY_init_121 post J x2 x3 (sd_b s) f c sc bn lh a') → wY_init_80 post J x2 x3 f c (d + 1) (nI (t / 6 ^ (5 - d))) (nI d) sc bn lh a := by
  intro d
  induction d with
  | zero =>
    intro a hd h0 hj hp
    have hq := hp a fun j hjn => by
      cases j with
      | zero => exact h0
      | succ j => exact hj (j + 1) (by omega) hjn
    refine br_t (nI_lt (b := 1) (by omega) (by omega)) ?_
    by_cases z : x2 = 0
    · have es : s = false := by rw [hs, z]; rfl
      subst es
      exact br_t z hq
    · have es : s = true := by rw [hs, beq_eq_false_iff_ne.mpr z]; rfl
      subst es
      exact br_f z hq
  | succ d ih =>
    intro a hd h0 hj hp
    have hlt : t / 6 ^ (5 - (d + 1)) < 2 ^ 31 := Nat.lt_of_le_of_lt (Nat.div_le_self _ _) (by omega)
    have hz : ¬ (6 : Int32) = 0 := by decide
    have e1 : upd a (nI (d + 1)).toNatClampNeg (nI (t / 6 ^ (5 - (d + 1))) - nI (t / 6 ^ (5 - (d + 1))) / 6 * 6) = upd a (d + 1) (nI (sd_h 5 t (d + 1))) := by
      rw [nI_clamp (by omega), show (6 : Int32) = nI 6 from rfl, pk_rem hlt (by omega) (by omega)]
      rfl
    have e2 : nI (t / 6 ^ (5 - (d + 1))) / 6 = nI (t / 6 ^ (5 - d)) := by
      rw [show (6 : Int32) = nI 6 from rfl, pk_div hlt (by omega) (by omega), sd_dv 5 t d hd]
    refine br_f (nI_nlt (b := 1) (by omega) (by omega)) ⟨hz, vp_in_nI (by omega) (by omega), nm_r e1 ⟨hz, nm_r e2 (nm_r (pk_m1 d) (ih _ (by omega) ?_ ?_ hp))⟩⟩
    · rw [pk_un (by omega)]; exact h0
    · intro j h1 h2
      by_cases z : j = d + 1
      · subst z; exact pk_us
      · rw [pk_un z]; exact hj j (by omega) h2
theorem sd_yo {n : Nat} (hn : n ≤ 5) (x2 : Int32) (s : Bool) (hs : s = !(x2 == 0)) (hL : (sd_sel (sd_pY n s) 0 7776).length ≤ 273) (sc bn : Nat → Int32) (post : SY → Prop)
    (hp : ∀ a lh : Nat → Int32, sd_hold n (sd_h 5) (sd_sel (sd_pY n s) 0 7776) lh → post (nI n, nI (sd_sel (sd_pY n s) 0 7776).length, sc, bn, lh, a)) :
    ∀ (m t : Nat) (a lh : Nat → Int32), t + m = 7776 → a 0 = 0 → sd_hold n (sd_h 5) (sd_sel (sd_pY n s) 0 t) lh → wY_init_67 post x2 (nI n) (m + 1) (nI t) (nI (sd_sel (sd_pY n s) 0 t).length) sc bn lh a := by
  intro m
  induction m with
  | zero =>
    intro t a lh ht h0 hh
    have e : t = 7776 := by omega
    subst e
    exact br_t (nI_le (a := 7776) (by omega) (by omega)) (hp a lh hh)
  | succ m ih =>
    intro t a lh ht h0 hh
    have hq := sd_ys (t := t) (by omega) x2 (nI t) (nI n) (nI (sd_sel (sd_pY n s) 0 t).length) sc bn lh post (wY_init_67 post x2 (nI n) (m + 1)) s hs 5 a (Nat.le_refl _) h0 (fun j h1 h2 => absurd h1 (by omega))
    rw [Nat.sub_self, Nat.pow_zero, Nat.div_one] at hq
    refine br_f (nI_ge (b := 7776) (by omega) (by omega)) (Exists.intro _ (hq ?_))
    intro a' ha
    have hb : ∀ j, j ≤ 5 → sd_h 5 t j ≤ 5 := fun j _ => sd_hle 5 t j
    have h0' : a' 0 = 0 := ha 0 (Nat.zero_le _)
    unfold wY_init_121
    refine sd_y4w _ sc bn lh hn ha hb s ?_
    have e0 : sd_fY (sd_h 5 t) n s = sd_pY n s t := rfl
    rw [e0]
    cases e1 : sd_pY n s t with
    | false =>
      refine br_t sd_b0 (nm_r (nI_1 t) ?_)
      have := ih (t + 1) a' lh (by omega) h0'
      rw [sd_sel_f e1] at this
      exact this hh
    | true =>
      have hacc := sd_sel_t e1
      have hlen : (sd_sel (sd_pY n s) 0 (t + 1)).length = (sd_sel (sd_pY n s) 0 t).length + 1 := by
        rw [hacc, List.length_append, List.length_singleton]
      have hle : (sd_sel (sd_pY n s) 0 (t + 1)).length ≤ (sd_sel (sd_pY n s) 0 7776).length := by
        have := sd_sel_le (sd_pY n s) (t + 1) m
        rw [show t + 1 + m = 7776 from by omega] at this
        exact this
      refine br_f sd_b1 (br_f (nI_ge (b := 300) (by omega) (by omega)) (Exists.intro _ (sd_y140 hn (by omega) ha x2 t sc bn post _ n 1 lh (by omega) ?_)))
      intro lh' h1 h2
      have := ih (t + 1) a' lh' (by omega) h0'
      rw [hlen, hacc] at this
      exact this (sd_hold_s hn hh h1 h2)
theorem sd_yin {n : Nat} (hn : n ≤ 5) (p1 : Int32) (s : Bool) (hs : s = !(p1 == 0)) (hL : (sd_sel (sd_pY n s) 0 7776).length ≤ 273) {post : SY → Prop}
    (hp : ∀ a lh : Nat → Int32, sd_hold n (sd_h 5) (sd_sel (sd_pY n s) 0 7776) lh → post (nI n, nI (sd_sel (sd_pY n s) 0 7776).length, fun _ => 0, fun _ => 0, lh, a)) :
    ∃ n67 : Nat, wY_init_67 post p1 (nI n) n67 0 0 (fun _ => 0) (fun _ => 0) (fun _ => 0) (fun _ => 0) :=
  Exists.intro _ (sd_yo hn p1 s hs hL (fun _ => 0) (fun _ => 0) post hp 7776 0 (fun _ => 0) (fun _ => 0) (Nat.zero_add _) rfl (fun i v hv => by simp only [sd_sel, List.getElem?_nil] at hv; exact nomatch hv))
