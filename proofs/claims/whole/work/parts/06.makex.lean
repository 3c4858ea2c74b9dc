theorem sd_bq (a b : Nat) : (a = b ∧ Nat.beq a b = true) ∨ (a ≠ b ∧ Nat.beq a b = false) := by
  cases e : Nat.beq a b with
  | true => exact Or.inl ⟨Nat.eq_of_beq_eq_true e, rfl⟩
  | false => exact Or.inr ⟨Nat.ne_of_beq_eq_false e, rfl⟩
theorem sd_bl (a b : Nat) : (a ≤ b ∧ Nat.ble a b = true) ∨ (b < a ∧ Nat.ble a b = false) := by
  cases e : Nat.ble a b with
  | true => exact Or.inl ⟨Nat.le_of_ble_eq_true e, rfl⟩
  | false => exact Or.inr ⟨Nat.lt_of_not_le (Nat.not_le_of_not_ble_eq_true (by rw [e]; exact Bool.false_ne_true)), rfl⟩
theorem sd_nq {a b : Nat} (ha : a < 2 ^ 31) (hb : b < 2 ^ 31) (h : a ≠ b) : ¬ nI a = nI b := fun z => h ((nI_eq ha hb).mp z)
theorem sd_hle (n t j : Nat) : sd_h n t j ≤ n := by
  cases j with
  | zero => exact Nat.zero_le _
  | succ j => exact Nat.le_of_lt_succ (Nat.mod_lt _ (Nat.succ_pos n))
section
variable {n : Nat} {h : Nat → Nat} {a : Nat → Int32} (o c : Int32) (sc bn lh : Nat → Int32)
theorem sd_xc (hn : n ≤ 5) (ha : ∀ j, j ≤ n → a j = nI (h j)) (hb : ∀ j, j ≤ n → h j ≤ n) {g : Nat} (hg : g ≤ 5) : ∀ m i : Nat, i + m = n → ∀ w : Nat, w ≤ n → ∀ post : Int32 → Prop, post (sd_b (sd_c h g m w)) → wX_comesTo_5 post (nI g) (nI n) o c sc bn a lh (m + 1) (nI w) (nI i) := by
  intro m
  induction m with
  | zero =>
    intro i hi w hw post hp
    have h1 : nI n ≤ nI i := nI_le (by omega) (by omega)
    rcases sd_bq w g with ⟨e, eb⟩ | ⟨e, eb⟩
    · simp only [sd_c, eb] at hp
      exact br_t h1 (br_t (congrArg nI e) hp)
    · simp only [sd_c, eb] at hp
      exact br_t h1 (br_f (sd_nq (by omega) (by omega) e) hp)
  | succ m ih =>
    intro i hi w hw post hp
    have h1 : ¬ nI n ≤ nI i := nI_ge (by omega) (by omega)
    rcases sd_bq w g with ⟨e, eb⟩ | ⟨e, eb⟩
    · simp only [sd_c, eb] at hp
      exact br_f h1 (br_t (congrArg nI e) (br_t (congrArg nI e) hp))
    · simp only [sd_c, eb] at hp
      exact br_f h1 (br_f (sd_nq (by omega) (by omega) e) ⟨vp_in_nI (by omega) (by omega), nm_r (by rw [nI_clamp (by omega)]; exact ha w hw) (nm_r (nI_1 i) (ih (i + 1) (by omega) (h w) (hb w hw) post hp))⟩)
theorem sd_xcw (hn : n ≤ 5) (ha : ∀ j, j ≤ n → a j = nI (h j)) (hb : ∀ j, j ≤ n → h j ≤ n) {g w : Nat} (hg : g ≤ 5) (hw : w ≤ n) {post : Int32 → Prop} (hp : post (sd_b (sd_c h g n w))) : wpX_comesTo post (nI n, o, c, sc, bn, a, lh) (nI w) (nI g) :=
  Exists.intro _ (sd_xc o c sc bn lh hn ha hb hg n 0 (by omega) w hw post hp)
theorem sd_xt (hn : n ≤ 5) (ha : ∀ j, j ≤ n → a j = nI (h j)) (hb : ∀ j, j ≤ n → h j ≤ n) : ∀ m d : Nat, d + m = n + 1 → ∀ post : Int32 → Prop, post (sd_b (sd_in h 0 n m d)) → wX_isTree_2 post (nI n) o c sc bn a lh (m + 1) (nI d) := by
  intro m
  induction m with
  | zero =>
    intro d hd post hp
    exact br_t (nI_lt (by omega) (by omega)) hp
  | succ m ih =>
    intro d hd post hp
    refine br_f (nI_nlt (by omega) (by omega)) (sd_xcw (g := 0) o c sc bn lh hn ha hb (by omega) (by omega) ?_)
    simp only [sd_in] at hp
    cases e : sd_c h 0 n d with
    | false =>
      rw [e] at hp
      exact br_t sd_b0 hp
    | true =>
      rw [e] at hp
      exact br_f sd_b1 (nm_r (nI_1 d) (ih (d + 1) (by omega) post hp))
theorem sd_xtw (hn : n ≤ 5) (ha : ∀ j, j ≤ n → a j = nI (h j)) (hb : ∀ j, j ≤ n → h j ≤ n) {post : Int32 → Prop} (hp : post (sd_b (sd_in h 0 n n 1))) : wpX_isTree post (nI n, o, c, sc, bn, a, lh) :=
  Exists.intro _ (sd_xt o c sc bn lh hn ha hb n 1 (by omega) post hp)
theorem sd_xf45 (hn : n ≤ 5) (ha : ∀ j, j ≤ n → a j = nI (h j)) (hb : ∀ j, j ≤ n → h j ≤ n) {d g R : Nat} (hg : g ≤ 5) (hR : R ≤ n) (post : Int32 → Prop) (J : Int32 → Prop) : ∀ m k : Nat, m = R - k → k ≤ 6 → (sd_in h g n m k = false → post 0) → (sd_in h g n m k = true → J (nI (d + 1))) → wX_isFlat_45 post J (nI d) (nI g) (nI R) (nI n) o c sc bn a lh (m + 1) (nI k) := by
  intro m
  induction m with
  | zero =>
    intro k hk hk6 hF hT
    exact br_t (nI_le (by omega) (by omega)) (nm_r (nI_1 d) (hT rfl))
  | succ m ih =>
    intro k hk hk6 hF hT
    refine br_f (nI_ge (by omega) (by omega)) (sd_xcw o c sc bn lh hn ha hb hg (by omega) ?_)
    simp only [sd_in] at hF hT
    cases e : sd_c h g n k with
    | false =>
      rw [e] at hF
      exact br_t sd_b0 (hF rfl)
    | true =>
      rw [e] at hF hT
      exact br_f sd_b1 (nm_r (nI_1 k) (ih (k + 1) (by omega) (by omega) hF hT))
theorem sd_xf (hn : n ≤ 5) (ha : ∀ j, j ≤ n → a j = nI (h j)) (hb : ∀ j, j ≤ n → h j ≤ n) : ∀ m d : Nat, d + m = n + 1 → ∀ post : Int32 → Prop, post (sd_b (sd_fl h n m d)) → wX_isFlat_2 post (nI n) o c sc bn a lh (m + 1) (nI d) := by
  intro m
  induction m with
  | zero =>
    intro d hd post hp
    exact br_t (nI_lt (by omega) (by omega)) hp
  | succ m ih =>
    intro d hd post hp
    have hdn : h d ≤ n := hb d (by omega)
    refine br_f (nI_nlt (by omega) (by omega)) ⟨vp_in_nI (by omega) (by omega), nm_r (e' := nI (h d)) (by rw [nI_clamp (by omega)]; exact ha d (by omega)) ?_⟩
    simp only [sd_fl] at hp
    rcases sd_bl d (h d) with ⟨e, eb⟩ | ⟨e, eb⟩
    · rw [eb] at hp
      dsimp only at hp
      have hle : nI d ≤ nI (h d) := nI_le e (by omega)
      refine br_t hle (br_t hle (nm_r (nI_1 d) (Exists.intro _ (sd_xf45 o c sc bn lh hn ha hb (by omega) hdn post _ (h d - (d + 1)) (d + 1) rfl (by omega) ?_ ?_))))
      · intro z
        rw [z] at hp
        exact hp
      · intro z
        rw [z] at hp
        exact ih (d + 1) (by omega) post hp
    · rw [eb] at hp
      dsimp only at hp
      have hle : ¬ nI d ≤ nI (h d) := nI_ge e (by omega)
      refine br_f hle (br_f hle (nm_r (nI_1 (h d)) (Exists.intro _ (sd_xf45 o c sc bn lh hn ha hb (by omega) (by omega) post _ (d - (h d + 1)) (h d + 1) rfl (by omega) ?_ ?_))))
      · intro z
        rw [z] at hp
        exact hp
      · intro z
        rw [z] at hp
        exact ih (d + 1) (by omega) post hp
theorem sd_xfw (hn : n ≤ 5) (ha : ∀ j, j ≤ n → a j = nI (h j)) (hb : ∀ j, j ≤ n → h j ≤ n) {post : Int32 → Prop} (hp : post (sd_b (sd_fl h n n 1))) : wpX_isFlat post (nI n, o, c, sc, bn, a, lh) :=
  Exists.intro _ (sd_xf o c sc bn lh hn ha hb n 1 (by omega) post hp)
end
def sd_rr (r : Nat) : Bool → Bool
  | false => true
  | true => Nat.beq r 1
section
variable {n : Nat} {h : Nat → Nat} {a : Nat → Int32} (c : Int32) (sc bn lh : Nat → Int32)
theorem sd_xr (hn : n ≤ 5) (ha : ∀ j, j ≤ n → a j = nI (h j)) (hb : ∀ j, j ≤ n → h j ≤ n) (s : Bool) : ∀ m d q : Nat, d + m = n + 1 → q + m ≤ 10 → ∀ post : Int32 → Prop, post (sd_b (sd_rr (sd_rt h m d q) s)) → wX_hasRootWordsAsAsked_4 post (nI n) (sd_b s) c sc bn a lh (m + 1) (nI q) (nI d) := by
  intro m
  induction m with
  | zero =>
    intro d q hd hq post hp
    refine br_t (nI_lt (by omega) (by omega)) ?_
    cases s with
    | false => exact br_t sd_b0 hp
    | true =>
      refine br_f sd_b1 ?_
      rcases sd_bq q 1 with ⟨e, eb⟩ | ⟨e, eb⟩
      · simp only [sd_rt, sd_rr, eb] at hp
        exact br_t (congrArg nI e) hp
      · simp only [sd_rt, sd_rr, eb] at hp
        exact br_f (sd_nq (b := 1) (by omega) (by omega) e) hp
  | succ m ih =>
    intro d q hd hq post hp
    have hdn : h d ≤ n := hb d (by omega)
    have ea : a (nI d).toNatClampNeg = nI (h d) := by rw [nI_clamp (by omega)]; exact ha d (by omega)
    refine br_f (nI_nlt (by omega) (by omega)) ⟨vp_in_nI (by omega) (by omega), ?_⟩
    rcases sd_bq (h d) 0 with ⟨e, eb⟩ | ⟨e, eb⟩
    · simp only [sd_rt, eb] at hp
      exact br_t (ea.trans (congrArg nI e)) (nm_r (nI_1 q) (nm_r (nI_1 d) (ih (d + 1) (q + 1) (by omega) (by omega) post hp)))
    · simp only [sd_rt, eb] at hp
      exact br_f (fun z => sd_nq (b := 0) (by omega) (by omega) e (ea.symm.trans z)) (nm_r (nI_1 d) (ih (d + 1) q (by omega) (by omega) post hp))
theorem sd_xrw (hn : n ≤ 5) (ha : ∀ j, j ≤ n → a j = nI (h j)) (hb : ∀ j, j ≤ n → h j ≤ n) (s : Bool) {post : Int32 → Prop} (hp : post (sd_b (sd_rr (sd_rt h n 1 0) s))) : wpX_hasRootWordsAsAsked post (nI n, sd_b s, c, sc, bn, a, lh) :=
  Exists.intro _ (sd_xr c sc bn lh hn ha hb s n 1 0 (by omega) (by omega) post hp)
end
/-- the digits: rest and cells -/
theorem sd_dv (n t d : Nat) (hd : d + 1 ≤ n) : t / (n + 1) ^ (n - (d + 1)) / (n + 1) = t / (n + 1) ^ (n - d) := by
  rw [Nat.div_div_eq_div_mul, ← Nat.pow_succ]
  exact congrArg (fun e => t / (n + 1) ^ e) (by omega)
theorem sd_xs {n t : Nat} (hn : n ≤ 5) (ht : t < 7776) (o c : Int32) (sc bn lh : Nat → Int32) (post : SX → Prop) : ∀ (d : Nat) (a : Nat → Int32), d ≤ n → a 0 = 0 → (∀ j, d < j → j ≤ n → a j = nI (sd_h n t j)) → (∀ a', (∀ j, j ≤ n → a' j = nI (sd_h n t j)) → post (nI n, o, c, sc, bn, a', lh)) → wX_setHeads_7 post (nI n) o c (d + 1) (nI (t / (n + 1) ^ (n - d))) (nI d) sc bn a lh := by
  intro d
  induction d with
  | zero =>
    intro a hd h0 hj hp
    refine br_t (nI_lt (b := 1) (by omega) (by omega)) (hp a fun j hjn => ?_)
    cases j with
    | zero => exact h0
    | succ j => exact hj (j + 1) (by omega) hjn
  | succ d ih =>
    intro a hd h0 hj hp
    have hlt : t / (n + 1) ^ (n - (d + 1)) < 2 ^ 31 := Nat.lt_of_le_of_lt (Nat.div_le_self _ _) (by omega)
    have hz : ¬ nI n + 1 = 0 := by rw [nI_1]; exact nI_ne0 (by omega) (by omega)
    have e1 : upd a (nI (d + 1)).toNatClampNeg (nI (t / (n + 1) ^ (n - (d + 1))) - nI (t / (n + 1) ^ (n - (d + 1))) / (nI n + 1) * (nI n + 1)) = upd a (d + 1) (nI (sd_h n t (d + 1))) := by
      rw [nI_clamp (by omega), nI_1, pk_rem hlt (by omega) (by omega)]
      rfl
    have e2 : nI (t / (n + 1) ^ (n - (d + 1))) / (nI n + 1) = nI (t / (n + 1) ^ (n - d)) := by
      rw [nI_1, pk_div hlt (by omega) (by omega), sd_dv n t d hd]
    refine br_f (nI_nlt (b := 1) (by omega) (by omega)) ⟨hz, vp_in_nI (by omega) (by omega), nm_r e1 ⟨hz, nm_r e2 (nm_r (pk_m1 d) (ih _ (by omega) ?_ ?_ hp))⟩⟩
    · rw [pk_un (by omega)]; exact h0
    · intro j h1 h2
      by_cases z : j = d + 1
      · subst z; exact pk_us
      · rw [pk_un z]; exact hj j (by omega) h2
theorem sd_xsw {n t : Nat} (hn : n ≤ 5) (ht : t < 7776) (o c : Int32) (sc bn a lh : Nat → Int32) {post : SX → Prop} (h0 : a 0 = 0) (hp : ∀ a', (∀ j, j ≤ n → a' j = nI (sd_h n t j)) → post (nI n, o, c, sc, bn, a', lh)) : wpX_setHeads post (nI n, o, c, sc, bn, a, lh) (nI t) := by
  have h := sd_xs hn ht o c sc bn lh post n a (Nat.le_refl _) h0 (fun j h1 h2 => absurd h1 (by omega)) hp
  rw [Nat.sub_self, Nat.pow_zero, Nat.div_one] at h
  exact Exists.intro _ h
theorem sd_by : ∀ v : Nat, v < 6 → (nI v).toInt8.toInt32 = nI v := by decide
theorem sd_xl {n k : Nat} {h : Nat → Nat} {a : Nat → Int32} (hn : n ≤ 5) (hk : k < 273) (ha : ∀ j, j ≤ n → a j = nI (h j)) (hb : ∀ j, j ≤ n → h j ≤ n) (o : Int32) (sc bn : Nat → Int32) (post : SX → Prop) : ∀ (m d : Nat) (lh : Nat → Int32), d + m = n + 1 → (∀ lh' : Nat → Int32, (∀ j, j < 6 * k + d → lh' j = lh j) → (∀ e, d ≤ e → e ≤ n → lh' (6 * k + e) = nI (h e)) → post (nI n, o, nI (k + 1), sc, bn, a, lh')) → wX_listHeads_13 post (nI n) o (nI k) (m + 1) (nI d) sc bn a lh := by
  intro m
  induction m with
  | zero =>
    intro d lh hd hp
    exact br_t (nI_lt (by omega) (by omega)) (nm_r (nI_1 k) (hp lh (fun _ _ => rfl) (fun e h1 h2 => absurd h1 (by omega))))
  | succ m ih =>
    intro d lh hd hp
    have hdn : h d ≤ n := hb d (by omega)
    have e1 : upd lh ((nI k * 6) + nI d).toNatClampNeg (vp_nar .byte ((a (nI d).toNatClampNeg).toInt8.toInt32)) = upd lh (6 * k + d) (nI (h d)) := by
      rw [sd_e6, nI_clamp (by omega), nI_clamp (by omega), ha d (by omega), pk_vb, sd_by _ (by omega)]
    refine br_f (nI_nlt (by omega) (by omega)) ⟨vp_in_nI (by omega) (by omega), by rw [sd_e6]; exact vp_in_nI (by omega) (by omega), nm_r e1 (nm_r (nI_1 d) (ih (d + 1) _ (by omega) ?_))⟩
    intro lh' h1 h2
    refine hp lh' (fun j hj => (h1 j (by omega)).trans (pk_un (by omega))) (fun e he1 he2 => ?_)
    by_cases z : e = d
    · subst z; exact (h1 (6 * k + e) (by omega)).trans pk_us
    · exact h2 e (by omega) he2
theorem sd_xlw {n k : Nat} {h : Nat → Nat} {a : Nat → Int32} (hn : n ≤ 5) (hk : k < 273) (ha : ∀ j, j ≤ n → a j = nI (h j)) (hb : ∀ j, j ≤ n → h j ≤ n) (o : Int32) (sc bn lh : Nat → Int32) {post : SX → Prop} (hp : ∀ lh' : Nat → Int32, (∀ j, j < 6 * k + 1 → lh' j = lh j) → (∀ e, 1 ≤ e → e ≤ n → lh' (6 * k + e) = nI (h e)) → post (nI n, o, nI (k + 1), sc, bn, a, lh')) : wpX_listHeads post (nI n, o, nI k, sc, bn, a, lh) := by
  have h1 : nI k < 273 := nI_lt (b := 273) hk (by omega)
  exact br_t h1 (Exists.intro _ (sd_xl hn hk ha hb o sc bn post n 1 lh (by omega) hp))
def sd_hold (n : Nat) (f : Nat → Nat → Nat) (L : List Nat) (lh : Nat → Int32) : Prop := ∀ i v : Nat, L[i]? = some v → ∀ d : Nat, 1 ≤ d → d ≤ n → lh (6 * i + d) = nI (f v d)
theorem sd_hold_s {n : Nat} {f : Nat → Nat → Nat} {L : List Nat} {lh lh' : Nat → Int32} {t : Nat} (hn : n ≤ 5) (H : sd_hold n f L lh) (h1 : ∀ j, j < 6 * L.length + 1 → lh' j = lh j) (h2 : ∀ e, 1 ≤ e → e ≤ n → lh' (6 * L.length + e) = nI (f t e)) : sd_hold n f (L ++ [t]) lh' := by
  intro i v hv d hd1 hd2
  by_cases z : i < L.length
  · rw [List.getElem?_append_left z] at hv
    rw [h1 _ (by omega)]
    exact H i v hv d hd1 hd2
  · obtain ⟨hl, _⟩ := List.getElem?_eq_some_iff.mp hv
    rw [List.length_append, List.length_singleton] at hl
    have ei : i = L.length := by omega
    subst ei
    rw [List.getElem?_concat_length] at hv
    cases hv
    exact h2 d hd1 hd2
theorem sd_sel_t {p : Nat → Bool} {t : Nat} (h : p t = true) : sd_sel p 0 (t + 1) = sd_sel p 0 t ++ [t] := by
  simp only [sd_sel, Nat.zero_add, h]
theorem sd_sel_f {p : Nat → Bool} {t : Nat} (h : p t = false) : sd_sel p 0 (t + 1) = sd_sel p 0 t := by
  simp only [sd_sel, Nat.zero_add, h, List.append_nil]
theorem sd_sel_le (p : Nat → Bool) (t m : Nat) : (sd_sel p 0 t).length ≤ (sd_sel p 0 (t + m)).length := by
  rw [sd_sel_add, List.length_append]
  omega
