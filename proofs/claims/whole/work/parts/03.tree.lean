def sd_rg (sc : Nat → Int32) : Prop := ∀ j : Nat, -1000 ≤ (sc j).toInt ∧ (sc j).toInt ≤ 1000
def sd_hd (n c : Nat) (lh yh : Nat → Int32) : Prop := ∀ t d : Nat, t < c → 1 ≤ d → d ≤ n → ∃ g : Nat, g ≤ n ∧ lh (6 * t + d) = nI g ∧ yh (6 * t + d) = nI g
def sd_R (n c : Nat) (sc lh yh : Nat → Int32) : Prop := 1 ≤ n ∧ n ≤ 5 ∧ c ≤ 273 ∧ sd_hd n c lh yh ∧ sd_rg sc
def i_Rel (k : Nat) (u : SX) (v : SY) : Prop := ∃ (n c : Nat) (o : Int32) (sc bn hs lh yh nw : Nat → Int32), u = (nI n, o, nI c, sc, bn, hs, lh) ∧ v = (nI n, nI c, sc, bn, yh, nw) ∧ sd_R n c sc lh yh
theorem i_up {k : Nat} {u : SX} {v : SY} (h : i_Rel k u v) : i_Rel (k + 4) u v := h
def sd_b : Bool → Int32
  | true => 1
  | false => 0
def sd_w (w : Int32) : Bool → Int32
  | true => w
  | false => -1000000
theorem sd_b1 : ¬ sd_b true = 0 := by decide
theorem sd_b0 : sd_b false = 0 := rfl
theorem sd_ev {P : Int32 → Prop} {a b : Int32} (e : a = b) (h : P b) : P a := e ▸ h
theorem sd_e6 (t d : Nat) : nI t * 6 + nI d = nI (6 * t + d) := by
  rw [show (6 : Int32) = nI 6 from rfl, pk_mul, nI_add, Nat.mul_comm]
theorem sd_f6 (t d : Nat) : 6 * nI t + nI d = nI (6 * t + d) := by
  rw [show (6 : Int32) = nI 6 from rfl, pk_mul, nI_add]
theorem sd_xh {post : Int32 → Prop} {n o c : Int32} {sc bn hs lh : Nat → Int32} {t d g : Nat} (ht : 6 * t + d < 1638) (hg : lh (6 * t + d) = nI g) (hp : post (nI g)) : wpX_headIn post (n, o, c, sc, bn, hs, lh) (nI t) (nI d) := by
  unfold wpX_headIn
  dsimp only
  rw [sd_e6, nI_clamp (by omega), hg]
  exact ⟨vp_in_nI ht (by omega), hp⟩
theorem sd_ac {post : Int32 → Prop} {g d : Nat} (hp : post (nI (6 * g + d))) : wpX_arcCell post (nI g) (nI d) := by
  unfold wpX_arcCell
  rw [sd_e6]
  exact hp
theorem sd_addr {a b : Int32} {m : Nat} (hm : m ≤ 10) (h1 : -1000 ≤ a.toInt ∧ a.toInt ≤ 1000) (h2 : -1000 * (m : Int) ≤ b.toInt ∧ b.toInt ≤ 1000 * (m : Int)) : -1000 * ((m + 1 : Nat) : Int) ≤ (a + b).toInt ∧ (a + b).toInt ≤ 1000 * ((m + 1 : Nat) : Int) := by
  have e : (a + b).toInt = a.toInt + b.toInt := by
    rw [Int32.toInt_add]
    exact Int.bmod_eq_of_le (by omega) (by omega)
  rw [e]
  omega
section
variable {n c : Nat} {sc lh yh : Nat → Int32} (o : Int32) (bn hs nw : Nat → Int32)
theorem sd_trL (H : sd_R n c sc lh yh) {t : Nat} (ht : t < c) : ∀ m d : Nat, d + m = n + 1 → 1 ≤ d → ∃ (b : Bool) (w : Int32), (-1000 * (m : Int) ≤ w.toInt ∧ w.toInt ≤ 1000 * (m : Int)) ∧
    (∀ post : Int32 → Prop, post (sd_b b) → wX_isAllowed_2 post (nI t) (nI n) o (nI c) sc bn hs lh (m + 1) (nI d)) ∧
    (∀ (post : Int32 → Prop) (a : Int32), post (a + w) → wX_scoreOf_4 post (nI t) (nI n) o (nI c) sc bn hs lh (m + 1) a (nI d)) ∧
    (∀ (post : Int32 → Prop) (a : Int32), post (sd_w (a + w) b) → wY_worth_4 post (nI t) (nI n) (nI c) sc bn yh nw (m + 1) a (nI d)) := by
  obtain ⟨hn1, hn5, hc, hh, hr⟩ := H
  intro m
  induction m with
  | zero =>
    intro d hd _
    have h : nI n < nI d := nI_lt (by omega) (by omega)
    refine ⟨true, 0, ⟨by decide, by decide⟩, fun post hp => br_t h hp, fun post a hp => br_t h ?_, fun post a hp => br_t h ?_⟩
    · rw [Int32.add_zero] at hp; exact hp
    · rw [Int32.add_zero] at hp; exact hp
  | succ m ih =>
    intro d hd h1
    have h : ¬ nI n < nI d := nI_nlt (by omega) (by omega)
    obtain ⟨g, hg, hx, hy⟩ := hh t d ht h1 (by omega)
    have hi1 : 6 * t + d < 1638 := by omega
    have hi2 : vp_in (6 * nI t + nI d) 1800 := by rw [sd_f6]; exact vp_in_nI (by omega) (by omega)
    have hi3 : vp_in (nI (6 * g + d)) 36 := vp_in_nI (by omega) (by omega)
    have he : 6 * (yh (6 * nI t + nI d).toNatClampNeg) + nI d = nI (6 * g + d) := by
      rw [sd_f6 t, nI_clamp (by omega), hy, sd_f6]
    obtain ⟨b, w, hw, A, S, W⟩ := ih (d + 1) (by omega) (by omega)
    have hw' := sd_addr (a := sc (nI (6 * g + d)).toNatClampNeg) (by omega) (hr _) hw
    have S' : ∀ (post : Int32 → Prop) (a : Int32), post (a + (sc (nI (6 * g + d)).toNatClampNeg + w)) → wX_scoreOf_4 post (nI t) (nI n) o (nI c) sc bn hs lh (m + 1 + 1) a (nI d) :=
      fun post a hp => br_f h (sd_xh hi1 hx (sd_ac ⟨hi3, nm_e (nm_r (nI_1 d) (S post _ (by rw [Int32.add_assoc]; exact hp)))⟩))
    by_cases z : bn (nI (6 * g + d)).toNatClampNeg = 0
    · refine ⟨b, _, hw', fun post hp => br_f h (sd_xh hi1 hx (sd_ac ⟨hi3, br_t z (nm_r (nI_1 d) (A post hp))⟩)), S', fun post a hp => br_f h ⟨hi2, nm_r he ⟨hi3, br_t z ⟨hi3, nm_e (nm_r (nI_1 d) (W post _ ?_))⟩⟩⟩⟩
      rw [Int32.add_assoc]; exact hp
    · exact ⟨false, _, hw', fun post hp => br_f h (sd_xh hi1 hx (sd_ac ⟨hi3, br_f z hp⟩)), S', fun post a hp => br_f h ⟨hi2, nm_r he ⟨hi3, br_f z hp⟩⟩⟩
theorem sd_tr (H : sd_R n c sc lh yh) {t : Nat} (ht : t < c) : ∃ (b : Bool) (w : Int32), (¬ w = -1000000) ∧ (-1000000 : Int32) ≤ w ∧
    (∀ post : Int32 → Prop, post (sd_b b) → wpX_isAllowed post (nI n, o, nI c, sc, bn, hs, lh) (nI t)) ∧
    (∀ post : Int32 → Prop, post w → wpX_scoreOf post (nI n, o, nI c, sc, bn, hs, lh) (nI t)) ∧
    (∀ post : Int32 → Prop, post (sd_w w b) → wpY_worth post (nI n, nI c, sc, bn, yh, nw) (nI t)) := by
  have hn5 : n ≤ 5 := H.2.1
  obtain ⟨b, w, hw, A, S, W⟩ := sd_trL o bn hs nw H ht n 1 (by omega) (by omega)
  have e : (-1000000 : Int32).toInt = -1000000 := by decide
  refine ⟨b, w, ?_, ?_, fun post hp => Exists.intro _ (A post hp), fun post hp => Exists.intro _ (S post 0 ?_), fun post hp => Exists.intro _ (W post 0 ?_)⟩
  · intro z
    rw [z, e] at hw
    omega
  · rw [Int32.le_iff_toInt_le, e]
    omega
  · rw [Int32.zero_add]; exact hp
  · rw [Int32.zero_add]; exact hp
end
