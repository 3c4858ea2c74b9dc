section
theorem pk_us {f : Nat → Int32} {k : Nat} {x : Int32} : upd f k x k = x := if_pos rfl
theorem pk_un {f : Nat → Int32} {k j : Nat} {x : Int32} (h : j ≠ k) : upd f k x j = f j := if_neg h
theorem pk_sub {a b : Nat} (h : b ≤ a) : nI a - nI b = nI (a - b) := by
  obtain ⟨c, rfl⟩ : ∃ c, a = c + b := ⟨a - b, by omega⟩
  rw [← nI_add, Int32.add_sub_cancel, Nat.add_sub_cancel]
theorem pk_m1 (n : Nat) : nI (n + 1) + (-1) = nI n := by
  rw [← nI_1, Int32.add_assoc, show (1 : Int32) + (-1) = 0 from rfl, Int32.add_zero]
theorem pk_mul (a b : Nat) : nI a * nI b = nI (a * b) := (Int32.ofNat_mul a b).symm
theorem pk_div {a d : Nat} (ha : a < 2 ^ 31) (h0 : 0 < d) (hd : d < 2 ^ 31) : nI a / nI d = nI (a / d) := by
  apply Int32.toInt_inj.mp
  rw [lg_idiv_nonneg (by rw [nI_toInt ha]; omega) (by rw [nI_toInt hd]; omega), nI_toInt ha, nI_toInt hd, nI_toInt (Nat.lt_of_le_of_lt (Nat.div_le_self a d) ha)]
  first | rfl | exact (Int.natCast_ediv _ _).symm
theorem pk_rem {a d : Nat} (ha : a < 2 ^ 31) (h0 : 0 < d) (hd : d < 2 ^ 31) : nI a - nI a / nI d * nI d = nI (a % d) := by
  rw [pk_div ha h0 hd, pk_mul, pk_sub (Nat.div_mul_le_self a d)]
  exact congrArg nI (by have := Nat.div_add_mod' a d; omega)
theorem pk_le {x y : Int32} {A B : Prop} (a b : Nat) (f : a ≤ b → A) (g : b < a → B) (hx : x = nI a := by rfl) (hy : y = nI b := by rfl) (ha : a < 2 ^ 31 := by omega) (hb : b < 2 ^ 31 := by omega) : (x ≤ y → A) ∧ (¬ x ≤ y → B) := by
  subst hx hy
  rw [nI_leI ha hb]
  exact ⟨f, fun z => g (by omega)⟩
theorem pk_lt {x y : Int32} {A B : Prop} (a b : Nat) (f : a < b → A) (g : b ≤ a → B) (hx : x = nI a := by rfl) (hy : y = nI b := by rfl) (ha : a < 2 ^ 31 := by omega) (hb : b < 2 ^ 31 := by omega) : (x < y → A) ∧ (¬ x < y → B) := by
  subst hx hy
  rw [nI_ltI ha hb]
  exact ⟨f, fun z => g (by omega)⟩
theorem pk_eq {x y : Int32} {A B : Prop} (a b : Nat) (f : a = b → A) (g : a ≠ b → B) (hx : x = nI a := by rfl) (hy : y = nI b := by rfl) (ha : a < 2 ^ 31 := by omega) (hb : b < 2 ^ 31 := by omega) : (x = y → A) ∧ (¬ x = y → B) := by
  subst hx hy
  rw [nI_eq ha hb]
  exact ⟨f, g⟩
theorem pk_in {x : Int32} (n N : Nat) (h : n < N) (hx : x = nI n := by rfl) (hN : N < 2 ^ 31 := by omega) : vp_in x N := by
  subst hx
  exact vp_in_nI h hN
theorem pk_cl {x : Int32} (n : Nat) (hx : x = nI n := by rfl) (h : n < 2 ^ 31 := by omega) : x.toNatClampNeg = n := by
  subst hx
  exact nI_clamp h
theorem pk_vb (z : Int32) : vp_nar .byte z.toInt8.toInt32 = z.toInt8.toInt32 := by rw [vp_nar_byte]; simp
/-- the head of word j in trial t: digits in base n + 1, word 1 the highest -/
def sd_h (n t : Nat) : Nat → Nat
  | 0 => 0
  | j + 1 => t / (n + 1) ^ (n - (j + 1)) % (n + 1)
/-- going up from a comes to g in at most k steps -/
def sd_c (h : Nat → Nat) (g : Nat) : Nat → Nat → Bool
  | 0, a => Nat.beq a g
  | k + 1, a => match Nat.beq a g with
    | true => true
    | false => sd_c h g k (h a)
/-- the m words from k on come to g -/
def sd_in (h : Nat → Nat) (g n : Nat) : Nat → Nat → Bool
  | 0, _ => true
  | m + 1, k => match sd_c h g n k with
    | false => false
    | true => sd_in h g n m (k + 1)
/-- the m words from d on have no arc that covers a word that does not come to its head -/
def sd_fl (h : Nat → Nat) (n : Nat) : Nat → Nat → Bool
  | 0, _ => true
  | m + 1, d => match Nat.ble d (h d) with
    | true => match sd_in h (h d) n (h d - (d + 1)) (d + 1) with
      | false => false
      | true => sd_fl h n m (d + 1)
    | false => match sd_in h (h d) n (d - (h d + 1)) (h d + 1) with
      | false => false
      | true => sd_fl h n m (d + 1)
/-- the words with head 0 among the m from d on -/
def sd_rt (h : Nat → Nat) : Nat → Nat → Nat → Nat
  | 0, _, c => c
  | m + 1, d, c => match Nat.beq (h d) 0 with
    | true => sd_rt h m (d + 1) (c + 1)
    | false => sd_rt h m (d + 1) c
/-- what the class accepts -/
def sd_pX (n : Nat) (s : Bool) (t : Nat) : Bool :=
  match sd_in (sd_h n t) 0 n n 1 with
  | false => false
  | true => match sd_fl (sd_h n t) n n 1 with
    | false => false
    | true => match s with
      | false => true
      | true => Nat.beq (sd_rt (sd_h n t) n 1 0) 1
/-- the reference's first loop: none if it refuses, else the words with head 0 -/
def sd_yr (h : Nat → Nat) (n : Nat) : Nat → Nat → Nat → Option Nat
  | 0, _, c => some c
  | m + 1, d, c => match (match Nat.ble d n with | true => true | false => Nat.beq (h d) 0) with
    | false => none
    | true => match Nat.ble (h d) n with
      | false => none
      | true => match Nat.beq (h d) d with
        | true => none
        | false => match Nat.ble d n with
          | false => sd_yr h n m (d + 1) c
          | true => match Nat.beq (h d) 0 with
            | true => sd_yr h n m (d + 1) (c + 1)
            | false => sd_yr h n m (d + 1) c
def sd_cv (hd d k : Nat) : Bool :=
  match Nat.ble k hd with
  | true => match Nat.ble k d with | true => false | false => match Nat.ble hd k with | true => false | false => true
  | false => match Nat.ble d k with
    | false => true
    | true => match Nat.ble k d with | true => false | false => match Nat.ble hd k with | true => false | false => true
def sd_yk (h : Nat → Nat) (d : Nat) : Nat → Nat → Bool
  | 0, _ => true
  | m + 1, k => match sd_cv (h d) d k with
    | false => sd_yk h d m (k + 1)
    | true => match sd_c h (h d) 5 k with
      | false => false
      | true => sd_yk h d m (k + 1)
def sd_yd (h : Nat → Nat) (n : Nat) : Nat → Nat → Bool
  | 0, _ => true
  | m + 1, d => match sd_c h 0 5 d with
    | false => false
    | true => match sd_yk h d n 1 with
      | false => false
      | true => sd_yd h n m (d + 1)
/-- what the reference accepts -/
def sd_fY (h : Nat → Nat) (n : Nat) (s : Bool) : Bool :=
  match sd_yr h n 5 1 0 with
  | none => false
  | some r => match s with
    | false => sd_yd h n n 1
    | true => match Nat.beq r 1 with
      | false => false
      | true => sd_yd h n n 1
def sd_pY (n : Nat) (s : Bool) (t : Nat) : Bool := sd_fY (sd_h 5 t) n s
/-- the accepted ones of the m numbers from b on -/
def sd_sel (p : Nat → Bool) (b : Nat) : Nat → List Nat
  | 0 => []
  | m + 1 => sd_sel p b m ++ (match p (b + m) with | true => [b + m] | false => [])
def sd_dn (p : Nat → Bool) (b : Nat) : Nat → List Nat → List Nat
  | 0, acc => acc
  | m + 1, acc => match p (b + m) with
    | true => sd_dn p b m ((b + m) :: acc)
    | false => sd_dn p b m acc
def sd_ch (p : Nat → Bool) (L : Nat) : Nat → List Nat → List Nat
  | 0, acc => acc
  | k + 1, acc => sd_ch p L k (sd_dn p (k * L) L acc)
theorem sd_dn_sel (p : Nat → Bool) (b : Nat) : ∀ (m : Nat) (acc : List Nat), sd_dn p b m acc = sd_sel p b m ++ acc := by
  intro m
  induction m with
  | zero => intro acc; rfl
  | succ m ih =>
    intro acc
    simp only [sd_dn, sd_sel]
    cases p (b + m)
    · simp only [ih, List.append_nil]
    · simp only [ih, List.append_assoc, List.singleton_append]
theorem sd_sel_add (p : Nat → Bool) (b a : Nat) : ∀ m : Nat, sd_sel p b (a + m) = sd_sel p b a ++ sd_sel p (b + a) m := by
  intro m
  induction m with
  | zero => simp only [Nat.add_zero, sd_sel, List.append_nil]
  | succ m ih =>
    rw [← Nat.add_assoc]
    simp only [sd_sel, ih, List.append_assoc, Nat.add_assoc]
theorem sd_ch_sel (p : Nat → Bool) (L : Nat) : ∀ (k : Nat) (acc : List Nat), sd_ch p L k acc = sd_sel p 0 (k * L) ++ acc := by
  intro k
  induction k with
  | zero => intro acc; simp only [sd_ch, Nat.zero_mul, sd_sel, List.nil_append]
  | succ k ih =>
    intro acc
    rw [Nat.succ_mul, sd_sel_add, Nat.zero_add]
    simp only [sd_ch, ih, sd_dn_sel, List.append_assoc]
/-- the words d, d + 1 .. (m of them) have the same heads in the class's trial i and the reference's number j -/
def sd_dg (n i j : Nat) : Nat → Nat → Bool
  | 0, _ => true
  | m + 1, d => match Nat.beq (sd_h n i d) (sd_h 5 j d) with
    | false => false
    | true => sd_dg n i j m (d + 1)
def sd_cmp (n : Nat) : List Nat → List Nat → Nat → Bool
  | [], [], _ => true
  | i :: l, j :: l', m + 1 => match sd_dg n i j n 1 with
    | false => false
    | true => sd_cmp n l l' m
  | _, _, _ => false
end
section
theorem sd_t1f : sd_cmp 1 (sd_ch (sd_pX 1 false) 2 1 []) (sd_ch (sd_pY 1 false) 36 216 []) 273 = true := by decide +kernel
theorem sd_t1t : sd_cmp 1 (sd_ch (sd_pX 1 true) 2 1 []) (sd_ch (sd_pY 1 true) 36 216 []) 273 = true := by decide +kernel
theorem sd_t2f : sd_cmp 2 (sd_ch (sd_pX 2 false) 3 3 []) (sd_ch (sd_pY 2 false) 36 216 []) 273 = true := by decide +kernel
theorem sd_t2t : sd_cmp 2 (sd_ch (sd_pX 2 true) 3 3 []) (sd_ch (sd_pY 2 true) 36 216 []) 273 = true := by decide +kernel
theorem sd_t3f : sd_cmp 3 (sd_ch (sd_pX 3 false) 8 8 []) (sd_ch (sd_pY 3 false) 36 216 []) 273 = true := by decide +kernel
theorem sd_t3t : sd_cmp 3 (sd_ch (sd_pX 3 true) 8 8 []) (sd_ch (sd_pY 3 true) 36 216 []) 273 = true := by decide +kernel
theorem sd_t4f : sd_cmp 4 (sd_ch (sd_pX 4 false) 25 25 []) (sd_ch (sd_pY 4 false) 36 216 []) 273 = true := by decide +kernel
theorem sd_t4t : sd_cmp 4 (sd_ch (sd_pX 4 true) 25 25 []) (sd_ch (sd_pY 4 true) 36 216 []) 273 = true := by decide +kernel
theorem sd_t5f : sd_cmp 5 (sd_ch (sd_pX 5 false) 36 216 []) (sd_ch (sd_pY 5 false) 36 216 []) 273 = true := by decide +kernel
theorem sd_t5t : sd_cmp 5 (sd_ch (sd_pX 5 true) 36 216 []) (sd_ch (sd_pY 5 true) 36 216 []) 273 = true := by decide +kernel
end
section
def sd_rg (sc : Nat → Int32) : Prop := ∀ j : Nat, -1000 ≤ (sc j).toInt ∧ (sc j).toInt ≤ 1000
def sd_hd (n c : Nat) (lh yh : Nat → Int32) : Prop := ∀ t d : Nat, t < c → 1 ≤ d → d ≤ n → ∃ g : Nat, g ≤ n ∧ lh (6 * t + d) = nI g ∧ yh (6 * t + d) = nI g
def sd_R (n c : Nat) (sc lh yh : Nat → Int32) : Prop := 1 ≤ n ∧ n ≤ 5 ∧ c ≤ 273 ∧ sd_hd n c lh yh ∧ sd_rg sc
def i_Rel (k : Nat) (u : SX) (v : SY) : Prop := ∃ (n c : Nat) (o : Int32) (sc bn hs lh yh nw : Nat → Int32), u = (nI n, o, nI c, sc, bn, hs, lh) ∧ v = (nI n, nI c, sc, bn, yh, nw) ∧ sd_R n c sc lh yh
theorem i_up {k : Nat} {u : SX} {v : SY} (h : i_Rel k u v) : i_Rel (k + 4) u v := h
def sd_b : Bool → Int32
  | true => 1
  | false => 0
def sd_w (w : Int32) : Bool → Int32
  | true => w
  | false => -1000000
theorem sd_b1 : ¬ sd_b true = 0 := by decide
theorem sd_b0 : sd_b false = 0 := rfl
theorem sd_ev {P : Int32 → Prop} {a b : Int32} (e : a = b) (h : P b) : P a := e ▸ h
theorem sd_e6 (t d : Nat) : nI t * 6 + nI d = nI (6 * t + d) := by
  rw [show (6 : Int32) = nI 6 from rfl, pk_mul, nI_add, Nat.mul_comm]
theorem sd_f6 (t d : Nat) : 6 * nI t + nI d = nI (6 * t + d) := by
  rw [show (6 : Int32) = nI 6 from rfl, pk_mul, nI_add]
theorem sd_xh {post : Int32 → Prop} {n o c : Int32} {sc bn hs lh : Nat → Int32} {t d g : Nat} (ht : 6 * t + d < 1638) (hg : lh (6 * t + d) = nI g) (hp : post (nI g)) : wpX_headIn post (n, o, c, sc, bn, hs, lh) (nI t) (nI d) := by
  unfold wpX_headIn
  dsimp only
  rw [sd_e6, nI_clamp (by omega), hg]
  exact ⟨vp_in_nI ht (by omega), hp⟩
theorem sd_ac {post : Int32 → Prop} {g d : Nat} (hp : post (nI (6 * g + d))) : wpX_arcCell post (nI g) (nI d) := by
  unfold wpX_arcCell
  rw [sd_e6]
  exact hp
theorem sd_addr {a b : Int32} {m : Nat} (hm : m ≤ 10) (h1 : -1000 ≤ a.toInt ∧ a.toInt ≤ 1000) (h2 : -1000 * (m : Int) ≤ b.toInt ∧ b.toInt ≤ 1000 * (m : Int)) : -1000 * ((m + 1 : Nat) : Int) ≤ (a + b).toInt ∧ (a + b).toInt ≤ 1000 * ((m + 1 : Nat) : Int) := by
  have e : (a + b).toInt = a.toInt + b.toInt := by
    rw [Int32.toInt_add]
    exact Int.bmod_eq_of_le (by omega) (by omega)
  rw [e]
  omega
section
variable {n c : Nat} {sc lh yh : Nat → Int32} (o : Int32) (bn hs nw : Nat → Int32)
theorem sd_trL (H : sd_R n c sc lh yh) {t : Nat} (ht : t < c) : ∀ m d : Nat, d + m = n + 1 → 1 ≤ d → ∃ (b : Bool) (w : Int32), (-1000 * (m : Int) ≤ w.toInt ∧ w.toInt ≤ 1000 * (m : Int)) ∧
    (∀ post : Int32 → Prop, post (sd_b b) → wX_isAllowed_2 post (nI t) (nI n) o (nI c) sc bn hs lh (m + 1) (nI d)) ∧
    (∀ (post : Int32 → Prop) (a : Int32), post (a + w) → wX_scoreOf_4 post (nI t) (nI n) o (nI c) sc bn hs lh (m + 1) a (nI d)) ∧
    (∀ (post : Int32 → Prop) (a : Int32), post (sd_w (a + w) b) → wY_worth_4 post (nI t) (nI n) (nI c) sc bn yh nw (m + 1) a (nI d)) := by
  obtain ⟨hn1, hn5, hc, hh, hr⟩ := H
  intro m
  induction m with
  | zero =>
    intro d hd _
    have h : nI n < nI d := nI_lt (by omega) (by omega)
    refine ⟨true, 0, ⟨by decide, by decide⟩, fun post hp => br_t h hp, fun post a hp => br_t h ?_, fun post a hp => br_t h ?_⟩
    · rw [Int32.add_zero] at hp; exact hp
    · rw [Int32.add_zero] at hp; exact hp
  | succ m ih =>
    intro d hd h1
    have h : ¬ nI n < nI d := nI_nlt (by omega) (by omega)
    obtain ⟨g, hg, hx, hy⟩ := hh t d ht h1 (by omega)
    have hi1 : 6 * t + d < 1638 := by omega
    have hi2 : vp_in (6 * nI t + nI d) 1800 := by rw [sd_f6]; exact vp_in_nI (by omega) (by omega)
    have hi3 : vp_in (nI (6 * g + d)) 36 := vp_in_nI (by omega) (by omega)
    have he : 6 * (yh (6 * nI t + nI d).toNatClampNeg) + nI d = nI (6 * g + d) := by
      rw [sd_f6 t, nI_clamp (by omega), hy, sd_f6]
    obtain ⟨b, w, hw, A, S, W⟩ := ih (d + 1) (by omega) (by omega)
    have hw' := sd_addr (a := sc (nI (6 * g + d)).toNatClampNeg) (by omega) (hr _) hw
    have S' : ∀ (post : Int32 → Prop) (a : Int32), post (a + (sc (nI (6 * g + d)).toNatClampNeg + w)) → wX_scoreOf_4 post (nI t) (nI n) o (nI c) sc bn hs lh (m + 1 + 1) a (nI d) :=
      fun post a hp => br_f h (sd_xh hi1 hx (sd_ac ⟨hi3, nm_e (nm_r (nI_1 d) (S post _ (by rw [Int32.add_assoc]; exact hp)))⟩))
    by_cases z : bn (nI (6 * g + d)).toNatClampNeg = 0
    · refine ⟨b, _, hw', fun post hp => br_f h (sd_xh hi1 hx (sd_ac ⟨hi3, br_t z (nm_r (nI_1 d) (A post hp))⟩)), S', fun post a hp => br_f h ⟨hi2, nm_r he ⟨hi3, br_t z ⟨hi3, nm_e (nm_r (nI_1 d) (W post _ ?_))⟩⟩⟩⟩
      rw [Int32.add_assoc]; exact hp
    · exact ⟨false, _, hw', fun post hp => br_f h (sd_xh hi1 hx (sd_ac ⟨hi3, br_f z hp⟩)), S', fun post a hp => br_f h ⟨hi2, nm_r he ⟨hi3, br_f z hp⟩⟩⟩
theorem sd_tr (H : sd_R n c sc lh yh) {t : Nat} (ht : t < c) : ∃ (b : Bool) (w : Int32), (¬ w = -1000000) ∧ (-1000000 : Int32) ≤ w ∧
    (∀ post : Int32 → Prop, post (sd_b b) → wpX_isAllowed post (nI n, o, nI c, sc, bn, hs, lh) (nI t)) ∧
    (∀ post : Int32 → Prop, post w → wpX_scoreOf post (nI n, o, nI c, sc, bn, hs, lh) (nI t)) ∧
    (∀ post : Int32 → Prop, post (sd_w w b) → wpY_worth post (nI n, nI c, sc, bn, yh, nw) (nI t)) := by
  have hn5 : n ≤ 5 := H.2.1
  obtain ⟨b, w, hw, A, S, W⟩ := sd_trL o bn hs nw H ht n 1 (by omega) (by omega)
  have e : (-1000000 : Int32).toInt = -1000000 := by decide
  refine ⟨b, w, ?_, ?_, fun post hp => Exists.intro _ (A post hp), fun post hp => Exists.intro _ (S post 0 ?_), fun post hp => Exists.intro _ (W post 0 ?_)⟩
  · intro z
    rw [z, e] at hw
    omega
  · rw [Int32.le_iff_toInt_le, e]
    omega
  · rw [Int32.zero_add]; exact hp
  · rw [Int32.zero_add]; exact hp
end
end
section
section
variable {n c : Nat} {sc lh yh : Nat → Int32} (o : Int32) (bn hs nw : Nat → Int32)
theorem sd_best (H : sd_R n c sc lh yh) : ∀ m j : Nat, j + m = c → ∀ a : Int32, (-1000000 : Int32) ≤ a → ∃ r : Int32,
    (∀ post : Int32 → Prop, post r → wX_best_5 post (nI n) o (nI c) sc bn hs lh (m + 1) a (nI j)) ∧
    (∀ post : Int32 → Prop, post r → wY_greatest_7 post 0 0 1 (nI n) (nI c) sc bn yh nw (m + 1) a (nI j)) := by
  have hc : c ≤ 273 := H.2.2.1
  intro m
  induction m with
  | zero =>
    intro j hj a ha
    have h : nI c ≤ nI j := nI_le (by omega) (by omega)
    exact ⟨a, fun _ hp => br_t h hp, fun _ hp => br_t h hp⟩
  | succ m ih =>
    intro j hj a ha
    have h : ¬ nI c ≤ nI j := nI_ge (by omega) (by omega)
    obtain ⟨b, w, hw, hw2, A, S, W⟩ := sd_tr o bn hs nw H (t := j) (by omega)
    cases b with
    | false =>
      obtain ⟨r, hX, hY⟩ := ih (j + 1) (by omega) a ha
      exact ⟨r, fun post hp => br_f h (A _ (br_t sd_b0 (nm_r (nI_1 j) (hX post hp)))), fun post hp => br_f h (W _ (br_t rfl (br_t ha (nm_r (nI_1 j) (hY post hp)))))⟩
    | true =>
      by_cases z : w ≤ a
      · obtain ⟨r, hX, hY⟩ := ih (j + 1) (by omega) a ha
        exact ⟨r, fun post hp => br_f h (A _ (br_f sd_b1 (S _ (br_t z (nm_r (nI_1 j) (hX post hp)))))), fun post hp => br_f h (W _ (br_t rfl (br_t z (nm_r (nI_1 j) (hY post hp)))))⟩
      · obtain ⟨r, hX, hY⟩ := ih (j + 1) (by omega) w hw2
        exact ⟨r, fun post hp => br_f h (A _ (br_f sd_b1 (S _ (br_f z (nm_r (nI_1 j) (hX post hp)))))), fun post hp => br_f h (W _ (br_t rfl (br_f z (nm_r (nI_1 j) (hY post hp)))))⟩
theorem sd_bst (H : sd_R n c sc lh yh) : ∃ r : Int32, (∀ post : Int32 → Prop, post r → wpX_best post (nI n, o, nI c, sc, bn, hs, lh)) ∧ (∀ post : Int32 → Prop, post r → wpY_best post (nI n, nI c, sc, bn, yh, nw)) := by
  obtain ⟨r, hX, hY⟩ := sd_best o bn hs nw H c 0 (by omega) (-1000000) (Int32.le_refl _)
  refine ⟨r, fun post hp => Exists.intro _ (hX post hp), fun post hp => ?_⟩
  unfold wpY_best wpY_greatest
  exact Exists.intro _ (hY _ hp)
theorem sd_where (H : sd_R n c sc lh yh) (x1 x3 : Int32) {d : Nat} (hd1 : 1 ≤ d) (hdn : d ≤ n) : ∀ m j : Nat, j + m = c → ∀ a : Int32, (-1000000 : Int32) ≤ a → ∃ r : Int32,
    (∀ post : Int32 → Prop, post r → wX_bestWhere_7 post x1 (nI d) x3 (nI n) o (nI c) sc bn hs lh (m + 1) a (nI j)) ∧
    (∀ post : Int32 → Prop, post r → wY_greatest_7 post x1 (nI d) x3 (nI n) (nI c) sc bn yh nw (m + 1) a (nI j)) := by
  have hc : c ≤ 273 := H.2.2.1
  have hn5 : n ≤ 5 := H.2.1
  have hd0 : ¬ nI d = 0 := nI_ne0 (by omega) (by omega)
  intro m
  induction m with
  | zero =>
    intro j hj a ha
    have h : nI c ≤ nI j := nI_le (by omega) (by omega)
    exact ⟨a, fun _ hp => br_t h hp, fun _ hp => br_t h hp⟩
  | succ m ih =>
    intro j hj a ha
    have h : ¬ nI c ≤ nI j := nI_ge (by omega) (by omega)
    obtain ⟨b, w, hw, hw2, A, S, W⟩ := sd_tr o bn hs nw H (t := j) (by omega)
    obtain ⟨g, hg, hx, hy⟩ := H.2.2.2.1 j d (by omega) hd1 hdn
    have hi1 : 6 * j + d < 1638 := by omega
    have hi2 : vp_in (6 * nI j + nI d) 1800 := by rw [sd_f6]; exact vp_in_nI (by omega) (by omega)
    have he : yh (6 * nI j + nI d).toNatClampNeg = nI g := by rw [sd_f6, nI_clamp (by omega), hy]
    have key : ∃ z0 : Int32, (∀ P : Int32 → Prop, P z0 → ((nI g = x1 → P 1) ∧ (¬ nI g = x1 → P 0))) := by
      by_cases q : nI g = x1
      · exact ⟨1, fun P hp => br_t q hp⟩
      · exact ⟨0, fun P hp => br_f q hp⟩
    obtain ⟨z0, hz⟩ := key
    have hzX := fun (post : Int32 → Prop) => hz (fun z => wX_bestWhere_41 post (wX_bestWhere_7 post x1 (nI d) x3 (nI n) o (nI c) sc bn hs lh (m + 1)) x1 (nI d) x3 a (nI j) z (nI n) o (nI c) sc bn hs lh)
    have hzY := fun (post : Int32 → Prop) (v : Int32) => hz (fun z => wY_greatest_49 post (wY_greatest_7 post x1 (nI d) x3 (nI n) (nI c) sc bn yh nw (m + 1)) x1 (nI d) x3 a (nI j) v z (nI n) (nI c) sc bn yh nw)
    rw [← he] at hzY
    cases b with
    | false =>
      obtain ⟨r, hX, hY⟩ := ih (j + 1) (by omega) a ha
      refine ⟨r, fun post hp => br_f h (A _ (br_t sd_b0 (nm_r (nI_1 j) (hX post hp)))), fun post hp => br_f h (W _ (br_f hd0 ⟨hi2, hzY post _ ?_⟩))⟩
      exact br_c (fun _ => br_t ha (nm_r (nI_1 j) (hY post hp))) (fun _ => nm_r (nI_1 j) (hY post hp))
    | true =>
      by_cases q : z0 = x3
      · by_cases z : w ≤ a
        · obtain ⟨r, hX, hY⟩ := ih (j + 1) (by omega) a ha
          exact ⟨r, fun post hp => br_f h (A _ (br_f sd_b1 (sd_xh hi1 hx (hzX post (br_t q (S _ (br_t z (nm_r (nI_1 j) (hX post hp))))))))), fun post hp => br_f h (W _ (br_f hd0 ⟨hi2, hzY post _ (br_t q (br_t z (nm_r (nI_1 j) (hY post hp))))⟩))⟩
        · obtain ⟨r, hX, hY⟩ := ih (j + 1) (by omega) w hw2
          exact ⟨r, fun post hp => br_f h (A _ (br_f sd_b1 (sd_xh hi1 hx (hzX post (br_t q (S _ (br_f z (nm_r (nI_1 j) (hX post hp))))))))), fun post hp => br_f h (W _ (br_f hd0 ⟨hi2, hzY post _ (br_t q (br_f z (nm_r (nI_1 j) (hY post hp))))⟩))⟩
      · obtain ⟨r, hX, hY⟩ := ih (j + 1) (by omega) a ha
        exact ⟨r, fun post hp => br_f h (A _ (br_f sd_b1 (sd_xh hi1 hx (hzX post (br_f q (nm_r (nI_1 j) (hX post hp))))))), fun post hp => br_f h (W _ (br_f hd0 ⟨hi2, hzY post _ (br_f q (nm_r (nI_1 j) (hY post hp)))⟩))⟩
theorem sd_head (H : sd_R n c sc lh yh) (x2 : Int32) {d : Nat} (hd1 : 1 ≤ d) (hdn : d ≤ n) : ∀ m j : Nat, j + m = c → ∃ r : Int32,
    (∀ post : Int32 → Prop, post r → wX_head_18 post (nI d) x2 (nI n) o (nI c) sc bn hs lh (m + 1) (nI j)) ∧
    (∀ post : Int32 → Prop, post r → wY_head_23 post (nI d) x2 (nI n) (nI c) sc bn yh nw (m + 1) (nI j)) := by
  have hc : c ≤ 273 := H.2.2.1
  have hn5 : n ≤ 5 := H.2.1
  intro m
  induction m with
  | zero =>
    intro j hj
    have h : nI c ≤ nI j := nI_le (by omega) (by omega)
    exact ⟨_, fun _ hp => br_t h hp, fun _ hp => br_t h hp⟩
  | succ m ih =>
    intro j hj
    have h : ¬ nI c ≤ nI j := nI_ge (by omega) (by omega)
    obtain ⟨b, w, hw, hw2, A, S, W⟩ := sd_tr o bn hs nw H (t := j) (by omega)
    obtain ⟨g, hg, hx, hy⟩ := H.2.2.2.1 j d (by omega) hd1 hdn
    have hi1 : 6 * j + d < 1638 := by omega
    have hi2 : vp_in (6 * nI j + nI d) 1800 := by rw [sd_f6]; exact vp_in_nI (by omega) (by omega)
    have he : yh (6 * nI j + nI d).toNatClampNeg = nI g := by rw [sd_f6, nI_clamp (by omega), hy]
    obtain ⟨r, hX, hY⟩ := ih (j + 1) (by omega)
    cases b with
    | false =>
      exact ⟨r, fun post hp => br_f h (A _ (br_t sd_b0 (nm_r (nI_1 j) (hX post hp)))), fun post hp => br_f h (W _ (br_t rfl (nm_r (nI_1 j) (hY post hp))))⟩
    | true =>
      by_cases z : w = x2
      · exact ⟨nI g, fun post hp => br_f h (A _ (br_f sd_b1 (S _ (br_t z (sd_xh hi1 hx hp))))), fun post hp => br_f h (W _ (br_f hw (br_t z ⟨hi2, sd_ev he hp⟩)))⟩
      · exact ⟨r, fun post hp => br_f h (A _ (br_f sd_b1 (S _ (br_f z (nm_r (nI_1 j) (hX post hp)))))), fun post hp => br_f h (W _ (br_f hw (br_f z (nm_r (nI_1 j) (hY post hp)))))⟩
theorem sd_bestTrees (H : sd_R n c sc lh yh) (x1 : Int32) : ∀ m j : Nat, j + m = c → ∀ a : Int32, ∃ r : Int32,
    (∀ post : Int32 → Prop, post r → wX_bestTrees_9 post x1 (nI n) o (nI c) sc bn hs lh (m + 1) a (nI j)) ∧
    (∀ post : Int32 → Prop, post r → wY_bestTrees_9 post x1 (nI n) (nI c) sc bn yh nw (m + 1) a (nI j)) := by
  have hc : c ≤ 273 := H.2.2.1
  intro m
  induction m with
  | zero =>
    intro j hj a
    have h : nI c ≤ nI j := nI_le (by omega) (by omega)
    exact ⟨a, fun _ hp => br_t h hp, fun _ hp => br_t h hp⟩
  | succ m ih =>
    intro j hj a
    have h : ¬ nI c ≤ nI j := nI_ge (by omega) (by omega)
    obtain ⟨b, w, hw, hw2, A, S, W⟩ := sd_tr o bn hs nw H (t := j) (by omega)
    cases b with
    | false =>
      obtain ⟨r, hX, hY⟩ := ih (j + 1) (by omega) a
      exact ⟨r, fun post hp => br_f h (A _ (br_t sd_b0 (nm_r (nI_1 j) (hX post hp)))), fun post hp => br_f h (W _ (br_t rfl (nm_r (nI_1 j) (hY post hp))))⟩
    | true =>
      by_cases z : w = x1
      · obtain ⟨r, hX, hY⟩ := ih (j + 1) (by omega) (a + 1)
        exact ⟨r, fun post hp => br_f h (A _ (br_f sd_b1 (S _ (br_t z (nm_e (nm_r (nI_1 j) (hX post hp))))))), fun post hp => br_f h (W _ (br_f hw (br_t z (nm_e (nm_r (nI_1 j) (hY post hp))))))⟩
      · obtain ⟨r, hX, hY⟩ := ih (j + 1) (by omega) a
        exact ⟨r, fun post hp => br_f h (A _ (br_f sd_b1 (S _ (br_f z (nm_r (nI_1 j) (hX post hp)))))), fun post hp => br_f h (W _ (br_f hw (br_f z (nm_r (nI_1 j) (hY post hp)))))⟩
theorem sd_trees (H : sd_R n c sc lh yh) : ∀ m j : Nat, j + m = c → ∀ a : Int32, ∃ r : Int32,
    (∀ post : Int32 → Prop, post r → wX_trees_4 post (nI n) o (nI c) sc bn hs lh (m + 1) a (nI j)) ∧
    (∀ post : Int32 → Prop, post r → wY_trees_4 post (nI n) (nI c) sc bn yh nw (m + 1) a (nI j)) := by
  have hc : c ≤ 273 := H.2.2.1
  intro m
  induction m with
  | zero =>
    intro j hj a
    have h : nI c ≤ nI j := nI_le (by omega) (by omega)
    exact ⟨a, fun _ hp => br_t h hp, fun _ hp => br_t h hp⟩
  | succ m ih =>
    intro j hj a
    have h : ¬ nI c ≤ nI j := nI_ge (by omega) (by omega)
    obtain ⟨b, w, hw, hw2, A, S, W⟩ := sd_tr o bn hs nw H (t := j) (by omega)
    cases b with
    | false =>
      obtain ⟨r, hX, hY⟩ := ih (j + 1) (by omega) a
      exact ⟨r, fun post hp => br_f h (A _ (br_t sd_b0 (nm_r (nI_1 j) (hX post hp)))), fun post hp => br_f h (W _ (br_t rfl (nm_r (nI_1 j) (hY post hp))))⟩
    | true =>
      obtain ⟨r, hX, hY⟩ := ih (j + 1) (by omega) (a + 1)
      exact ⟨r, fun post hp => br_f h (A _ (br_f sd_b1 (nm_e (nm_r (nI_1 j) (hX post hp))))), fun post hp => br_f h (W _ (br_f hw (nm_e (nm_r (nI_1 j) (hY post hp)))))⟩
theorem sd_treesWith (H : sd_R n c sc lh yh) (x1 : Int32) {d : Nat} (hd1 : 1 ≤ d) (hdn : d ≤ n) : ∀ m j : Nat, j + m = c → ∀ a : Int32, ∃ r : Int32,
    (∀ post : Int32 → Prop, post r → wX_treesWith_17 post x1 (nI d) (nI n) o (nI c) sc bn hs lh (m + 1) a (nI j)) ∧
    (∀ post : Int32 → Prop, post r → wY_treesWith_17 post x1 (nI d) (nI n) (nI c) sc bn yh nw (m + 1) a (nI j)) := by
  have hc : c ≤ 273 := H.2.2.1
  have hn5 : n ≤ 5 := H.2.1
  intro m
  induction m with
  | zero =>
    intro j hj a
    have h : nI c ≤ nI j := nI_le (by omega) (by omega)
    exact ⟨a, fun _ hp => br_t h hp, fun _ hp => br_t h hp⟩
  | succ m ih =>
    intro j hj a
    have h : ¬ nI c ≤ nI j := nI_ge (by omega) (by omega)
    obtain ⟨b, w, hw, hw2, A, S, W⟩ := sd_tr o bn hs nw H (t := j) (by omega)
    obtain ⟨g, hg, hx, hy⟩ := H.2.2.2.1 j d (by omega) hd1 hdn
    have hi1 : 6 * j + d < 1638 := by omega
    have hi2 : vp_in (6 * nI j + nI d) 1800 := by rw [sd_f6]; exact vp_in_nI (by omega) (by omega)
    have he : yh (6 * nI j + nI d).toNatClampNeg = nI g := by rw [sd_f6, nI_clamp (by omega), hy]
    by_cases q : nI g = x1
    · have q' := he.trans q
      cases b with
      | false =>
        obtain ⟨r, hX, hY⟩ := ih (j + 1) (by omega) a
        exact ⟨r, fun post hp => br_f h (A _ (br_t sd_b0 (nm_r (nI_1 j) (hX post hp)))), fun post hp => br_f h ⟨hi2, br_t q' (W _ (br_t rfl (nm_r (nI_1 j) (hY post hp))))⟩⟩
      | true =>
        obtain ⟨r, hX, hY⟩ := ih (j + 1) (by omega) (a + 1)
        exact ⟨r, fun post hp => br_f h (A _ (br_f sd_b1 (sd_xh hi1 hx (br_t q (nm_e (nm_r (nI_1 j) (hX post hp))))))), fun post hp => br_f h ⟨hi2, br_t q' (W _ (br_f hw (nm_e (nm_r (nI_1 j) (hY post hp)))))⟩⟩
    · have q' : ¬ yh (6 * nI j + nI d).toNatClampNeg = x1 := fun e => q (he.symm.trans e)
      obtain ⟨r, hX, hY⟩ := ih (j + 1) (by omega) a
      refine ⟨r, fun post hp => br_f h (A _ ?_), fun post hp => br_f h ⟨hi2, br_f q' (nm_r (nI_1 j) (hY post hp))⟩⟩
      exact br_c (fun _ => nm_r (nI_1 j) (hX post hp)) (fun _ => sd_xh hi1 hx (br_f q (nm_r (nI_1 j) (hX post hp))))
end
end
section
section
variable {n c : Nat} (o : Int32) (sc bn hs lh yh nw : Nat → Int32)
theorem sd_word (hn : n ≤ 5) (d : Int32) : ∃ r : Int32, (∀ post : Int32 → Prop, post r → wpX_isWord post (nI n, o, nI c, sc, bn, hs, lh) d) ∧ (r = 0 ∧ (d < 1 ∨ ¬ d < 1 ∧ nI n < d) ∨ r = 1 ∧ ¬ d < 1 ∧ ¬ nI n < d ∧ ∃ j : Nat, 1 ≤ j ∧ j ≤ n ∧ d = nI j) := by
  by_cases h1 : d < 1
  · exact ⟨0, fun post hp => br_t h1 hp, Or.inl ⟨rfl, Or.inl h1⟩⟩
  · by_cases h2 : nI n < d
    · exact ⟨0, fun post hp => br_f h1 (br_t h2 hp), Or.inl ⟨rfl, Or.inr ⟨h1, h2⟩⟩⟩
    · refine ⟨1, fun post hp => br_f h1 (br_f h2 hp), Or.inr ⟨rfl, h1, h2, ?_⟩⟩
      have h0 : ¬ d < 0 := fun z => h1 (Int32.lt_trans z (by decide))
      obtain ⟨j, hj, rfl⟩ := nI_of h0
      rw [show (1 : Int32) = nI 1 from rfl, nI_ltI hj (by omega)] at h1
      rw [nI_ltI (by omega) hj] at h2
      exact ⟨j, by omega, by omega, rfl⟩
theorem sd_arc (hn : n ≤ 5) (h d : Int32) : ∃ r : Int32, (∀ post : Int32 → Prop, post r → wpX_isArc post (nI n, o, nI c, sc, bn, hs, lh) h d) ∧ (∀ post : Int32 → Prop, post r → wpY_isArc post (nI n, nI c, sc, bn, yh, nw) h d) ∧
    (r = 0 ∨ r = 1 ∧ ∃ i j : Nat, i ≤ n ∧ 1 ≤ j ∧ j ≤ n ∧ h = nI i ∧ d = nI j) := by
  by_cases h0 : h < 0
  · exact ⟨0, fun post hp => br_t h0 hp, fun post hp => br_t h0 hp, Or.inl rfl⟩
  · by_cases h1 : nI n < h
    · exact ⟨0, fun post hp => br_f h0 (br_t h1 hp), fun post hp => br_f h0 (br_t h1 hp), Or.inl rfl⟩
    · obtain ⟨r, hX, hr⟩ := sd_word (c := c) o sc bn hs lh hn d
      rcases hr with ⟨rfl, hd⟩ | ⟨rfl, hd1, hd2, j, hj1, hj2, rfl⟩
      · refine ⟨0, fun post hp => br_f h0 (br_f h1 (hX _ (br_t rfl hp))), fun post hp => br_f h0 (br_f h1 ?_), Or.inl rfl⟩
        rcases hd with hd | ⟨hd1, hd2⟩
        · exact br_t hd hp
        · exact br_f hd1 (br_t hd2 hp)
      · have h10 : ¬ (1 : Int32) = 0 := by decide
        by_cases he : h = nI j
        · exact ⟨0, fun post hp => br_f h0 (br_f h1 (hX _ (br_f h10 (br_t he hp)))), fun post hp => br_f h0 (br_f h1 (br_f hd1 (br_f hd2 (br_t he hp)))), Or.inl rfl⟩
        · refine ⟨1, fun post hp => br_f h0 (br_f h1 (hX _ (br_f h10 (br_f he hp)))), fun post hp => br_f h0 (br_f h1 (br_f hd1 (br_f hd2 (br_f he hp)))), Or.inr ⟨rfl, ?_⟩⟩
          obtain ⟨i, hi, rfl⟩ := nI_of h0
          rw [nI_ltI (by omega) hi] at h1
          exact ⟨i, j, by omega, hj1, hj2, rfl, rfl⟩
end
theorem sd_rgu {sc : Nat → Int32} {k : Nat} {x : Int32} (h : sd_rg sc) (hx : -1000 ≤ x.toInt ∧ x.toInt ≤ 1000) : sd_rg (upd sc k x) := by
  intro j
  by_cases z : j = k
  · subst z; rw [pk_us]; exact hx
  · rw [pk_un z]; exact h j
theorem i_vc_score {k : Nat} {u : SX} {v : SY} (I : i_Rel k u v) (hk : k + 4 ≤ 2050) (v1 : Int32) (v2 : Int32) (v3 : Int32) : wpX_score (fun r u' => wpY_score (fun r' v' => r' = r ∧ i_Rel (k + 4) u' v') v v1 v2 v3) u v1 v2 v3 := by
  have J := i_up I
  obtain ⟨n, c, o, sc, bn, hs, lh, yh, nw, rfl, rfl, H⟩ := I
  obtain ⟨r, hX, hY, hr⟩ := sd_arc (c := c) o sc bn hs lh yh nw H.2.1 v1 v2
  unfold wpX_score wpY_score
  dsimp only
  rcases hr with rfl | ⟨rfl, i, j, hi, hj1, hj2, rfl, rfl⟩
  · refine hX _ (br_t rfl ?_)
    refine hY _ (br_t rfl ?_)
    exact ⟨rfl, J⟩
  · have hn5 : n ≤ 5 := H.2.1
    have h10 : ¬ (1 : Int32) = 0 := by decide
    by_cases h1 : v3 < -1000
    · refine hX _ (br_f h10 (br_t h1 ?_))
      refine hY _ (br_f h10 (br_t h1 ?_))
      exact ⟨rfl, J⟩
    · by_cases h2 : v3 ≤ 1000
      · refine hX _ (br_f h10 (br_f h1 (br_t h2 (sd_ac ⟨vp_in_nI (by omega) (by omega), nm_e ?_⟩))))
        refine hY _ (br_f h10 (br_f h1 (br_t h2 ⟨by rw [sd_f6]; exact vp_in_nI (by omega) (by omega), nm_r (by rw [sd_f6]) ?_⟩)))
        refine ⟨rfl, n, c, o, _, bn, hs, lh, yh, nw, rfl, rfl, H.1, H.2.1, H.2.2.1, H.2.2.2.1, sd_rgu H.2.2.2.2 ?_⟩
        rw [Int32.lt_iff_toInt_lt, show (-1000 : Int32).toInt = -1000 from by decide] at h1
        rw [Int32.le_iff_toInt_le, show (1000 : Int32).toInt = 1000 from by decide] at h2
        omega
      · refine hX _ (br_f h10 (br_f h1 (br_f h2 ?_)))
        refine hY _ (br_f h10 (br_f h1 (br_f h2 ?_)))
        exact ⟨rfl, J⟩
theorem i_vc_ban {k : Nat} {u : SX} {v : SY} (I : i_Rel k u v) (hk : k + 4 ≤ 2050) (v1 : Int32) (v2 : Int32) (v3 : Int32) : wpX_ban (fun r u' => wpY_ban (fun r' v' => r' = r ∧ i_Rel (k + 4) u' v') v v1 v2 (lw_bz v3)) u v1 v2 (lw_bz v3) := by
  have J := i_up I
  obtain ⟨n, c, o, sc, bn, hs, lh, yh, nw, rfl, rfl, H⟩ := I
  obtain ⟨r, hX, hY, hr⟩ := sd_arc (c := c) o sc bn hs lh yh nw H.2.1 v1 v2
  unfold wpX_ban wpY_ban
  dsimp only
  rcases hr with rfl | ⟨rfl, i, j, hi, hj1, hj2, rfl, rfl⟩
  · refine hX _ (br_t rfl ?_)
    refine hY _ (br_t rfl ?_)
    exact ⟨rfl, J⟩
  · have hn5 : n ≤ 5 := H.2.1
    have h10 : ¬ (1 : Int32) = 0 := by decide
    refine hX _ (br_f h10 (sd_ac ⟨vp_in_nI (by omega) (by omega), nm_e ?_⟩))
    refine hY _ (br_f h10 ⟨by rw [sd_f6]; exact vp_in_nI (by omega) (by omega), nm_r (by rw [sd_f6]) ?_⟩)
    exact ⟨rfl, n, c, o, sc, _, hs, lh, yh, nw, rfl, rfl, H⟩
theorem i_vc_best {k : Nat} {u : SX} {v : SY} (I : i_Rel k u v) (hk : k + 4 ≤ 2050) : wpX_best (fun r => wpY_best (fun r' => r' = r ∧ i_Rel (k + 4) u v) v) u := by
  have J := i_up I
  obtain ⟨n, c, o, sc, bn, hs, lh, yh, nw, rfl, rfl, H⟩ := I
  obtain ⟨r, hX, hY⟩ := sd_bst o bn hs nw H
  exact hX _ (hY _ ⟨rfl, J⟩)
theorem i_vc_head {k : Nat} {u : SX} {v : SY} (I : i_Rel k u v) (hk : k + 4 ≤ 2050) (v1 : Int32) : wpX_head (fun r => wpY_head (fun r' => r' = r ∧ i_Rel (k + 4) u v) v v1) u v1 := by
  have J := i_up I
  obtain ⟨n, c, o, sc, bn, hs, lh, yh, nw, rfl, rfl, H⟩ := I
  obtain ⟨r, hX, hr⟩ := sd_word (c := c) o sc bn hs lh H.2.1 v1
  unfold wpX_head wpY_head
  dsimp only
  rcases hr with ⟨rfl, hd⟩ | ⟨rfl, hd1, hd2, j, hj1, hj2, rfl⟩
  · refine hX _ (br_t rfl ?_)
    rcases hd with hd | ⟨hd1, hd2⟩
    · exact br_t hd ⟨rfl, J⟩
    · exact br_f hd1 (br_f (Int32.not_le.mpr hd2) ⟨rfl, J⟩)
  · obtain ⟨r, hBX, hBY⟩ := sd_bst o bn hs nw H
    obtain ⟨r', hHX, hHY⟩ := sd_head o bn hs nw H r hj1 hj2 c 0 (by omega)
    refine hX _ (br_f (by decide) ?_)
    refine hBX _ ?_
    refine Exists.intro _ (hHX _ ?_)
    refine br_f hd1 (br_t (Int32.not_lt.mp hd2) ?_)
    refine hBY _ ?_
    exact Exists.intro _ (hHY _ ⟨rfl, J⟩)
theorem i_vc_bestTrees {k : Nat} {u : SX} {v : SY} (I : i_Rel k u v) (hk : k + 4 ≤ 2050) : wpX_bestTrees (fun r => wpY_bestTrees (fun r' => r' = r ∧ i_Rel (k + 4) u v) v) u := by
  have J := i_up I
  obtain ⟨n, c, o, sc, bn, hs, lh, yh, nw, rfl, rfl, H⟩ := I
  unfold wpX_bestTrees wpY_bestTrees
  dsimp only
  obtain ⟨r, hBX, hBY⟩ := sd_bst o bn hs nw H
  obtain ⟨r', hHX, hHY⟩ := sd_bestTrees o bn hs nw H r c 0 (by omega) 0
  refine hBX _ ?_
  refine Exists.intro _ (hHX _ ?_)
  refine hBY _ ?_
  exact Exists.intro _ (hHY _ ⟨rfl, J⟩)
theorem i_vc_trees {k : Nat} {u : SX} {v : SY} (I : i_Rel k u v) (hk : k + 4 ≤ 2050) : wpX_trees (fun r => wpY_trees (fun r' => r' = r ∧ i_Rel (k + 4) u v) v) u := by
  have J := i_up I
  obtain ⟨n, c, o, sc, bn, hs, lh, yh, nw, rfl, rfl, H⟩ := I
  unfold wpX_trees wpY_trees
  dsimp only
  obtain ⟨r', hHX, hHY⟩ := sd_trees o bn hs nw H c 0 (by omega) 0
  refine Exists.intro _ (hHX _ ?_)
  exact Exists.intro _ (hHY _ ⟨rfl, J⟩)
theorem i_vc_bestWith {k : Nat} {u : SX} {v : SY} (I : i_Rel k u v) (hk : k + 4 ≤ 2050) (v1 : Int32) (v2 : Int32) : wpX_bestWith (fun r => wpY_bestWith (fun r' => r' = r ∧ i_Rel (k + 4) u v) v v1 v2) u v1 v2 := by
  have J := i_up I
  obtain ⟨n, c, o, sc, bn, hs, lh, yh, nw, rfl, rfl, H⟩ := I
  obtain ⟨r, hX, hY, hr⟩ := sd_arc (c := c) o sc bn hs lh yh nw H.2.1 v1 v2
  unfold wpX_bestWith wpY_bestWith wpX_bestWhere wpY_greatest
  dsimp only
  rcases hr with rfl | ⟨rfl, i, j, hi, hj1, hj2, rfl, rfl⟩
  · refine hX _ (br_t rfl ?_)
    refine hY _ (br_t rfl ?_)
    exact ⟨rfl, J⟩
  · have h10 : ¬ (1 : Int32) = 0 := by decide
    obtain ⟨r', hHX, hHY⟩ := sd_where o bn hs nw H (nI i) 1 hj1 hj2 c 0 (by omega) (-1000000) (Int32.le_refl _)
    refine hX _ (br_f h10 ?_)
    refine Exists.intro _ (hHX _ ?_)
    refine hY _ (br_f h10 ?_)
    exact Exists.intro _ (hHY _ ⟨rfl, J⟩)
theorem i_vc_bestWithout {k : Nat} {u : SX} {v : SY} (I : i_Rel k u v) (hk : k + 4 ≤ 2050) (v1 : Int32) (v2 : Int32) : wpX_bestWithout (fun r => wpY_bestWithout (fun r' => r' = r ∧ i_Rel (k + 4) u v) v v1 v2) u v1 v2 := by
  have J := i_up I
  obtain ⟨n, c, o, sc, bn, hs, lh, yh, nw, rfl, rfl, H⟩ := I
  obtain ⟨r, hX, hY, hr⟩ := sd_arc (c := c) o sc bn hs lh yh nw H.2.1 v1 v2
  unfold wpX_bestWithout wpY_bestWithout wpX_bestWhere wpY_greatest
  dsimp only
  rcases hr with rfl | ⟨rfl, i, j, hi, hj1, hj2, rfl, rfl⟩
  · refine hX _ (br_t rfl ?_)
    refine hY _ (br_t rfl ?_)
    exact ⟨rfl, J⟩
  · have h10 : ¬ (1 : Int32) = 0 := by decide
    obtain ⟨r', hHX, hHY⟩ := sd_where o bn hs nw H (nI i) 0 hj1 hj2 c 0 (by omega) (-1000000) (Int32.le_refl _)
    refine hX _ (br_f h10 ?_)
    refine Exists.intro _ (hHX _ ?_)
    refine hY _ (br_f h10 ?_)
    exact Exists.intro _ (hHY _ ⟨rfl, J⟩)
theorem i_vc_treesWith {k : Nat} {u : SX} {v : SY} (I : i_Rel k u v) (hk : k + 4 ≤ 2050) (v1 : Int32) (v2 : Int32) : wpX_treesWith (fun r => wpY_treesWith (fun r' => r' = r ∧ i_Rel (k + 4) u v) v v1 v2) u v1 v2 := by
  have J := i_up I
  obtain ⟨n, c, o, sc, bn, hs, lh, yh, nw, rfl, rfl, H⟩ := I
  obtain ⟨r, hX, hY, hr⟩ := sd_arc (c := c) o sc bn hs lh yh nw H.2.1 v1 v2
  unfold wpX_treesWith wpY_treesWith
  dsimp only
  rcases hr with rfl | ⟨rfl, i, j, hi, hj1, hj2, rfl, rfl⟩
  · refine hX _ (br_t rfl ?_)
    refine hY _ (br_t rfl ?_)
    exact ⟨rfl, J⟩
  · have h10 : ¬ (1 : Int32) = 0 := by decide
    obtain ⟨r', hHX, hHY⟩ := sd_treesWith o bn hs nw H (nI i) hj1 hj2 c 0 (by omega) 0
    refine hX _ (br_f h10 ?_)
    refine Exists.intro _ (hHX _ ?_)
    refine hY _ (br_f h10 ?_)
    exact Exists.intro _ (hHY _ ⟨rfl, J⟩)
theorem sd_clr (n c o : Int32) (hs lh yh nw : Nat → Int32) : ∀ m j : Nat, j + m = 36 → ∀ (a : Int32) (sc bn : Nat → Int32), sd_rg sc → ∃ (r : Int32) (sc' bn' : Nat → Int32), sd_rg sc' ∧
    (∀ post : Int32 → SX → Prop, post r (n, o, c, sc', bn', hs, lh) → wX_clear_4 post n o c (m + 1) a (nI j) sc bn hs lh) ∧
    (∀ post : Int32 → SY → Prop, post r (n, c, sc', bn', yh, nw) → wY_clear_4 post n c (m + 1) a (nI j) sc bn yh nw) := by
  intro m
  induction m with
  | zero =>
    intro j hj a sc bn hr
    have h : (36 : Int32) ≤ nI j := nI_le (a := 36) (by omega) (by omega)
    exact ⟨a, sc, bn, hr, fun _ hp => br_t h hp, fun _ hp => br_t h hp⟩
  | succ m ih =>
    intro j hj a sc bn hr
    have h : ¬ (36 : Int32) ≤ nI j := nI_ge (b := 36) (by omega) (by omega)
    have hi : vp_in (nI j) 36 := vp_in_nI (by omega) (by omega)
    have hr' : sd_rg (upd sc (nI j).toNatClampNeg 0) := sd_rgu hr (by decide)
    by_cases z : bn (nI j).toNatClampNeg = 0
    · obtain ⟨r, sc', bn', hR, hX, hY⟩ := ih (j + 1) (by omega) a (upd sc (nI j).toNatClampNeg 0) (upd bn (nI j).toNatClampNeg (vp_nar .boolean 0)) hr'
      refine ⟨r, sc', bn', hR, fun post hp => br_f h ⟨hi, br_t z ?_⟩, fun post hp => br_f h ⟨hi, br_t z ?_⟩⟩
      · exact And.intro hi (nm_e ⟨hi, nm_e (nm_r (nI_1 j) (hX post hp))⟩)
      · exact And.intro hi (nm_e ⟨hi, nm_e (nm_r (nI_1 j) (hY post hp))⟩)
    · obtain ⟨r, sc', bn', hR, hX, hY⟩ := ih (j + 1) (by omega) (a + 1) (upd sc (nI j).toNatClampNeg 0) (upd bn (nI j).toNatClampNeg (vp_nar .boolean 0)) hr'
      refine ⟨r, sc', bn', hR, fun post hp => br_f h ⟨hi, br_f z (nm_e ?_)⟩, fun post hp => br_f h ⟨hi, br_f z (nm_e ?_)⟩⟩
      · exact And.intro hi (nm_e ⟨hi, nm_e (nm_r (nI_1 j) (hX post hp))⟩)
      · exact And.intro hi (nm_e ⟨hi, nm_e (nm_r (nI_1 j) (hY post hp))⟩)
theorem i_vc_clear {k : Nat} {u : SX} {v : SY} (I : i_Rel k u v) (hk : k + 4 ≤ 2050) : wpX_clear (fun r u' => wpY_clear (fun r' v' => r' = r ∧ i_Rel (k + 4) u' v') v) u := by
  obtain ⟨n, c, o, sc, bn, hs, lh, yh, nw, rfl, rfl, H⟩ := I
  unfold wpX_clear wpY_clear
  dsimp only
  obtain ⟨r, sc', bn', hR, hX, hY⟩ := sd_clr (nI n) (nI c) o hs lh yh nw 36 0 (by omega) 0 sc bn H.2.2.2.2
  refine Exists.intro _ (hX _ ?_)
  refine Exists.intro _ (hY _ ?_)
  exact ⟨rfl, n, c, o, sc', bn', hs, lh, yh, nw, rfl, rfl, H.1, H.2.1, H.2.2.1, H.2.2.2.1, hR⟩
end
section
theorem sd_bq (a b : Nat) : (a = b ∧ Nat.beq a b = true) ∨ (a ≠ b ∧ Nat.beq a b = false) := by
  cases e : Nat.beq a b with
  | true => exact Or.inl ⟨Nat.eq_of_beq_eq_true e, rfl⟩
  | false => exact Or.inr ⟨Nat.ne_of_beq_eq_false e, rfl⟩
theorem sd_bl (a b : Nat) : (a ≤ b ∧ Nat.ble a b = true) ∨ (b < a ∧ Nat.ble a b = false) := by
  cases e : Nat.ble a b with
  | true => exact Or.inl ⟨Nat.le_of_ble_eq_true e, rfl⟩
  | false => exact Or.inr ⟨Nat.lt_of_not_le (Nat.not_le_of_not_ble_eq_true (by rw [e]; exact Bool.false_ne_true)), rfl⟩
theorem sd_nq {a b : Nat} (ha : a < 2 ^ 31) (hb : b < 2 ^ 31) (h : a ≠ b) : ¬ nI a = nI b := fun z => h ((nI_eq ha hb).mp z)
theorem sd_hle (n t j : Nat) : sd_h n t j ≤ n := by
  cases j with
  | zero => exact Nat.zero_le _
  | succ j => exact Nat.le_of_lt_succ (Nat.mod_lt _ (Nat.succ_pos n))
section
variable {n : Nat} {h : Nat → Nat} {a : Nat → Int32} (o c : Int32) (sc bn lh : Nat → Int32)
theorem sd_xc (hn : n ≤ 5) (ha : ∀ j, j ≤ n → a j = nI (h j)) (hb : ∀ j, j ≤ n → h j ≤ n) {g : Nat} (hg : g ≤ 5) : ∀ m i : Nat, i + m = n → ∀ w : Nat, w ≤ n → ∀ post : Int32 → Prop, post (sd_b (sd_c h g m w)) → wX_comesTo_5 post (nI g) (nI n) o c sc bn a lh (m + 1) (nI w) (nI i) := by
  intro m
  induction m with
  | zero =>
    intro i hi w hw post hp
    have h1 : nI n ≤ nI i := nI_le (by omega) (by omega)
    rcases sd_bq w g with ⟨e, eb⟩ | ⟨e, eb⟩
    · simp only [sd_c, eb] at hp
      exact br_t h1 (br_t (congrArg nI e) hp)
    · simp only [sd_c, eb] at hp
      exact br_t h1 (br_f (sd_nq (by omega) (by omega) e) hp)
  | succ m ih =>
    intro i hi w hw post hp
    have h1 : ¬ nI n ≤ nI i := nI_ge (by omega) (by omega)
    rcases sd_bq w g with ⟨e, eb⟩ | ⟨e, eb⟩
    · simp only [sd_c, eb] at hp
      exact br_f h1 (br_t (congrArg nI e) (br_t (congrArg nI e) hp))
    · simp only [sd_c, eb] at hp
      exact br_f h1 (br_f (sd_nq (by omega) (by omega) e) ⟨vp_in_nI (by omega) (by omega), nm_r (by rw [nI_clamp (by omega)]; exact ha w hw) (nm_r (nI_1 i) (ih (i + 1) (by omega) (h w) (hb w hw) post hp))⟩)
theorem sd_xcw (hn : n ≤ 5) (ha : ∀ j, j ≤ n → a j = nI (h j)) (hb : ∀ j, j ≤ n → h j ≤ n) {g w : Nat} (hg : g ≤ 5) (hw : w ≤ n) {post : Int32 → Prop} (hp : post (sd_b (sd_c h g n w))) : wpX_comesTo post (nI n, o, c, sc, bn, a, lh) (nI w) (nI g) :=
  Exists.intro _ (sd_xc o c sc bn lh hn ha hb hg n 0 (by omega) w hw post hp)
theorem sd_xt (hn : n ≤ 5) (ha : ∀ j, j ≤ n → a j = nI (h j)) (hb : ∀ j, j ≤ n → h j ≤ n) : ∀ m d : Nat, d + m = n + 1 → ∀ post : Int32 → Prop, post (sd_b (sd_in h 0 n m d)) → wX_isTree_2 post (nI n) o c sc bn a lh (m + 1) (nI d) := by
  intro m
  induction m with
  | zero =>
    intro d hd post hp
    exact br_t (nI_lt (by omega) (by omega)) hp
  | succ m ih =>
    intro d hd post hp
    refine br_f (nI_nlt (by omega) (by omega)) (sd_xcw (g := 0) o c sc bn lh hn ha hb (by omega) (by omega) ?_)
    simp only [sd_in] at hp
    cases e : sd_c h 0 n d with
    | false =>
      rw [e] at hp
      exact br_t sd_b0 hp
    | true =>
      rw [e] at hp
      exact br_f sd_b1 (nm_r (nI_1 d) (ih (d + 1) (by omega) post hp))
theorem sd_xtw (hn : n ≤ 5) (ha : ∀ j, j ≤ n → a j = nI (h j)) (hb : ∀ j, j ≤ n → h j ≤ n) {post : Int32 → Prop} (hp : post (sd_b (sd_in h 0 n n 1))) : wpX_isTree post (nI n, o, c, sc, bn, a, lh) :=
  Exists.intro _ (sd_xt o c sc bn lh hn ha hb n 1 (by omega) post hp)
theorem sd_xf45 (hn : n ≤ 5) (ha : ∀ j, j ≤ n → a j = nI (h j)) (hb : ∀ j, j ≤ n → h j ≤ n) {d g R : Nat} (hg : g ≤ 5) (hR : R ≤ n) (post : Int32 → Prop) (J : Int32 → Prop) : ∀ m k : Nat, m = R - k → k ≤ 6 → (sd_in h g n m k = false → post 0) → (sd_in h g n m k = true → J (nI (d + 1))) → wX_isFlat_45 post J (nI d) (nI g) (nI R) (nI n) o c sc bn a lh (m + 1) (nI k) := by
  intro m
  induction m with
  | zero =>
    intro k hk hk6 hF hT
    exact br_t (nI_le (by omega) (by omega)) (nm_r (nI_1 d) (hT rfl))
  | succ m ih =>
    intro k hk hk6 hF hT
    refine br_f (nI_ge (by omega) (by omega)) (sd_xcw o c sc bn lh hn ha hb hg (by omega) ?_)
    simp only [sd_in] at hF hT
    cases e : sd_c h g n k with
    | false =>
      rw [e] at hF
      exact br_t sd_b0 (hF rfl)
    | true =>
      rw [e] at hF hT
      exact br_f sd_b1 (nm_r (nI_1 k) (ih (k + 1) (by omega) (by omega) hF hT))
theorem sd_xf (hn : n ≤ 5) (ha : ∀ j, j ≤ n → a j = nI (h j)) (hb : ∀ j, j ≤ n → h j ≤ n) : ∀ m d : Nat, d + m = n + 1 → ∀ post : Int32 → Prop, post (sd_b (sd_fl h n m d)) → wX_isFlat_2 post (nI n) o c sc bn a lh (m + 1) (nI d) := by
  intro m
  induction m with
  | zero =>
    intro d hd post hp
    exact br_t (nI_lt (by omega) (by omega)) hp
  | succ m ih =>
    intro d hd post hp
    have hdn : h d ≤ n := hb d (by omega)
    refine br_f (nI_nlt (by omega) (by omega)) ⟨vp_in_nI (by omega) (by omega), nm_r (e' := nI (h d)) (by rw [nI_clamp (by omega)]; exact ha d (by omega)) ?_⟩
    simp only [sd_fl] at hp
    rcases sd_bl d (h d) with ⟨e, eb⟩ | ⟨e, eb⟩
    · rw [eb] at hp
      dsimp only at hp
      have hle : nI d ≤ nI (h d) := nI_le e (by omega)
      refine br_t hle (br_t hle (nm_r (nI_1 d) (Exists.intro _ (sd_xf45 o c sc bn lh hn ha hb (by omega) hdn post _ (h d - (d + 1)) (d + 1) rfl (by omega) ?_ ?_))))
      · intro z
        rw [z] at hp
        exact hp
      · intro z
        rw [z] at hp
        exact ih (d + 1) (by omega) post hp
    · rw [eb] at hp
      dsimp only at hp
      have hle : ¬ nI d ≤ nI (h d) := nI_ge e (by omega)
      refine br_f hle (br_f hle (nm_r (nI_1 (h d)) (Exists.intro _ (sd_xf45 o c sc bn lh hn ha hb (by omega) (by omega) post _ (d - (h d + 1)) (h d + 1) rfl (by omega) ?_ ?_))))
      · intro z
        rw [z] at hp
        exact hp
      · intro z
        rw [z] at hp
        exact ih (d + 1) (by omega) post hp
theorem sd_xfw (hn : n ≤ 5) (ha : ∀ j, j ≤ n → a j = nI (h j)) (hb : ∀ j, j ≤ n → h j ≤ n) {post : Int32 → Prop} (hp : post (sd_b (sd_fl h n n 1))) : wpX_isFlat post (nI n, o, c, sc, bn, a, lh) :=
  Exists.intro _ (sd_xf o c sc bn lh hn ha hb n 1 (by omega) post hp)
end
def sd_rr (r : Nat) : Bool → Bool
  | false => true
  | true => Nat.beq r 1
section
variable {n : Nat} {h : Nat → Nat} {a : Nat → Int32} (c : Int32) (sc bn lh : Nat → Int32)
theorem sd_xr (hn : n ≤ 5) (ha : ∀ j, j ≤ n → a j = nI (h j)) (hb : ∀ j, j ≤ n → h j ≤ n) (s : Bool) : ∀ m d q : Nat, d + m = n + 1 → q + m ≤ 10 → ∀ post : Int32 → Prop, post (sd_b (sd_rr (sd_rt h m d q) s)) → wX_hasRootWordsAsAsked_4 post (nI n) (sd_b s) c sc bn a lh (m + 1) (nI q) (nI d) := by
  intro m
  induction m with
  | zero =>
    intro d q hd hq post hp
    refine br_t (nI_lt (by omega) (by omega)) ?_
    cases s with
    | false => exact br_t sd_b0 hp
    | true =>
      refine br_f sd_b1 ?_
      rcases sd_bq q 1 with ⟨e, eb⟩ | ⟨e, eb⟩
      · simp only [sd_rt, sd_rr, eb] at hp
        exact br_t (congrArg nI e) hp
      · simp only [sd_rt, sd_rr, eb] at hp
        exact br_f (sd_nq (b := 1) (by omega) (by omega) e) hp
  | succ m ih =>
    intro d q hd hq post hp
    have hdn : h d ≤ n := hb d (by omega)
    have ea : a (nI d).toNatClampNeg = nI (h d) := by rw [nI_clamp (by omega)]; exact ha d (by omega)
    refine br_f (nI_nlt (by omega) (by omega)) ⟨vp_in_nI (by omega) (by omega), ?_⟩
    rcases sd_bq (h d) 0 with ⟨e, eb⟩ | ⟨e, eb⟩
    · simp only [sd_rt, eb] at hp
      exact br_t (ea.trans (congrArg nI e)) (nm_r (nI_1 q) (nm_r (nI_1 d) (ih (d + 1) (q + 1) (by omega) (by omega) post hp)))
    · simp only [sd_rt, eb] at hp
      exact br_f (fun z => sd_nq (b := 0) (by omega) (by omega) e (ea.symm.trans z)) (nm_r (nI_1 d) (ih (d + 1) q (by omega) (by omega) post hp))
theorem sd_xrw (hn : n ≤ 5) (ha : ∀ j, j ≤ n → a j = nI (h j)) (hb : ∀ j, j ≤ n → h j ≤ n) (s : Bool) {post : Int32 → Prop} (hp : post (sd_b (sd_rr (sd_rt h n 1 0) s))) : wpX_hasRootWordsAsAsked post (nI n, sd_b s, c, sc, bn, a, lh) :=
  Exists.intro _ (sd_xr c sc bn lh hn ha hb s n 1 0 (by omega) (by omega) post hp)
end
/-- the digits: rest and cells -/
theorem sd_dv (n t d : Nat) (hd : d + 1 ≤ n) : t / (n + 1) ^ (n - (d + 1)) / (n + 1) = t / (n + 1) ^ (n - d) := by
  rw [Nat.div_div_eq_div_mul, ← Nat.pow_succ]
  exact congrArg (fun e => t / (n + 1) ^ e) (by omega)
theorem sd_xs {n t : Nat} (hn : n ≤ 5) (ht : t < 7776) (o c : Int32) (sc bn lh : Nat → Int32) (post : SX → Prop) : ∀ (d : Nat) (a : Nat → Int32), d ≤ n → a 0 = 0 → (∀ j, d < j → j ≤ n → a j = nI (sd_h n t j)) → (∀ a', (∀ j, j ≤ n → a' j = nI (sd_h n t j)) → post (nI n, o, c, sc, bn, a', lh)) → wX_setHeads_7 post (nI n) o c (d + 1) (nI (t / (n + 1) ^ (n - d))) (nI d) sc bn a lh := by
  intro d
  induction d with
  | zero =>
    intro a hd h0 hj hp
    refine br_t (nI_lt (b := 1) (by omega) (by omega)) (hp a fun j hjn => ?_)
    cases j with
    | zero => exact h0
    | succ j => exact hj (j + 1) (by omega) hjn
  | succ d ih =>
    intro a hd h0 hj hp
    have hlt : t / (n + 1) ^ (n - (d + 1)) < 2 ^ 31 := Nat.lt_of_le_of_lt (Nat.div_le_self _ _) (by omega)
    have hz : ¬ nI n + 1 = 0 := by rw [nI_1]; exact nI_ne0 (by omega) (by omega)
    have e1 : upd a (nI (d + 1)).toNatClampNeg (nI (t / (n + 1) ^ (n - (d + 1))) - nI (t / (n + 1) ^ (n - (d + 1))) / (nI n + 1) * (nI n + 1)) = upd a (d + 1) (nI (sd_h n t (d + 1))) := by
      rw [nI_clamp (by omega), nI_1, pk_rem hlt (by omega) (by omega)]
      rfl
    have e2 : nI (t / (n + 1) ^ (n - (d + 1))) / (nI n + 1) = nI (t / (n + 1) ^ (n - d)) := by
      rw [nI_1, pk_div hlt (by omega) (by omega), sd_dv n t d hd]
    refine br_f (nI_nlt (b := 1) (by omega) (by omega)) ⟨hz, vp_in_nI (by omega) (by omega), nm_r e1 ⟨hz, nm_r e2 (nm_r (pk_m1 d) (ih _ (by omega) ?_ ?_ hp))⟩⟩
    · rw [pk_un (by omega)]; exact h0
    · intro j h1 h2
      by_cases z : j = d + 1
      · subst z; exact pk_us
      · rw [pk_un z]; exact hj j (by omega) h2
theorem sd_xsw {n t : Nat} (hn : n ≤ 5) (ht : t < 7776) (o c : Int32) (sc bn a lh : Nat → Int32) {post : SX → Prop} (h0 : a 0 = 0) (hp : ∀ a', (∀ j, j ≤ n → a' j = nI (sd_h n t j)) → post (nI n, o, c, sc, bn, a', lh)) : wpX_setHeads post (nI n, o, c, sc, bn, a, lh) (nI t) := by
  have h := sd_xs hn ht o c sc bn lh post n a (Nat.le_refl _) h0 (fun j h1 h2 => absurd h1 (by omega)) hp
  rw [Nat.sub_self, Nat.pow_zero, Nat.div_one] at h
  exact Exists.intro _ h
theorem sd_by : ∀ v : Nat, v < 6 → (nI v).toInt8.toInt32 = nI v := by decide
theorem sd_xl {n k : Nat} {h : Nat → Nat} {a : Nat → Int32} (hn : n ≤ 5) (hk : k < 273) (ha : ∀ j, j ≤ n → a j = nI (h j)) (hb : ∀ j, j ≤ n → h j ≤ n) (o : Int32) (sc bn : Nat → Int32) (post : SX → Prop) : ∀ (m d : Nat) (lh : Nat → Int32), d + m = n + 1 → (∀ lh' : Nat → Int32, (∀ j, j < 6 * k + d → lh' j = lh j) → (∀ e, d ≤ e → e ≤ n → lh' (6 * k + e) = nI (h e)) → post (nI n, o, nI (k + 1), sc, bn, a, lh')) → wX_listHeads_13 post (nI n) o (nI k) (m + 1) (nI d) sc bn a lh := by
  intro m
  induction m with
  | zero =>
    intro d lh hd hp
    exact br_t (nI_lt (by omega) (by omega)) (nm_r (nI_1 k) (hp lh (fun _ _ => rfl) (fun e h1 h2 => absurd h1 (by omega))))
  | succ m ih =>
    intro d lh hd hp
    have hdn : h d ≤ n := hb d (by omega)
    have e1 : upd lh ((nI k * 6) + nI d).toNatClampNeg (vp_nar .byte ((a (nI d).toNatClampNeg).toInt8.toInt32)) = upd lh (6 * k + d) (nI (h d)) := by
      rw [sd_e6, nI_clamp (by omega), nI_clamp (by omega), ha d (by omega), pk_vb, sd_by _ (by omega)]
    refine br_f (nI_nlt (by omega) (by omega)) ⟨vp_in_nI (by omega) (by omega), by rw [sd_e6]; exact vp_in_nI (by omega) (by omega), nm_r e1 (nm_r (nI_1 d) (ih (d + 1) _ (by omega) ?_))⟩
    intro lh' h1 h2
    refine hp lh' (fun j hj => (h1 j (by omega)).trans (pk_un (by omega))) (fun e he1 he2 => ?_)
    by_cases z : e = d
    · subst z; exact (h1 (6 * k + e) (by omega)).trans pk_us
    · exact h2 e (by omega) he2
theorem sd_xlw {n k : Nat} {h : Nat → Nat} {a : Nat → Int32} (hn : n ≤ 5) (hk : k < 273) (ha : ∀ j, j ≤ n → a j = nI (h j)) (hb : ∀ j, j ≤ n → h j ≤ n) (o : Int32) (sc bn lh : Nat → Int32) {post : SX → Prop} (hp : ∀ lh' : Nat → Int32, (∀ j, j < 6 * k + 1 → lh' j = lh j) → (∀ e, 1 ≤ e → e ≤ n → lh' (6 * k + e) = nI (h e)) → post (nI n, o, nI (k + 1), sc, bn, a, lh')) : wpX_listHeads post (nI n, o, nI k, sc, bn, a, lh) := by
  have h1 : nI k < 273 := nI_lt (b := 273) hk (by omega)
  exact br_t h1 (Exists.intro _ (sd_xl hn hk ha hb o sc bn post n 1 lh (by omega) hp))
def sd_hold (n : Nat) (f : Nat → Nat → Nat) (L : List Nat) (lh : Nat → Int32) : Prop := ∀ i v : Nat, L[i]? = some v → ∀ d : Nat, 1 ≤ d → d ≤ n → lh (6 * i + d) = nI (f v d)
theorem sd_hold_s {n : Nat} {f : Nat → Nat → Nat} {L : List Nat} {lh lh' : Nat → Int32} {t : Nat} (hn : n ≤ 5) (H : sd_hold n f L lh) (h1 : ∀ j, j < 6 * L.length + 1 → lh' j = lh j) (h2 : ∀ e, 1 ≤ e → e ≤ n → lh' (6 * L.length + e) = nI (f t e)) : sd_hold n f (L ++ [t]) lh' := by
  intro i v hv d hd1 hd2
  by_cases z : i < L.length
  · rw [List.getElem?_append_left z] at hv
    rw [h1 _ (by omega)]
    exact H i v hv d hd1 hd2
  · obtain ⟨hl, _⟩ := List.getElem?_eq_some_iff.mp hv
    rw [List.length_append, List.length_singleton] at hl
    have ei : i = L.length := by omega
    subst ei
    rw [List.getElem?_concat_length] at hv
    cases hv
    exact h2 d hd1 hd2
theorem sd_sel_t {p : Nat → Bool} {t : Nat} (h : p t = true) : sd_sel p 0 (t + 1) = sd_sel p 0 t ++ [t] := by
  simp only [sd_sel, Nat.zero_add, h]
theorem sd_sel_f {p : Nat → Bool} {t : Nat} (h : p t = false) : sd_sel p 0 (t + 1) = sd_sel p 0 t := by
  simp only [sd_sel, Nat.zero_add, h, List.append_nil]
theorem sd_sel_le (p : Nat → Bool) (t m : Nat) : (sd_sel p 0 t).length ≤ (sd_sel p 0 (t + m)).length := by
  rw [sd_sel_add, List.length_append]
  omega
end
section
theorem sd_pX_1 {n t : Nat} {s : Bool} (e : sd_in (sd_h n t) 0 n n 1 = false) : sd_pX n s t = false := by
  simp only [sd_pX, e]
theorem sd_pX_2 {n t : Nat} {s : Bool} (e : sd_in (sd_h n t) 0 n n 1 = true) (e2 : sd_fl (sd_h n t) n n 1 = false) : sd_pX n s t = false := by
  simp only [sd_pX, e, e2]
theorem sd_pX_3 {n t : Nat} {s b : Bool} (e : sd_in (sd_h n t) 0 n n 1 = true) (e2 : sd_fl (sd_h n t) n n 1 = true) (e3 : sd_rr (sd_rt (sd_h n t) n 1 0) s = b) : sd_pX n s t = b := by
  rw [← e3]
  cases s
  · simp only [sd_pX, e, e2, sd_rr]
  · simp only [sd_pX, e, e2, sd_rr]
theorem sd_xo {n T : Nat} (hn : n ≤ 5) (s : Bool) (hT : T ≤ 7776) (hL : (sd_sel (sd_pX n s) 0 T).length ≤ 273) (sc bn : Nat → Int32) (post : SX → Prop)
    (hp : ∀ a lh : Nat → Int32, sd_hold n (sd_h n) (sd_sel (sd_pX n s) 0 T) lh → post (nI n, sd_b s, nI (sd_sel (sd_pX n s) 0 T).length, sc, bn, a, lh)) :
    ∀ (m t : Nat) (a lh : Nat → Int32), t + m = T → a 0 = 0 → sd_hold n (sd_h n) (sd_sel (sd_pX n s) 0 t) lh → wX_listFlatTrees_29 post (nI T) (m + 1) (nI t) (nI n) (sd_b s) (nI (sd_sel (sd_pX n s) 0 t).length) sc bn a lh := by
  intro m
  induction m with
  | zero =>
    intro t a lh ht h0 hh
    have e : t = T := by omega
    subst e
    exact br_t (nI_le (by omega) (by omega)) (hp a lh hh)
  | succ m ih =>
    intro t a lh ht h0 hh
    refine br_f (nI_ge (by omega) (by omega)) (sd_xsw hn (by omega) _ _ sc bn a lh h0 ?_)
    intro a' ha
    dsimp only
    have hb : ∀ j, j ≤ n → sd_h n t j ≤ n := fun j _ => sd_hle n t j
    have h0' : a' 0 = 0 := ha 0 (Nat.zero_le _)
    have rej : sd_pX n s t = false → wX_listFlatTrees_29 post (nI T) (m + 1) (nI (t + 1)) (nI n) (sd_b s) (nI (sd_sel (sd_pX n s) 0 t).length) sc bn a' lh := by
      intro hf
      have := ih (t + 1) a' lh (by omega) h0'
      rw [sd_sel_f hf] at this
      exact this hh
    refine sd_xtw _ _ sc bn lh hn ha hb ?_
    cases e1 : sd_in (sd_h n t) 0 n n 1 with
    | false => exact br_t sd_b0 (nm_r (nI_1 t) (rej (sd_pX_1 e1)))
    | true =>
      refine br_f sd_b1 ?_
      refine sd_xfw _ _ sc bn lh hn ha hb ?_
      cases e2 : sd_fl (sd_h n t) n n 1 with
      | false => exact br_t sd_b0 (nm_r (nI_1 t) (rej (sd_pX_2 e1 e2)))
      | true =>
        refine br_f sd_b1 ?_
        refine sd_xrw _ sc bn lh hn ha hb s ?_
        cases e3 : sd_rr (sd_rt (sd_h n t) n 1 0) s with
        | false => exact br_t sd_b0 (nm_r (nI_1 t) (rej (sd_pX_3 e1 e2 e3)))
        | true =>
          refine br_f sd_b1 ?_
          have hacc := sd_sel_t (sd_pX_3 e1 e2 e3)
          have hlen : (sd_sel (sd_pX n s) 0 (t + 1)).length = (sd_sel (sd_pX n s) 0 t).length + 1 := by
            rw [hacc, List.length_append, List.length_singleton]
          have hle : (sd_sel (sd_pX n s) 0 (t + 1)).length ≤ (sd_sel (sd_pX n s) 0 T).length := by
            have := sd_sel_le (sd_pX n s) (t + 1) m
            rw [show t + 1 + m = T from by omega] at this
            exact this
          refine sd_xlw hn (by omega) ha hb _ sc bn lh ?_
          intro lh' h1 h2
          dsimp only
          refine nm_r (nI_1 t) ?_
          have := ih (t + 1) a' lh' (by omega) h0'
          rw [hlen, hacc] at this
          exact this (sd_hold_s hn hh h1 h2)
theorem sd_x4 {n : Nat} (hn : n ≤ 5) (o c : Int32) (sc bn a lh : Nat → Int32) (post : SX → Prop) (hp : ∃ n29 : Nat, wX_listFlatTrees_29 post (nI ((n + 1) ^ n)) n29 0 (nI n) o c sc bn a lh) : ∀ m d e : Nat, d + m = n + 1 → e + m = n → wX_listFlatTrees_4 post (nI n) o c sc bn a lh (m + 1) (nI ((n + 1) ^ e)) (nI d) := by
  intro m
  induction m with
  | zero =>
    intro d e hd he
    have h : e = n := by omega
    subst h
    exact br_t (nI_lt (by omega) (by omega)) hp
  | succ m ih =>
    intro d e hd he
    have e1 : nI ((n + 1) ^ e) * (nI n + 1) = nI ((n + 1) ^ (e + 1)) := by rw [nI_1, pk_mul, Nat.pow_succ]
    exact br_f (nI_nlt (by omega) (by omega)) (nm_r e1 (nm_r (nI_1 d) (ih (d + 1) (e + 1) (by omega) (by omega))))
theorem sd_pw : ∀ n : Nat, n < 6 → (n + 1) ^ n ≤ 7776 := by decide
theorem sd_xi {n : Nat} (hn : n ≤ 5) (s : Bool) (hL : (sd_sel (sd_pX n s) 0 ((n + 1) ^ n)).length ≤ 273) {post : SX → Prop}
    (hp : ∀ a lh : Nat → Int32, sd_hold n (sd_h n) (sd_sel (sd_pX n s) 0 ((n + 1) ^ n)) lh → post (nI n, sd_b s, nI (sd_sel (sd_pX n s) 0 ((n + 1) ^ n)).length, fun _ => 0, fun _ => 0, a, lh)) :
    wpX_listFlatTrees post (nI n, sd_b s, 0, fun _ => 0, fun _ => 0, fun _ => 0, fun _ => 0) := by
  have h := sd_x4 hn (sd_b s) 0 (fun _ => 0) (fun _ => 0) (fun _ => 0) (fun _ => 0) post (Exists.intro _ (sd_xo hn s (sd_pw n (by omega)) hL (fun _ => 0) (fun _ => 0) post hp _ 0 (fun _ => 0) (fun _ => 0) (Nat.zero_add _) rfl (fun i v hv => by simp only [sd_sel, List.getElem?_nil] at hv; exact nomatch hv))) n 1 0 (by omega) (by omega)
  rw [Nat.pow_zero] at h
  exact Exists.intro _ h
theorem sd_xin {n : Nat} (hn : n ≤ 5) (p1 : Int32) (s : Bool) (hs : s = !(p1 == 0)) (hL : (sd_sel (sd_pX n s) 0 ((n + 1) ^ n)).length ≤ 273) {post : SX → Prop}
    (hp : ∀ a lh : Nat → Int32, sd_hold n (sd_h n) (sd_sel (sd_pX n s) 0 ((n + 1) ^ n)) lh → post (nI n, sd_b s, nI (sd_sel (sd_pX n s) 0 ((n + 1) ^ n)).length, fun _ => 0, fun _ => 0, a, lh)) :
    wX_init_62 post p1 (nI n) 0 0 0 (fun _ => 0) (fun _ => 0) (fun _ => 0) (fun _ => 0) := by
  have h0 : narrow .boolean (.int 0) = .int 0 := lw_bz_n 0
  have h1 : narrow .boolean (.int 1) = .int 1 := lw_bz_n 1
  by_cases z : p1 = 0
  · have es : s = false := by rw [hs, z]; rfl
    subst es
    refine br_t z ?_
    unfold wX_init_75
    exact ⟨h0, by decide, sd_xi hn false hL (fun a lh hh => hp a lh hh)⟩
  · have es : s = true := by rw [hs, beq_eq_false_iff_ne.mpr z]; rfl
    subst es
    refine br_f z ?_
    unfold wX_init_75
    exact ⟨h1, by decide, sd_xi hn true hL (fun a lh hh => hp a lh hh)⟩
end
section
section
variable {n : Nat} {h : Nat → Nat} {a : Nat → Int32} (c : Int32) (sc bn yh : Nat → Int32)
theorem sd_yc (f : Int32) (ha : ∀ j, j ≤ 5 → a j = nI (h j)) (hb : ∀ j, j ≤ 5 → h j ≤ 5) {g : Nat} (hg : g ≤ 5) : ∀ m i : Nat, i + m = 5 → ∀ w : Nat, w ≤ 5 → ∀ post : Int32 → Prop, post (sd_b (sd_c h g m w)) → wY_comes_5 post (nI g) f c sc bn yh a (m + 2) (nI w) (nI i) := by
  intro m
  induction m with
  | zero =>
    intro i hi w hw post hp
    have h1 : ¬ (6 : Int32) ≤ nI i := nI_ge (b := 6) (by omega) (by omega)
    have h2 : (6 : Int32) ≤ nI (i + 1) := nI_le (a := 6) (by omega) (by omega)
    rcases sd_bq w g with ⟨e, eb⟩ | ⟨e, eb⟩
    · simp only [sd_c, eb] at hp
      exact br_f h1 (br_t (congrArg nI e) hp)
    · simp only [sd_c, eb] at hp
      exact br_f h1 (br_f (sd_nq (by omega) (by omega) e) ⟨vp_in_nI (by omega) (by omega), nm_e (nm_r (nI_1 i) (br_t h2 hp))⟩)
  | succ m ih =>
    intro i hi w hw post hp
    have h1 : ¬ (6 : Int32) ≤ nI i := nI_ge (b := 6) (by omega) (by omega)
    rcases sd_bq w g with ⟨e, eb⟩ | ⟨e, eb⟩
    · simp only [sd_c, eb] at hp
      exact br_f h1 (br_t (congrArg nI e) hp)
    · simp only [sd_c, eb] at hp
      exact br_f h1 (br_f (sd_nq (by omega) (by omega) e) ⟨vp_in_nI (by omega) (by omega), nm_r (by rw [nI_clamp (by omega)]; exact ha w hw) (nm_r (nI_1 i) (ih (i + 1) (by omega) (h w) (hb w hw) post hp))⟩)
theorem sd_ycw (f : Int32) (ha : ∀ j, j ≤ 5 → a j = nI (h j)) (hb : ∀ j, j ≤ 5 → h j ≤ 5) {g w : Nat} (hg : g ≤ 5) (hw : w ≤ 5) {post : Int32 → Prop} (hp : post (sd_b (sd_c h g 5 w))) : wpY_comes post (f, c, sc, bn, yh, a) (nI w) (nI g) :=
  Exists.intro _ (sd_yc c sc bn yh f ha hb hg 5 0 (by omega) w hw post hp)
theorem sd_ycv (f : Int32) (ha : ∀ j, j ≤ 5 → a j = nI (h j)) (hb : ∀ j, j ≤ 5 → h j ≤ 5) {d k : Nat} (hd : d ≤ 5) (hk : k ≤ 5) {post : Int32 → Prop} (hp : post (sd_b (sd_cv (h d) d k))) : wpY_covers post (f, c, sc, bn, yh, a) (nI d) (nI k) := by
  have hh := hb d hd
  refine And.intro (vp_in_nI (by omega) (by omega)) (nm_r (e' := nI (h d)) (by rw [nI_clamp (by omega)]; exact ha d hd) ?_)
  have e17 : post (sd_b (match Nat.ble k d with | true => false | false => match Nat.ble (h d) k with | true => false | false => true)) → wY_covers_17 post (nI d) (nI k) (nI (h d)) f c sc bn yh a := by
    intro hq
    rcases sd_bl k d with ⟨e, eb⟩ | ⟨e, eb⟩
    · rw [eb] at hq
      exact br_t (nI_le e (by omega)) hq
    · rw [eb] at hq
      dsimp only at hq
      rcases sd_bl (h d) k with ⟨e', eb'⟩ | ⟨e', eb'⟩
      · rw [eb'] at hq
        exact br_f (nI_ge e (by omega)) (br_t (nI_le e' (by omega)) hq)
      · rw [eb'] at hq
        exact br_f (nI_ge e (by omega)) (br_f (nI_ge e' (by omega)) hq)
  unfold sd_cv at hp
  rcases sd_bl k (h d) with ⟨e, eb⟩ | ⟨e, eb⟩
  · rw [eb] at hp
    exact br_t (nI_le e (by omega)) (e17 hp)
  · rw [eb] at hp
    dsimp only at hp
    rcases sd_bl d k with ⟨e', eb'⟩ | ⟨e', eb'⟩
    · rw [eb'] at hp
      exact br_f (nI_ge e (by omega)) (br_f (nI_nlt e' (by omega)) (e17 hp))
    · rw [eb'] at hp
      exact br_f (nI_ge e (by omega)) (br_t (nI_lt e' (by omega)) hp)
theorem sd_y112 (hn : n ≤ 5) (ha : ∀ j, j ≤ 5 → a j = nI (h j)) (hb : ∀ j, j ≤ 5 → h j ≤ 5) {d : Nat} (hd : d ≤ 5) (post : Int32 → Prop) (J : Int32 → Prop) : ∀ m k : Nat, k + m = n + 1 → (sd_yk h d m k = false → post 0) → (sd_yk h d m k = true → J (nI (d + 1))) → wY_isFlat_112 post J (nI d) (nI n) c sc bn yh a (m + 1) (nI k) := by
  intro m
  induction m with
  | zero =>
    intro k hk hF hT
    exact br_t (nI_lt (by omega) (by omega)) (nm_r (nI_1 d) (hT rfl))
  | succ m ih =>
    intro k hk hF hT
    refine br_f (nI_nlt (by omega) (by omega)) (sd_ycv c sc bn yh _ ha hb hd (by omega) ?_)
    simp only [sd_yk] at hF hT
    cases e : sd_cv (h d) d k with
    | false =>
      rw [e] at hF hT
      exact br_t sd_b0 (nm_r (nI_1 k) (ih (k + 1) (by omega) hF hT))
    | true =>
      rw [e] at hF hT
      dsimp only at hF hT
      refine br_f sd_b1 ⟨vp_in_nI (by omega) (by omega), ?_⟩
      rw [show a (nI d).toNatClampNeg = nI (h d) from by rw [nI_clamp (by omega)]; exact ha d hd]
      refine sd_ycw c sc bn yh _ ha hb (hb d hd) (by omega) ?_
      cases e2 : sd_c h (h d) 5 k with
      | false =>
        rw [e2] at hF
        exact br_t sd_b0 (hF rfl)
      | true =>
        rw [e2] at hF hT
        exact br_f sd_b1 (nm_r (nI_1 k) (ih (k + 1) (by omega) hF hT))
theorem sd_y90 (hn : n ≤ 5) (ha : ∀ j, j ≤ 5 → a j = nI (h j)) (hb : ∀ j, j ≤ 5 → h j ≤ 5) (post : Int32 → Prop) : ∀ m d : Nat, d + m = n + 1 → post (sd_b (sd_yd h n m d)) → wY_isFlat_90 post (nI n) c sc bn yh a (m + 1) (nI d) := by
  intro m
  induction m with
  | zero =>
    intro d hd hp
    exact br_t (nI_lt (by omega) (by omega)) hp
  | succ m ih =>
    intro d hd hp
    refine br_f (nI_nlt (by omega) (by omega)) (sd_ycw (g := 0) c sc bn yh _ ha hb (by omega) (by omega) ?_)
    simp only [sd_yd] at hp
    cases e : sd_c h 0 5 d with
    | false =>
      rw [e] at hp
      exact br_t sd_b0 hp
    | true =>
      rw [e] at hp
      dsimp only at hp
      refine br_f sd_b1 (Exists.intro _ (sd_y112 c sc bn yh hn ha hb (by omega) post _ n 1 (by omega) ?_ ?_))
      · intro z
        rw [z] at hp
        exact hp
      · intro z
        rw [z] at hp
        exact ih (d + 1) (by omega) hp
def sd_fin (h : Nat → Nat) (n : Nat) (s : Bool) : Option Nat → Bool
  | none => false
  | some r => match s with
    | false => sd_yd h n n 1
    | true => match Nat.beq r 1 with
      | false => false
      | true => sd_yd h n n 1
theorem sd_y4 (hn : n ≤ 5) (ha : ∀ j, j ≤ 5 → a j = nI (h j)) (hb : ∀ j, j ≤ 5 → h j ≤ 5) (s : Bool) (post : Int32 → Prop) : ∀ m d q : Nat, 1 ≤ d → d + m = 6 → q + m ≤ 10 → post (sd_b (sd_fin h n s (sd_yr h n m d q))) → wY_isFlat_4 post (sd_b s) (nI n) c sc bn yh a (m + 1) (nI q) (nI d) := by
  intro m
  induction m with
  | zero =>
    intro d q hd1 hd hq hp
    refine br_t (nI_lt (a := 5) (by omega) (by omega)) ?_
    cases s with
    | false => exact br_t sd_b0 (Exists.intro _ (sd_y90 c sc bn yh hn ha hb post n 1 (by omega) hp))
    | true =>
      refine br_f sd_b1 ?_
      simp only [sd_yr, sd_fin] at hp
      rcases sd_bq q 1 with ⟨e, eb⟩ | ⟨e, eb⟩
      · rw [eb] at hp
        exact br_t (congrArg nI e) (Exists.intro _ (sd_y90 c sc bn yh hn ha hb post n 1 (by omega) hp))
      · rw [eb] at hp
        exact br_f (sd_nq (b := 1) (by omega) (by omega) e) hp
  | succ m ih =>
    intro d q hd1 hd hq hp
    have hdh : h d ≤ 5 := hb d (by omega)
    have ea : a (nI d).toNatClampNeg = nI (h d) := by rw [nI_clamp (by omega)]; exact ha d (by omega)
    have hi : vp_in (nI d) 6 := vp_in_nI (by omega) (by omega)
    have k26 : post (sd_b (sd_fin h n s (match Nat.ble (h d) n with
      | false => none
      | true => match Nat.beq (h d) d with
        | true => none
        | false => match Nat.ble d n with
          | false => sd_yr h n m (d + 1) q
          | true => match Nat.beq (h d) 0 with
            | true => sd_yr h n m (d + 1) (q + 1)
            | false => sd_yr h n m (d + 1) q))) → wY_isFlat_26 post (wY_isFlat_4 post (sd_b s) (nI n) c sc bn yh a (m + 1)) (sd_b s) (nI q) (nI d) (nI n) c sc bn yh a := by
      intro hz
      unfold wY_isFlat_26
      rw [ea]
      refine ⟨hi, ?_⟩
      rcases sd_bl (h d) n with ⟨e, eb⟩ | ⟨e, eb⟩
      · rw [eb] at hz
        dsimp only at hz
        refine br_f (nI_nlt e (by omega)) ⟨hi, ?_⟩
        rcases sd_bq (h d) d with ⟨e2, eb2⟩ | ⟨e2, eb2⟩
        · rw [eb2] at hz
          exact br_t (congrArg nI e2) hz
        · rw [eb2] at hz
          dsimp only at hz
          refine br_f (sd_nq (by omega) (by omega) e2) ?_
          rcases sd_bl d n with ⟨e3, eb3⟩ | ⟨e3, eb3⟩
          · rw [eb3] at hz
            dsimp only at hz
            refine br_f (nI_nlt e3 (by omega)) ⟨hi, ?_⟩
            rcases sd_bq (h d) 0 with ⟨e4, eb4⟩ | ⟨e4, eb4⟩
            · rw [eb4] at hz
              exact br_t (congrArg nI e4) (nm_r (nI_1 q) (nm_r (nI_1 d) (ih (d + 1) (q + 1) (by omega) (by omega) (by omega) hz)))
            · rw [eb4] at hz
              exact br_f (sd_nq (b := 0) (by omega) (by omega) e4) (nm_r (nI_1 d) (ih (d + 1) q (by omega) (by omega) (by omega) hz))
          · rw [eb3] at hz
            exact br_t (nI_lt e3 (by omega)) (nm_r (nI_1 d) (ih (d + 1) q (by omega) (by omega) (by omega) hz))
      · rw [eb] at hz
        exact br_t (nI_lt e (by omega)) hz
    refine br_f (nI_nlt (b := d) (a := 5) (by omega) (by omega)) ?_
    rw [sd_yr] at hp
    rcases sd_bl d n with ⟨e, eb⟩ | ⟨e, eb⟩
    · refine br_t (nI_le e (by omega)) (k26 ?_)
      rw [eb] at hp ⊢
      exact hp
    · refine br_f (nI_ge e (by omega)) ⟨hi, ?_⟩
      rcases sd_bq (h d) 0 with ⟨e4, eb4⟩ | ⟨e4, eb4⟩
      · refine br_t (ea.trans (congrArg nI e4)) (k26 ?_)
        rw [eb] at hp ⊢
        rw [eb4] at hp ⊢
        exact hp
      · refine br_f (fun z => sd_nq (b := 0) (by omega) (by omega) e4 (ea.symm.trans z)) ?_
        rw [eb] at hp
        rw [eb4] at hp
        exact hp
theorem sd_y4w (hn : n ≤ 5) (ha : ∀ j, j ≤ 5 → a j = nI (h j)) (hb : ∀ j, j ≤ 5 → h j ≤ 5) (s : Bool) {post : Int32 → Prop} (hp : post (sd_b (sd_fY h n s))) : wpY_isFlat post (nI n, c, sc, bn, yh, a) (sd_b s) := by
  refine Exists.intro _ (sd_y4 c sc bn yh hn ha hb s post 5 1 0 (by omega) (by omega) (by omega) ?_)
  have e : sd_fin h n s (sd_yr h n 5 1 0) = sd_fY h n s := by
    unfold sd_fY
    cases sd_yr h n 5 1 0 with
    | none => rfl
    | some r => rfl
  rw [e]
  exact hp
end
theorem sd_y140 {n k : Nat} {h : Nat → Nat} {a : Nat → Int32} (hn : n ≤ 5) (hk : k < 300) (ha : ∀ j, j ≤ 5 → a j = nI (h j)) (x2 : Int32) (t : Nat) (sc bn : Nat → Int32) (post : SY → Prop) (J : Int32 → Int32 → (Nat → Int32) → (Nat → Int32) → (Nat → Int32) → (Nat → Int32) → Prop) : ∀ (m d : Nat) (lh : Nat → Int32), d + m = n + 1 → (∀ lh' : Nat → Int32, (∀ j, j < 6 * k + d → lh' j = lh j) → (∀ e, d ≤ e → e ≤ n → lh' (6 * k + e) = nI (h e)) → J (nI (t + 1)) (nI (k + 1)) sc bn lh' a) → wY_init_140 post J x2 (nI t) (nI n) (nI k) (m + 1) (nI d) sc bn lh a := by
  intro m
  induction m with
  | zero =>
    intro d lh hd hp
    exact br_t (nI_lt (by omega) (by omega)) (nm_r (nI_1 k) (nm_r (nI_1 t) (hp lh (fun _ _ => rfl) (fun e h1 h2 => absurd h1 (by omega)))))
  | succ m ih =>
    intro d lh hd hp
    have e1 : upd lh ((6 * nI k) + nI d).toNatClampNeg (a (nI d).toNatClampNeg) = upd lh (6 * k + d) (nI (h d)) := by
      rw [sd_f6, nI_clamp (by omega), nI_clamp (by omega), ha d (by omega)]
    refine br_f (nI_nlt (by omega) (by omega)) ⟨vp_in_nI (by omega) (by omega), by rw [sd_f6]; exact vp_in_nI (by omega) (by omega), nm_r e1 (nm_r (nI_1 d) (ih (d + 1) _ (by omega) ?_))⟩
    intro lh' h1 h2
    refine hp lh' (fun j hj => (h1 j (by omega)).trans (pk_un (by omega))) (fun e he1 he2 => ?_)
    by_cases z : e = d
    · subst z; exact (h1 (6 * k + e) (by omega)).trans pk_us
    · exact h2 e (by omega) he2
theorem sd_ys {t : Nat} (ht : t < 7776) (x2 x3 f c : Int32) (sc bn lh : Nat → Int32) (post : SY → Prop) (J : Int32 → Int32 → (Nat → Int32) → (Nat → Int32) → (Nat → Int32) → (Nat → Int32) → Prop) (s : Bool) (hs : s = !(x2 == 0)) : ∀ (d : Nat) (a : Nat → Int32), d ≤ 5 → a 0 = 0 → (∀ j, d < j → j ≤ 5 → a j = nI (sd_h 5 t j)) → (∀ a', (∀ j, j ≤ 5 → a' j = nI (sd_h 5 t j)) → wY_init_121 post J x2 x3 (sd_b s) f c sc bn lh a') → wY_init_80 post J x2 x3 f c (d + 1) (nI (t / 6 ^ (5 - d))) (nI d) sc bn lh a := by
  intro d
  induction d with
  | zero =>
    intro a hd h0 hj hp
    have hq := hp a fun j hjn => by
      cases j with
      | zero => exact h0
      | succ j => exact hj (j + 1) (by omega) hjn
    refine br_t (nI_lt (b := 1) (by omega) (by omega)) ?_
    by_cases z : x2 = 0
    · have es : s = false := by rw [hs, z]; rfl
      subst es
      exact br_t z hq
    · have es : s = true := by rw [hs, beq_eq_false_iff_ne.mpr z]; rfl
      subst es
      exact br_f z hq
  | succ d ih =>
    intro a hd h0 hj hp
    have hlt : t / 6 ^ (5 - (d + 1)) < 2 ^ 31 := Nat.lt_of_le_of_lt (Nat.div_le_self _ _) (by omega)
    have hz : ¬ (6 : Int32) = 0 := by decide
    have e1 : upd a (nI (d + 1)).toNatClampNeg (nI (t / 6 ^ (5 - (d + 1))) - nI (t / 6 ^ (5 - (d + 1))) / 6 * 6) = upd a (d + 1) (nI (sd_h 5 t (d + 1))) := by
      rw [nI_clamp (by omega), show (6 : Int32) = nI 6 from rfl, pk_rem hlt (by omega) (by omega)]
      rfl
    have e2 : nI (t / 6 ^ (5 - (d + 1))) / 6 = nI (t / 6 ^ (5 - d)) := by
      rw [show (6 : Int32) = nI 6 from rfl, pk_div hlt (by omega) (by omega), sd_dv 5 t d hd]
    refine br_f (nI_nlt (b := 1) (by omega) (by omega)) ⟨hz, vp_in_nI (by omega) (by omega), nm_r e1 ⟨hz, nm_r e2 (nm_r (pk_m1 d) (ih _ (by omega) ?_ ?_ hp))⟩⟩
    · rw [pk_un (by omega)]; exact h0
    · intro j h1 h2
      by_cases z : j = d + 1
      · subst z; exact pk_us
      · rw [pk_un z]; exact hj j (by omega) h2
theorem sd_yo {n : Nat} (hn : n ≤ 5) (x2 : Int32) (s : Bool) (hs : s = !(x2 == 0)) (hL : (sd_sel (sd_pY n s) 0 7776).length ≤ 273) (sc bn : Nat → Int32) (post : SY → Prop)
    (hp : ∀ a lh : Nat → Int32, sd_hold n (sd_h 5) (sd_sel (sd_pY n s) 0 7776) lh → post (nI n, nI (sd_sel (sd_pY n s) 0 7776).length, sc, bn, lh, a)) :
    ∀ (m t : Nat) (a lh : Nat → Int32), t + m = 7776 → a 0 = 0 → sd_hold n (sd_h 5) (sd_sel (sd_pY n s) 0 t) lh → wY_init_67 post x2 (nI n) (m + 1) (nI t) (nI (sd_sel (sd_pY n s) 0 t).length) sc bn lh a := by
  intro m
  induction m with
  | zero =>
    intro t a lh ht h0 hh
    have e : t = 7776 := by omega
    subst e
    exact br_t (nI_le (a := 7776) (by omega) (by omega)) (hp a lh hh)
  | succ m ih =>
    intro t a lh ht h0 hh
    have hq := sd_ys (t := t) (by omega) x2 (nI t) (nI n) (nI (sd_sel (sd_pY n s) 0 t).length) sc bn lh post (wY_init_67 post x2 (nI n) (m + 1)) s hs 5 a (Nat.le_refl _) h0 (fun j h1 h2 => absurd h1 (by omega))
    rw [Nat.sub_self, Nat.pow_zero, Nat.div_one] at hq
    refine br_f (nI_ge (b := 7776) (by omega) (by omega)) (Exists.intro _ (hq ?_))
    intro a' ha
    have hb : ∀ j, j ≤ 5 → sd_h 5 t j ≤ 5 := fun j _ => sd_hle 5 t j
    have h0' : a' 0 = 0 := ha 0 (Nat.zero_le _)
    unfold wY_init_121
    refine sd_y4w _ sc bn lh hn ha hb s ?_
    have e0 : sd_fY (sd_h 5 t) n s = sd_pY n s t := rfl
    rw [e0]
    cases e1 : sd_pY n s t with
    | false =>
      refine br_t sd_b0 (nm_r (nI_1 t) ?_)
      have := ih (t + 1) a' lh (by omega) h0'
      rw [sd_sel_f e1] at this
      exact this hh
    | true =>
      have hacc := sd_sel_t e1
      have hlen : (sd_sel (sd_pY n s) 0 (t + 1)).length = (sd_sel (sd_pY n s) 0 t).length + 1 := by
        rw [hacc, List.length_append, List.length_singleton]
      have hle : (sd_sel (sd_pY n s) 0 (t + 1)).length ≤ (sd_sel (sd_pY n s) 0 7776).length := by
        have := sd_sel_le (sd_pY n s) (t + 1) m
        rw [show t + 1 + m = 7776 from by omega] at this
        exact this
      refine br_f sd_b1 (br_f (nI_ge (b := 300) (by omega) (by omega)) (Exists.intro _ (sd_y140 hn (by omega) ha x2 t sc bn post _ n 1 lh (by omega) ?_)))
      intro lh' h1 h2
      have := ih (t + 1) a' lh' (by omega) h0'
      rw [hlen, hacc] at this
      exact this (sd_hold_s hn hh h1 h2)
theorem sd_yin {n : Nat} (hn : n ≤ 5) (p1 : Int32) (s : Bool) (hs : s = !(p1 == 0)) (hL : (sd_sel (sd_pY n s) 0 7776).length ≤ 273) {post : SY → Prop}
    (hp : ∀ a lh : Nat → Int32, sd_hold n (sd_h 5) (sd_sel (sd_pY n s) 0 7776) lh → post (nI n, nI (sd_sel (sd_pY n s) 0 7776).length, fun _ => 0, fun _ => 0, lh, a)) :
    ∃ n67 : Nat, wY_init_67 post p1 (nI n) n67 0 0 (fun _ => 0) (fun _ => 0) (fun _ => 0) (fun _ => 0) :=
  Exists.intro _ (sd_yo hn p1 s hs hL (fun _ => 0) (fun _ => 0) post hp 7776 0 (fun _ => 0) (fun _ => 0) (Nat.zero_add _) rfl (fun i v hv => by simp only [sd_sel, List.getElem?_nil] at hv; exact nomatch hv))
end
section
theorem sd_z0 : -1000 ≤ (0 : Int32).toInt ∧ (0 : Int32).toInt ≤ 1000 := by decide
theorem sd_dgl (n i j : Nat) : ∀ m d : Nat, sd_dg n i j m d = true → ∀ e, d ≤ e → e < d + m → sd_h n i e = sd_h 5 j e := by
  intro m
  induction m with
  | zero => intro d _ e h1 h2; exact absurd h1 (by omega)
  | succ m ih =>
    intro d h e h1 h2
    rw [sd_dg] at h
    rcases sd_bq (sd_h n i d) (sd_h 5 j d) with ⟨q, qb⟩ | ⟨q, qb⟩
    · rw [qb] at h
      by_cases z : e = d
      · subst z; exact q
      · exact ih (d + 1) h e (by omega) (by omega)
    · rw [qb] at h
      exact absurd h Bool.false_ne_true
theorem sd_cml (n : Nat) : ∀ (L L' : List Nat) (m : Nat), sd_cmp n L L' m = true → L'.length = L.length ∧ L.length ≤ m ∧ ∀ i v : Nat, L[i]? = some v → ∃ w : Nat, L'[i]? = some w ∧ ∀ d, 1 ≤ d → d ≤ n → sd_h n v d = sd_h 5 w d := by
  intro L
  induction L with
  | nil =>
    intro L' m h
    cases L' with
    | nil => exact ⟨rfl, Nat.zero_le _, fun i v hv => by simp only [List.getElem?_nil] at hv; exact nomatch hv⟩
    | cons j l' => simp only [sd_cmp] at h; exact absurd h Bool.false_ne_true
  | cons a l ih =>
    intro L' m h
    cases L' with
    | nil => simp only [sd_cmp] at h; exact absurd h Bool.false_ne_true
    | cons j l' =>
      cases m with
      | zero => simp only [sd_cmp] at h; exact absurd h Bool.false_ne_true
      | succ m =>
        rw [sd_cmp] at h
        cases e : sd_dg n a j n 1 with
        | false => rw [e] at h; exact absurd h Bool.false_ne_true
        | true =>
          rw [e] at h
          obtain ⟨h1, h2, h3⟩ := ih l' m h
          refine ⟨by rw [List.length_cons, List.length_cons, h1], by rw [List.length_cons]; omega, fun i v hv => ?_⟩
          cases i with
          | zero =>
            rw [List.getElem?_cons_zero] at hv
            cases hv
            exact ⟨j, List.getElem?_cons_zero, fun d hd1 hd2 => sd_dgl n a j n 1 e d hd1 (by omega)⟩
          | succ i =>
            rw [List.getElem?_cons_succ] at hv
            obtain ⟨w, hw, hd⟩ := h3 i v hv
            exact ⟨w, by rw [List.getElem?_cons_succ]; exact hw, hd⟩
theorem sd_tb {n L k : Nat} {s : Bool} (h : sd_cmp n (sd_ch (sd_pX n s) L k []) (sd_ch (sd_pY n s) 36 216 []) 273 = true) (e : k * L = (n + 1) ^ n) : sd_cmp n (sd_sel (sd_pX n s) 0 ((n + 1) ^ n)) (sd_sel (sd_pY n s) 0 7776) 273 = true := by
  rw [sd_ch_sel, sd_ch_sel, List.append_nil, List.append_nil, e, show 216 * 36 = 7776 from rfl] at h
  exact h
theorem sd_tab {n : Nat} (h1 : 1 ≤ n) (h5 : n ≤ 5) (s : Bool) : sd_cmp n (sd_sel (sd_pX n s) 0 ((n + 1) ^ n)) (sd_sel (sd_pY n s) 0 7776) 273 = true := by
  have h : n = 1 ∨ n = 2 ∨ n = 3 ∨ n = 4 ∨ n = 5 := by omega
  rcases h with rfl | rfl | rfl | rfl | rfl
  · cases s
    · exact sd_tb sd_t1f (by decide)
    · exact sd_tb sd_t1t (by decide)
  · cases s
    · exact sd_tb sd_t2f (by decide)
    · exact sd_tb sd_t2t (by decide)
  · cases s
    · exact sd_tb sd_t3f (by decide)
    · exact sd_tb sd_t3t (by decide)
  · cases s
    · exact sd_tb sd_t4f (by decide)
    · exact sd_tb sd_t4t (by decide)
  · cases s
    · exact sd_tb sd_t5f (by decide)
    · exact sd_tb sd_t5t (by decide)
theorem sd_ini {n : Nat} (h1 : 1 ≤ n) (h5 : n ≤ 5) (p1 : Int32) {post : SX → Prop} (hY : ∀ u : SX, (∃ n67 : Nat, wY_init_67 (fun v => i_Rel 2 u v) p1 (nI n) n67 0 0 (fun _ => 0) (fun _ => 0) (fun _ => 0) (fun _ => 0)) → post u) :
    wX_init_62 post p1 (nI n) 0 0 0 (fun _ => 0) (fun _ => 0) (fun _ => 0) (fun _ => 0) := by
  obtain ⟨e1, e2, e3⟩ := sd_cml n _ _ _ (sd_tab h1 h5 (!(p1 == 0)))
  refine sd_xin h5 p1 _ rfl e2 (fun a lh hx => hY _ (sd_yin h5 p1 _ rfl (by omega) (fun a' yh hy => ?_)))
  refine ⟨n, _, _, _, _, a, lh, yh, a', rfl, by rw [e1], h1, h5, e2, ?_, fun j => sd_z0⟩
  intro t d ht hd1 hd2
  obtain ⟨w, hw, hd⟩ := e3 t _ (List.getElem?_eq_getElem ht)
  refine ⟨_, sd_hle n _ d, hx t _ (List.getElem?_eq_getElem ht) d hd1 hd2, ?_⟩
  rw [hd d hd1 hd2]
  exact hy t w hw d hd1 hd2
theorem i_vc0 (k0 : Int32) (k1 : Int32) : wpX_init (fun u => wpY_init (fun v => i_Rel 2 u v) k0 k1) k0 k1 := by
  by_cases h1 : 1 ≤ k0
  · by_cases h5 : k0 ≤ 5
    · have h0 : ¬ k0 < 0 := fun z => absurd (Int32.lt_of_le_of_lt h1 z) (by decide)
      obtain ⟨n, hn, rfl⟩ := nI_of2 (M := 5) (n := 5) (by decide) h0 h5
      have hn1 : 1 ≤ n := (nI_leI (a := 1) (by omega) (by omega)).mp h1
      exact br_t h1 (br_t h5 (sd_ini hn1 hn k1 (fun u h => br_t h1 (br_t h5 h))))
    · exact br_t h1 (br_f h5 (sd_ini (n := 5) (by omega) (by omega) k1 (fun u h => br_t h1 (br_f h5 h))))
  · exact br_f h1 (sd_ini (n := 1) (by omega) (by omega) k1 (fun u h => br_f h1 h))
end
