section
theorem pk_us {f : Nat → Int32} {k : Nat} {x : Int32} : upd f k x k = x := if_pos rfl
theorem pk_un {f : Nat → Int32} {k j : Nat} {x : Int32} (h : j ≠ k) : upd f k x j = f j := if_neg h
theorem pk_sub {a b : Nat} (h : b ≤ a) : nI a - nI b = nI (a - b) := by
  obtain ⟨c, rfl⟩ : ∃ c, a = c + b := ⟨a - b, by omega⟩
  rw [← nI_add, Int32.add_sub_cancel, Nat.add_sub_cancel]
theorem pk_m1 (n : Nat) : nI (n + 1) + (-1) = nI n := by
  rw [← nI_1, Int32.add_assoc, show (1 : Int32) + (-1) = 0 from rfl, Int32.add_zero]
theorem pk_mul (a b : Nat) : nI a * nI b = nI (a * b) := (Int32.ofNat_mul a b).symm
theorem pk_div {a d : Nat} (ha : a < 2 ^ 31) (h0 : 0 < d) (hd : d < 2 ^ 31) : nI a / nI d = nI (a / d) := by
  apply Int32.toInt_inj.mp
  rw [lg_idiv_nonneg (by rw [nI_toInt ha]; omega) (by rw [nI_toInt hd]; omega), nI_toInt ha, nI_toInt hd, nI_toInt (Nat.lt_of_le_of_lt (Nat.div_le_self a d) ha)]
  first | rfl | exact (Int.natCast_ediv _ _).symm
theorem pk_rem {a d : Nat} (ha : a < 2 ^ 31) (h0 : 0 < d) (hd : d < 2 ^ 31) : nI a - nI a / nI d * nI d = nI (a % d) := by
  rw [pk_div ha h0 hd, pk_mul, pk_sub (Nat.div_mul_le_self a d)]
  exact congrArg nI (by have := Nat.div_add_mod' a d; omega)
theorem pk_le {x y : Int32} {A B : Prop} (a b : Nat) (f : a ≤ b → A) (g : b < a → B) (hx : x = nI a := by rfl) (hy : y = nI b := by rfl) (ha : a < 2 ^ 31 := by omega) (hb : b < 2 ^ 31 := by omega) : (x ≤ y → A) ∧ (¬ x ≤ y → B) := by
  subst hx hy
  rw [nI_leI ha hb]
  exact ⟨f, fun z => g (by omega)⟩
theorem pk_lt {x y : Int32} {A B : Prop} (a b : Nat) (f : a < b → A) (g : b ≤ a → B) (hx : x = nI a := by rfl) (hy : y = nI b := by rfl) (ha : a < 2 ^ 31 := by omega) (hb : b < 2 ^ 31 := by omega) : (x < y → A) ∧ (¬ x < y → B) := by
  subst hx hy
  rw [nI_ltI ha hb]
  exact ⟨f, fun z => g (by omega)⟩
theorem pk_eq {x y : Int32} {A B : Prop} (a b : Nat) (f : a = b → A) (g : a ≠ b → B) (hx : x = nI a := by rfl) (hy : y = nI b := by rfl) (ha : a < 2 ^ 31 := by omega) (hb : b < 2 ^ 31 := by omega) : (x = y → A) ∧ (¬ x = y → B) := by
  subst hx hy
  rw [nI_eq ha hb]
  exact ⟨f, g⟩
theorem pk_in {x : Int32} (n N : Nat) (h : n < N) (hx : x = nI n := by rfl) (hN : N < 2 ^ 31 := by omega) : vp_in x N := by
  subst hx
  exact vp_in_nI h hN
theorem pk_cl {x : Int32} (n : Nat) (hx : x = nI n := by rfl) (h : n < 2 ^ 31 := by omega) : x.toNatClampNeg = n := by
  subst hx
  exact nI_clamp h
theorem pk_vb (z : Int32) : vp_nar .byte z.toInt8.toInt32 = z.toInt8.toInt32 := by rw [vp_nar_byte]; simp
/-- the head of word j in trial t: digits in base n + 1, word 1 the highest -/
def sd_h (n t : Nat) : Nat → Nat
  | 0 => 0
  | j + 1 => t / (n + 1) ^ (n - (j + 1)) % (n + 1)
/-- going up from a comes to g in at most k steps -/
def sd_c (h : Nat → Nat) (g : Nat) : Nat → Nat → Bool
  | 0, a => Nat.beq a g
  | k + 1, a => match Nat.beq a g with
    | true => true
    | false => sd_c h g k (h a)
/-- the m words from k on come to g -/
def sd_in (h : Nat → Nat) (g n : Nat) : Nat → Nat → Bool
  | 0, _ => true
  | m + 1, k => match sd_c h g n k with
    | false => false
    | true => sd_in h g n m (k + 1)
/-- the m words from d on have no arc that covers a word that does not come to its head -/
def sd_fl (h : Nat → Nat) (n : Nat) : Nat → Nat → Bool
  | 0, _ => true
  | m + 1, d => match Nat.ble d (h d) with
    | true => match sd_in h (h d) n (h d - (d + 1)) (d + 1) with
      | false => false
      | true => sd_fl h n m (d + 1)
    | false => match sd_in h (h d) n (d - (h d + 1)) (h d + 1) with
      | false => false
      | true => sd_fl h n m (d + 1)
/-- the words with head 0 among the m from d on -/
def sd_rt (h : Nat → Nat) : Nat → Nat → Nat → Nat
  | 0, _, c => c
  | m + 1, d, c => match Nat.beq (h d) 0 with
    | true => sd_rt h m (d + 1) (c + 1)
    | false => sd_rt h m (d + 1) c
/-- what the class accepts -/
def sd_pX (n : Nat) (s : Bool) (t : Nat) : Bool :=
  match sd_in (sd_h n t) 0 n n 1 with
  | false => false
  | true => match sd_fl (sd_h n t) n n 1 with
    | false => false
    | true => match s with
      | false => true
      | true => Nat.beq (sd_rt (sd_h n t) n 1 0) 1
/-- the reference's first loop: none if it refuses, else the words with head 0 -/
def sd_yr (h : Nat → Nat) (n : Nat) : Nat → Nat → Nat → Option Nat
  | 0, _, c => some c
  | m + 1, d, c => match (match Nat.ble d n with | true => true | false => Nat.beq (h d) 0) with
    | false => none
    | true => match Nat.ble (h d) n with
      | false => none
      | true => match Nat.beq (h d) d with
        | true => none
        | false => match Nat.ble d n with
          | false => sd_yr h n m (d + 1) c
          | true => match Nat.beq (h d) 0 with
            | true => sd_yr h n m (d + 1) (c + 1)
            | false => sd_yr h n m (d + 1) c
def sd_cv (hd d k : Nat) : Bool :=
  match Nat.ble k hd with
  | true => match Nat.ble k d with | true => false | false => match Nat.ble hd k with | true => false | false => true
  | false => match Nat.ble d k with
    | false => true
    | true => match Nat.ble k d with | true => false | false => match Nat.ble hd k with | true => false | false => true
def sd_yk (h : Nat → Nat) (d : Nat) : Nat → Nat → Bool
  | 0, _ => true
  | m + 1, k => match sd_cv (h d) d k with
    | false => sd_yk h d m (k + 1)
    | true => match sd_c h (h d) 5 k with
      | false => false
      | true => sd_yk h d m (k + 1)
def sd_yd (h : Nat → Nat) (n : Nat) : Nat → Nat → Bool
  | 0, _ => true
  | m + 1, d => match sd_c h 0 5 d with
    | false => false
    | true => match sd_yk h d n 1 with
      | false => false
      | true => sd_yd h n m (d + 1)
/-- what the reference accepts -/
def sd_fY (h : Nat → Nat) (n : Nat) (s : Bool) : Bool :=
  match sd_yr h n 5 1 0 with
  | none => false
  | some r => match s with
    | false => sd_yd h n n 1
    | true => match Nat.beq r 1 with
      | false => false
      | true => sd_yd h n n 1
def sd_pY (n : Nat) (s : Bool) (t : Nat) : Bool := sd_fY (sd_h 5 t) n s
/-- the accepted ones of the m numbers from b on -/
def sd_sel (p : Nat → Bool) (b : Nat) : Nat → List Nat
  | 0 => []
  | m + 1 => sd_sel p b m ++ (match p (b + m) with | true => [b + m] | false => [])
def sd_dn (p : Nat → Bool) (b : Nat) : Nat → List Nat → List Nat
  | 0, acc => acc
  | m + 1, acc => match p (b + m) with
    | true => sd_dn p b m ((b + m) :: acc)
    | false => sd_dn p b m acc
def sd_ch (p : Nat → Bool) (L : Nat) : Nat → List Nat → List Nat
  | 0, acc => acc
  | k + 1, acc => sd_ch p L k (sd_dn p (k * L) L acc)
theorem sd_dn_sel (p : Nat → Bool) (b : Nat) : ∀ (m : Nat) (acc : List Nat), sd_dn p b m acc = sd_sel p b m ++ acc := by
  intro m
  induction m with
  | zero => intro acc; rfl
  | succ m ih =>
    intro acc
    simp only [sd_dn, sd_sel]
    cases p (b + m)
    · simp only [ih, List.append_nil]
    · simp only [ih, List.append_assoc, List.singleton_append]
theorem sd_sel_add (p : Nat → Bool) (b a : Nat) : ∀ m : Nat, sd_sel p b (a + m) = sd_sel p b a ++ sd_sel p (b + a) m := by
  intro m
  induction m with
  | zero => simp only [Nat.add_zero, sd_sel, List.append_nil]
  | succ m ih =>
    rw [← Nat.add_assoc]
    simp only [sd_sel, ih, List.append_assoc, Nat.add_assoc]
theorem sd_ch_sel (p : Nat → Bool) (L : Nat) : ∀ (k : Nat) (acc : List Nat), sd_ch p L k acc = sd_sel p 0 (k * L) ++ acc := by
  intro k
  induction k with
  | zero => intro acc; simp only [sd_ch, Nat.zero_mul, sd_sel, List.nil_append]
  | succ k ih =>
    intro acc
    rw [Nat.succ_mul, sd_sel_add, Nat.zero_add]
    simp only [sd_ch, ih, sd_dn_sel, List.append_assoc]
/-- the words d, d + 1 .. (m of them) have the same heads in the class's trial i and the reference's number j -/
def sd_dg (n i j : Nat) : Nat → Nat → Bool
  | 0, _ => true
  | m + 1, d => match Nat.beq (sd_h n i d) (sd_h 5 j d) with
    | false => false
    | true => sd_dg n i j m (d + 1)
def sd_cmp (n : Nat) : List Nat → List Nat → Nat → Bool
  | [], [], _ => true
  | i :: l, j :: l', m + 1 => match sd_dg n i j n 1 with
    | false => false
    | true => sd_cmp n l l' m
  | _, _, _ => false
end
section
theorem sd_t1f : sd_cmp 1 (sd_ch (sd_pX 1 false) 2 1 []) (sd_ch (sd_pY 1 false) 36 216 []) 273 = true := by decide +kernel
theorem sd_t1t : sd_cmp 1 (sd_ch (sd_pX 1 true) 2 1 []) (sd_ch (sd_pY 1 true) 36 216 []) 273 = true := by decide +kernel
theorem sd_t2f : sd_cmp 2 (sd_ch (sd_pX 2 false) 3 3 []) (sd_ch (sd_pY 2 false) 36 216 []) 273 = true := by decide +kernel
theorem sd_t2t : sd_cmp 2 (sd_ch (sd_pX 2 true) 3 3 []) (sd_ch (sd_pY 2 true) 36 216 []) 273 = true := by decide +kernel
theorem sd_t3f : sd_cmp 3 (sd_ch (sd_pX 3 false) 8 8 []) (sd_ch (sd_pY 3 false) 36 216 []) 273 = true := by decide +kernel
theorem sd_t3t : sd_cmp 3 (sd_ch (sd_pX 3 true) 8 8 []) (sd_ch (sd_pY 3 true) 36 216 []) 273 = true := by decide +kernel
theorem sd_t4f : sd_cmp 4 (sd_ch (sd_pX 4 false) 25 25 []) (sd_ch (sd_pY 4 false) 36 216 []) 273 = true := by decide +kernel
theorem sd_t4t : sd_cmp 4 (sd_ch (sd_pX 4 true) 25 25 []) (sd_ch (sd_pY 4 true) 36 216 []) 273 = true := by decide +kernel
theorem sd_t5f : sd_cmp 5 (sd_ch (sd_pX 5 false) 36 216 []) (sd_ch (sd_pY 5 false) 36 216 []) 273 = true := by decide +kernel
theorem sd_t5t : sd_cmp 5 (sd_ch (sd_pX 5 true) 36 216 []) (sd_ch (sd_pY 5 true) 36 216 []) 273 = true := by decide +kernel
end
