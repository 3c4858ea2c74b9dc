theorem sd_z0 : -1000 ≤ (0 : Int32).toInt ∧ (0 : Int32).toInt ≤ 1000 := by decide
theorem sd_dgl (n i j : Nat) : ∀ m d : Nat, sd_dg n i j m d = true → ∀ e, d ≤ e → e < d + m → sd_h n i e = sd_h 5 j e := by
  intro m
  induction m with
  | zero => intro d _ e h1 h2; exact absurd h1 (by omega)
  | succ m ih =>
    intro d h e h1 h2
    rw [sd_dg] at h
    rcases sd_bq (sd_h n i d) (sd_h 5 j d) with ⟨q, qb⟩ | ⟨q, qb⟩
    · rw [qb] at h
      by_cases z : e = d
      · subst z; exact q
      · exact ih (d + 1) h e (by omega) (by omega)
    · rw [qb] at h
      exact absurd h Bool.false_ne_true
theorem sd_cml (n : Nat) : ∀ (L L' : List Nat) (m : Nat), sd_cmp n L L' m = true → L'.length = L.length ∧ L.length ≤ m ∧ ∀ i v : Nat, L[i]? = some v → ∃ w : Nat, L'[i]? = some w ∧ ∀ d, 1 ≤ d → d ≤ n → sd_h n v d = sd_h 5 w d := by
  intro L
  induction L with
  | nil =>
    intro L' m h
    cases L' with
    | nil => exact ⟨rfl, Nat.zero_le _, fun i v hv => by simp only [List.getElem?_nil] at hv; exact nomatch hv⟩
    | cons j l' => simp only [sd_cmp] at h; exact absurd h Bool.false_ne_true
  | cons a l ih =>
    intro L' m h
    cases L' with
    | nil => simp only [sd_cmp] at h; exact absurd h Bool.false_ne_true
    | cons j l' =>
      cases m with
      | zero => simp only [sd_cmp] at h; exact absurd h Bool.false_ne_true
      | succ m =>
        rw [sd_cmp] at h
        cases e : sd_dg n a j n 1 with
        | false => rw [e] at h; exact absurd h Bool.false_ne_true
        | true =>
          rw [e] at h
          obtain ⟨h1, h2, h3⟩ := ih l' m h
          refine ⟨by rw [List.length_cons, List.length_cons, h1], by rw [List.length_cons]; omega, fun i v hv => ?_⟩
          cases i with
          | zero =>
            rw [List.getElem?_cons_zero] at hv
            cases hv
            exact ⟨j, List.getElem?_cons_zero, fun d hd1 hd2 => sd_dgl n a j n 1 e d hd1 (by omega)⟩
          | succ i =>
            rw [List.getElem?_cons_succ] at hv
            obtain ⟨w, hw, hd⟩ := h3 i v hv
            exact ⟨w, by rw [List.getElem?_cons_succ]; exact hw, hd⟩
theorem sd_tb {n L k : Nat} {s : Bool} (h : sd_cmp n (sd_ch (sd_pX n s) L k []) (sd_ch (sd_pY n s) 36 216 []) 273 = true) (e : k * L = (n + 1) ^ n) : sd_cmp n (sd_sel (sd_pX n s) 0 ((n + 1) ^ n)) (sd_sel (sd_pY n s) 0 7776) 273 = true := by
  rw [sd_ch_sel, sd_ch_sel, List.append_nil, List.append_nil, e, show 216 * 36 = 7776 from rfl] at h
  exact h
theorem sd_tab {n : Nat} (h1 : 1 ≤ n) (h5 : n ≤ 5) (s : Bool) : sd_cmp n (sd_sel (sd_pX n s) 0 ((n + 1) ^ n)) (sd_sel (sd_pY n s) 0 7776) 273 = true := by
  have h : n = 1 ∨ n = 2 ∨ n = 3 ∨ n = 4 ∨ n = 5 := by omega
  rcases h with rfl | rfl | rfl | rfl | rfl
  · cases s
    · exact sd_tb sd_t1f (by decide)
    · exact sd_tb sd_t1t (by decide)
  · cases s
    · exact sd_tb sd_t2f (by decide)
    · exact sd_tb sd_t2t (by decide)
  · cases s
    · exact sd_tb sd_t3f (by decide)
    · exact sd_tb sd_t3t (by decide)
  · cases s
    · exact sd_tb sd_t4f (by decide)
    · exact sd_tb sd_t4t (by decide)
  · cases s
    · exact sd_tb sd_t5f (by decide)
    · exact sd_tb sd_t5t (by decide)
theorem sd_ini {n : Nat} (h1 : 1 ≤ n) (h5 : n ≤ 5) (p1 : Int32) {post : SX → Prop} (hY : ∀ u : SX, (∃ n67 : Nat, wY_init_67 (fun v => i_Rel 2 u v) p1 (nI n) n67 0 0 (fun _ => 0) (fun _ => 0) (fun _ => 0) (fun _ => 0)) → post u) :
    wX_init_62 post p1 (nI n) 0 0 0 (fun _ => 0) (fun _ => 0) (fun _ => 0) (fun _ => 0) := by
  obtain ⟨e1, e2, e3⟩ := sd_cml n _ _ _ (sd_tab h1 h5 (!(p1 == 0)))
  refine sd_xin h5 p1 _ rfl e2 (fun a lh hx => hY _ (sd_yin h5 p1 _ rfl (by omega) (fun a' yh hy => ?_)))
  refine ⟨n, _, _, _, _, a, lh, yh, a', rfl, by rw [e1], h1, h5, e2, ?_, fun j => sd_z0⟩
  intro t d ht hd1 hd2
  obtain ⟨w, hw, hd⟩ := e3 t _ (List.getElem?_eq_getElem ht)
  refine ⟨_, sd_hle n _ d, hx t _ (List.getElem?_eq_getElem ht) d hd1 hd2, ?_⟩
  rw [hd d hd1 hd2]
  exact hy t w hw d hd1 hd2
theorem i_vc0 (k0 : Int32) (k1 : Int32) : wpX_init (fun u => wpY_init (fun v => i_Rel 2 u v) k0 k1) k0 k1 := by
  by_cases h1 : 1 ≤ k0
  · by_cases h5 : k0 ≤ 5
    · have h0 : ¬ k0 < 0 := fun z => absurd (Int32.lt_of_le_of_lt h1 z) (by decide)
      obtain ⟨n, hn, rfl⟩ := nI_of2 (M := 5) (n := 5) (by decide) h0 h5
      have hn1 : 1 ≤ n := (nI_leI (a := 1) (by omega) (by omega)).mp h1
      exact br_t h1 (br_t h5 (sd_ini hn1 hn k1 (fun u h => br_t h1 (br_t h5 h))))
    · exact br_t h1 (br_f h5 (sd_ini (n := 5) (by omega) (by omega) k1 (fun u h => br_t h1 (br_f h5 h))))
  · exact br_f h1 (sd_ini (n := 1) (by omega) (by omega) k1 (fun u h => br_f h1 h))
