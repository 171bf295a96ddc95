theorem pX0_sum {σ : ss_S} {q n : Nat} (hF : FrC σ q n) {v w : la_W} (hv : la_V q n v) (hw : la_V q n w) {k : Nat} (hk : k ≤ q) {post : Int32 → ss_S → Prop} (hp : post (nI (la_val q (la_ad q v w k) n)) σ) : wX0_sum (nI (la_val q v n)) (nI (la_val q w n)) (nI k) σ post := by
  have hq := hF.1
  have h6 := hq.n6
  have h5 := hq.five
  have hq0 := hq.pos
  have hpw := la_pow_le hq
  have bv := la_val_lt (n := n) (fun c _ => hv.1 c)
  have bw := la_val_lt (n := n) (fun c _ => hw.1 c)
  have dv : ∀ i, i < n → la_val q v n / q ^ i % q = v (n - 1 - i) := fun i hi => by
    have e := congrFun (la_dig_val hv) (n - 1 - i)
    unfold la_dig at e
    rwa [if_pos (by omega), show n - 1 - (n - 1 - i) = i by omega] at e
  have dw : ∀ i, i < n → la_val q w n / q ^ i % q = w (n - 1 - i) := fun i hi => by
    have e := congrFun (la_dig_val hw) (n - 1 - i)
    unfold la_dig at e
    rwa [if_pos (by omega), show n - 1 - (n - 1 - i) = i by omega] at e
  have key : ∀ d i, i + d = n → lX0_sum_15 (nI k) post (fun x4_1 _ _ _ _ σ_1 => post x4_1 σ_1) (d + 1) (nI (la_low q n (la_ad q v w k) i)) (nI (q ^ i)) (nI (la_val q v n / q ^ i)) (nI (la_val q w n / q ^ i)) (nI i) σ := by
    intro d
    induction d with
    | zero =>
      intro i hi
      refine And.intro (fun _ => ?_) (fun h => absurd (by rw [hF.2.2.1]; exact nI_le (by omega) (by omega)) h)
      rw [show i = n by omega, la_low_all]; exact hp
    | succ d ih =>
      intro i hi
      refine And.intro (fun h => absurd h (by rw [hF.2.2.1]; exact nI_ge (by omega) (by omega))) (fun _ => ?_)
      have b1 : la_val q v n / q ^ i < 2 ^ 31 := Nat.lt_of_le_of_lt (Nat.div_le_self _ _) (by omega)
      have b2 : la_val q w n / q ^ i < 2 ^ 31 := Nat.lt_of_le_of_lt (Nat.div_le_self _ _) (by omega)
      have b3 := hv.1 (n - 1 - i)
      have b4 : k * w (n - 1 - i) ≤ 5 * 5 := Nat.mul_le_mul (by omega) (by have := hw.1 (n - 1 - i); omega)
      have hqn := nI_q0 hq0 (show q < 2 ^ 31 by omega)
      rw [hF.2.1]
      refine And.intro hqn (And.intro hqn (And.intro hqn (fun z ez => And.intro hqn (And.intro hqn ?_))))
      subst ez
      rw [pk_rem b1 hq0 (by omega), pk_rem b2 hq0 (by omega), dv i (by omega), dw i (by omega), pk_mul, nI_add, pk_rem (by omega) hq0 (by omega), pk_mul, nI_add, pk_mul, pk_div b1 hq0 (by omega), pk_div b2 hq0 (by omega), nI_1, Nat.div_div_eq_div_mul, Nat.div_div_eq_div_mul, ← Nat.pow_succ]
      exact ih (i + 1) (by omega)
  have := key n 0 (by omega)
  simp only [Nat.pow_zero, Nat.div_one] at this
  exact ⟨n + 1, this⟩
theorem fb_sm_rev {f : Nat → Nat} {n : Nat} : ∀ k, k ≤ n → fb_sm f (n - k) + fb_sm (fun j => f (n - 1 - j)) k = fb_sm f n := by
  intro k
  induction k with
  | zero => intro _; simp [fb_sm]
  | succ k ih =>
    intro hk
    rw [fb_sm_succ, ← ih (by omega), show n - k = (n - (k + 1)) + 1 by omega, fb_sm_succ, show n - 1 - k = n - (k + 1) by omega]
    omega
theorem pX0_product {σ : ss_S} {q n : Nat} (hF : FrC σ q n) {v w : la_W} (hv : la_V q n v) (hw : la_V q n w) {post : Int32 → ss_S → Prop} (hp : post (nI (fb_sm (fun c => v c * w c) n % q)) σ) : wX0_product (nI (la_val q v n)) (nI (la_val q w n)) σ post := by
  have hq := hF.1
  have h6 := hq.n6
  have h5 := hq.five
  have hq0 := hq.pos
  have hpw := la_pow_le hq
  have bv := la_val_lt (n := n) (fun c _ => hv.1 c)
  have bw := la_val_lt (n := n) (fun c _ => hw.1 c)
  have dv : ∀ i, i < n → la_val q v n / q ^ i % q = v (n - 1 - i) := fun i hi => by
    have e := congrFun (la_dig_val hv) (n - 1 - i)
    unfold la_dig at e
    rwa [if_pos (by omega), show n - 1 - (n - 1 - i) = i by omega] at e
  have dw : ∀ i, i < n → la_val q w n / q ^ i % q = w (n - 1 - i) := fun i hi => by
    have e := congrFun (la_dig_val hw) (n - 1 - i)
    unfold la_dig at e
    rwa [if_pos (by omega), show n - 1 - (n - 1 - i) = i by omega] at e
  have hsum : fb_sm (fun c => v c * w c) n ≤ n * (5 * 5) := fb_sm_bound (fun c _ => Nat.mul_le_mul (by have := hv.1 c; omega) (by have := hw.1 c; omega))
  have hrev := fb_sm_rev (f := fun c => v c * w c) (n := n) n (Nat.le_refl n)
  rw [Nat.sub_self] at hrev
  have hrev' : fb_sm (fun j => v (n - 1 - j) * w (n - 1 - j)) n = fb_sm (fun c => v c * w c) n := by
    have e0 : fb_sm (fun c => v c * w c) 0 = 0 := rfl
    rw [e0, Nat.zero_add] at hrev; exact hrev
  have key : ∀ d i, i + d = n → lX0_product_11 post (fun x3_1 _ _ _ σ_1 => (¬ (σ_1 1 0) = 0 ∧ post (x3_1 - x3_1 / (σ_1 1 0) * (σ_1 1 0)) σ_1)) (d + 1) (nI (fb_sm (fun j => v (n - 1 - j) * w (n - 1 - j)) i)) (nI (la_val q v n / q ^ i)) (nI (la_val q w n / q ^ i)) (nI i) σ := by
    intro d
    induction d with
    | zero =>
      intro i hi
      refine And.intro (fun _ => ?_) (fun h => absurd (by rw [hF.2.2.1]; exact nI_le (by omega) (by omega)) h)
      dsimp only
      rw [show i = n by omega, hrev', hF.2.1, pk_rem (by omega) hq0 (by omega)]
      exact ⟨nI_q0 hq0 (by omega), hp⟩
    | succ d ih =>
      intro i hi
      refine And.intro (fun h => absurd h (by rw [hF.2.2.1]; exact nI_ge (by omega) (by omega))) (fun _ => ?_)
      have b1 : la_val q v n / q ^ i < 2 ^ 31 := Nat.lt_of_le_of_lt (Nat.div_le_self _ _) (by omega)
      have b2 : la_val q w n / q ^ i < 2 ^ 31 := Nat.lt_of_le_of_lt (Nat.div_le_self _ _) (by omega)
      have hqn := nI_q0 hq0 (show q < 2 ^ 31 by omega)
      rw [hF.2.1]
      refine And.intro hqn (And.intro hqn (And.intro hqn (And.intro hqn ?_)))
      rw [pk_rem b1 hq0 (by omega), pk_rem b2 hq0 (by omega), dv i (by omega), dw i (by omega), pk_mul, nI_add, pk_div b1 hq0 (by omega), pk_div b2 hq0 (by omega), nI_1, Nat.div_div_eq_div_mul, Nat.div_div_eq_div_mul, ← Nat.pow_succ]
      exact ih (i + 1) (by omega)
  have := key n 0 (by omega)
  simp only [Nat.pow_zero, Nat.div_one] at this
  exact ⟨n + 1, this⟩
