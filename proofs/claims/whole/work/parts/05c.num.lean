def la_dig (q n x : Nat) : la_W := fun c => if c < n then x / q ^ (n - 1 - c) % q else 0
def la_val (q : Nat) (v : la_W) : Nat → Nat
  | 0 => 0
  | n + 1 => la_val q v n * q + v n
theorem la_val_cong {q : Nat} {v w : la_W} : ∀ {n : Nat}, (∀ c, c < n → v c = w c) → la_val q v n = la_val q w n := by
  intro n
  induction n with
  | zero => intro _; rfl
  | succ n ih => intro h; simp only [la_val]; rw [ih (fun c hc => h c (by omega)), h n (by omega)]
theorem la_val_lt {q : Nat} {v : la_W} : ∀ {n : Nat}, (∀ c, c < n → v c < q) → la_val q v n < q ^ n := by
  intro n
  induction n with
  | zero => intro _; simp [la_val]
  | succ n ih =>
    intro h
    have h1 := ih (fun c hc => h c (by omega))
    have h2 := h n (by omega)
    simp only [la_val, Nat.pow_succ]
    have : (la_val q v n + 1) * q ≤ q ^ n * q := Nat.mul_le_mul_right q h1
    rw [Nat.add_mul, Nat.one_mul] at this
    omega
theorem la_val_pre {q : Nat} {v : la_W} : ∀ (d k : Nat), (∀ c, c < k + d → v c < q) → la_val q v (k + d) / q ^ d = la_val q v k := by
  intro d
  induction d with
  | zero => intro k _; simp
  | succ d ih =>
    intro k h
    have hk := h (k + d) (by omega)
    have e : la_val q v (k + (d + 1)) / q = la_val q v (k + d) := by
      show (la_val q v (k + d) * q + v (k + d)) / q = _
      rw [Nat.mul_comm, Nat.mul_add_div (by omega), Nat.div_eq_of_lt hk, Nat.add_zero]
    rw [Nat.pow_succ, Nat.mul_comm, ← Nat.div_div_eq_div_mul, e]
    exact ih k (fun c hc => h c (by omega))
theorem la_dig_val {q n : Nat} {v : la_W} (hv : la_V q n v) : la_dig q n (la_val q v n) = v := by
  funext c
  unfold la_dig
  by_cases hc : c < n
  · rw [if_pos hc]
    have e := la_val_pre (q := q) (v := v) (n - 1 - c) (c + 1) (fun j _ => hv.1 j)
    rw [show c + 1 + (n - 1 - c) = n by omega] at e
    rw [e]
    show (la_val q v c * q + v c) % q = v c
    rw [Nat.mul_comm, Nat.mul_add_mod, Nat.mod_eq_of_lt (hv.1 c)]
  · rw [if_neg hc, hv.2 c (by omega)]
theorem la_val_dig_pre {q n x : Nat} (hx : x < q ^ n) : ∀ k, k ≤ n → la_val q (la_dig q n x) k = x / q ^ (n - k) := by
  intro k
  induction k with
  | zero => intro _; simp only [la_val, Nat.sub_zero]; rw [Nat.div_eq_of_lt hx]
  | succ k ih =>
    intro hk
    simp only [la_val]
    rw [ih (by omega)]
    unfold la_dig
    rw [if_pos (by omega)]
    have e : x / q ^ (n - k) = x / q ^ (n - 1 - k) / q := by
      rw [Nat.div_div_eq_div_mul, ← Nat.pow_succ, show (n - 1 - k).succ = n - k by omega]
    rw [e, show n - (k + 1) = n - 1 - k by omega, Nat.mul_comm]
    exact Nat.div_add_mod _ _
theorem la_val_dig {q n x : Nat} (hx : x < q ^ n) : la_val q (la_dig q n x) n = x := by
  rw [la_val_dig_pre hx n (Nat.le_refl n)]; simp
theorem la_dig_V {q n x : Nat} (hq : 0 < q) : la_V q n (la_dig q n x) := ⟨fun c => by
    unfold la_dig
    by_cases hc : c < n
    · rw [if_pos hc]; exact Nat.mod_lt _ hq
    · rw [if_neg hc]; exact hq, fun c hc => by unfold la_dig; rw [if_neg (by omega)]⟩
theorem la_val_z {q n : Nat} : la_val q la_z n = 0 := by
  induction n with
  | zero => rfl
  | succ n ih => simp only [la_val, ih, la_z]; simp
theorem la_dig_0 {q n : Nat} : la_dig q n 0 = la_z := by funext c; simp [la_dig, la_z]
theorem la_val_eq0 {q n : Nat} {v : la_W} (hv : la_V q n v) (h : la_val q v n = 0) : v = la_z := by
  rw [← la_dig_val hv, h, la_dig_0]
theorem la_val_inj {q n : Nat} {v w : la_W} (hv : la_V q n v) (hw : la_V q n w) (h : la_val q v n = la_val q w n) : v = w := by
  rw [← la_dig_val hv, h, la_dig_val hw]
def la_low (q n : Nat) (v : la_W) : Nat → Nat
  | 0 => 0
  | k + 1 => la_low q n v k + v (n - 1 - k) * q ^ k
theorem la_low_val {q n : Nat} {v : la_W} : ∀ k, k ≤ n → la_val q v n = la_val q v (n - k) * q ^ k + la_low q n v k := by
  intro k
  induction k with
  | zero => intro _; simp [la_low]
  | succ k ih =>
    intro hk
    rw [ih (by omega)]
    simp only [la_low]
    rw [show n - k = (n - (k + 1)) + 1 by omega]
    simp only [la_val]
    rw [show n - 1 - k = n - (k + 1) by omega, Nat.add_mul, Nat.pow_succ, Nat.mul_assoc, Nat.mul_comm q]
    omega
theorem la_low_all {q n : Nat} {v : la_W} : la_low q n v n = la_val q v n := by
  rw [la_low_val n (Nat.le_refl n)]; simp [la_val]
def la_q (q n : Nat) : Prop := (q = 2 ∧ 1 ≤ n ∧ n ≤ 6) ∨ (q = 3 ∧ 1 ≤ n ∧ n ≤ 5) ∨ (q = 5 ∧ 1 ≤ n ∧ n ≤ 4)
theorem la_q.two {q n : Nat} (h : la_q q n) : 1 < q := by unfold la_q at h; omega
theorem la_q.pos {q n : Nat} (h : la_q q n) : 0 < q := by unfold la_q at h; omega
theorem la_q.five {q n : Nat} (h : la_q q n) : q ≤ 5 := by unfold la_q at h; omega
theorem la_q.n6 {q n : Nat} (h : la_q q n) : n ≤ 6 := by unfold la_q at h; omega
theorem la_q.n1 {q n : Nat} (h : la_q q n) : 1 ≤ n := by unfold la_q at h; omega
theorem la_pow_le {q n : Nat} (h : la_q q n) : q ^ n ≤ 625 := by
  have h6 := h.n6
  rcases h with ⟨rfl, h1, h2⟩ | ⟨rfl, h1, h2⟩ | ⟨rfl, h1, h2⟩
  · calc 2 ^ n ≤ 2 ^ 6 := Nat.pow_le_pow_right (by omega) h2
      _ ≤ 625 := by decide
  · calc 3 ^ n ≤ 3 ^ 5 := Nat.pow_le_pow_right (by omega) h2
      _ ≤ 625 := by decide
  · calc 5 ^ n ≤ 5 ^ 4 := Nat.pow_le_pow_right (by omega) h2
      _ ≤ 625 := by decide
theorem la_pow_le' {q n k : Nat} (h : la_q q n) (hk : k ≤ n) : q ^ k ≤ 625 := Nat.le_trans (Nat.pow_le_pow_right h.pos hk) (la_pow_le h)
theorem la_inv {q n f : Nat} (h : la_q q n) (h0 : 0 < f) (hf : f < q) : (f * (f * f * f % q)) % q = 1 := by
  have h5 := h.five
  have hq : q = 2 ∨ q = 3 ∨ q = 5 := by unfold la_q at h; omega
  rcases hq with rfl | rfl | rfl
  · have : f = 1 := by omega
    subst this; rfl
  · rcases (show f = 1 ∨ f = 2 by omega) with rfl | rfl <;> rfl
  · rcases (show f = 1 ∨ f = 2 ∨ f = 3 ∨ f = 4 by omega) with rfl | rfl | rfl | rfl <;> rfl
