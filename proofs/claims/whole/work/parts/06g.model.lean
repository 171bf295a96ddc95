def FrM (τ : ss_S) (q n : Nat) : Prop := la_q q n ∧ τ 0 0 = nI q ∧ τ 0 1 = nI n ∧ τ 0 2 = nI (q ^ n)
theorem FrM.sA {τ : ss_S} {q n : Nat} (hF : FrM τ q n) {a : Nat} (ha : a ≠ 0) (f : Nat → Int32) : FrM (sA τ a f) q n := by
  obtain ⟨hq, e0, e1, e2⟩ := hF
  exact ⟨hq, by rw [sA_ne _ _ (Ne.symm ha)]; exact e0, by rw [sA_ne _ _ (Ne.symm ha)]; exact e1, by rw [sA_ne _ _ (Ne.symm ha)]; exact e2⟩
theorem FrM.u2 {τ : ss_S} {q n : Nat} (hF : FrM τ q n) {k : Nat} (hk : 3 ≤ k) (x : Int32) : FrM (u2 τ 0 k x) q n := by
  obtain ⟨hq, e0, e1, e2⟩ := hF
  exact ⟨hq, by rw [u2_at, pk_un (by omega)]; exact e0, by rw [u2_at, pk_un (by omega)]; exact e1, by rw [u2_at, pk_un (by omega)]; exact e2⟩
theorem lg_lt (x y : Int64) : lg_cmp x y < 0 ↔ x < y := by
  unfold lg_cmp
  rw [fa_lt64]
  by_cases h1 : x > y
  · rw [if_pos h1]
    have : y.toInt < x.toInt := (fa_lt64 y x).mp h1
    constructor
    · intro h; exact absurd h (by decide)
    · intro h; omega
  · rw [if_neg h1]
    have h1' : ¬ y.toInt < x.toInt := fun h => h1 ((fa_lt64 y x).mpr h)
    by_cases h2 : x = y
    · rw [if_pos h2]
      have : x.toInt = y.toInt := by rw [h2]
      constructor
      · intro h; exact absurd h (by decide)
      · intro h; omega
    · rw [if_neg h2]
      have : x.toInt ≠ y.toInt := fun h => h2 ((fa_eq64 x y).mpr h)
      constructor
      · intro _; omega
      · intro _; decide
theorem lg_gt (x y : Int64) : 0 < lg_cmp x y ↔ y < x := by
  unfold lg_cmp
  by_cases h1 : x > y
  · rw [if_pos h1]
    exact ⟨fun _ => h1, fun _ => by decide⟩
  · rw [if_neg h1]
    refine ⟨fun h => ?_, fun h => absurd h h1⟩
    by_cases h2 : x = y
    · rw [if_pos h2] at h; exact absurd h (by decide)
    · rw [if_neg h2] at h; exact absurd h (by decide)
theorem pX5_in {x lo hi : Int64} {τ : ss_S} {post : Int32 → ss_S → Prop} (h1 : lo ≤ x → x ≤ hi → post 1 τ) (h0 : ¬ (lo ≤ x ∧ x ≤ hi) → post 0 τ) : wX5_in x lo hi τ post := by
  unfold wX5_in
  rw [lg_lt, lg_gt]
  have a1 := fa_lt64 x lo
  have a2 := fa_lt64 hi x
  have b1 := fa_le64 lo x
  have b2 := fa_le64 x hi
  refine And.intro (fun h => h0 (fun hx => ?_)) (fun h => And.intro (fun h' => h0 (fun hx => ?_)) (fun h' => h1 ?_ ?_))
  · have := a1.mp h; have := b1.mp hx.1; omega
  · have := a2.mp h'; have := b2.mp hx.2; omega
  · exact b1.mpr (by have := mt a1.mpr h; omega)
  · exact b2.mpr (by have := mt a2.mpr h'; omega)
theorem w64_0 : (0 : Int64) = Int32.toInt64 0 := by decide
theorem w64_1 : (1 : Int64) = Int32.toInt64 1 := by decide
theorem w64_11 : (11 : Int64) = Int32.toInt64 11 := by decide
theorem w64_12 : (12 : Int64) = Int32.toInt64 12 := by decide
theorem pX5_inI {x lo hi : Int32} {τ : ss_S} {post : Int32 → ss_S → Prop} (h1 : lo ≤ x → x ≤ hi → post 1 τ) (h0 : ¬ (lo ≤ x ∧ x ≤ hi) → post 0 τ) : wX5_in (Int32.toInt64 x) (Int32.toInt64 lo) (Int32.toInt64 hi) τ post :=
  pX5_in (fun a b => h1 ((fa_wide_le lo x).mp a) ((fa_wide_le x hi).mp b)) (fun h => h0 (fun hx => h ⟨(fa_wide_le lo x).mpr hx.1, (fa_wide_le x hi).mpr hx.2⟩))
theorem i_le0 {x : Int32} (h : (0 : Int32) ≤ x) : ¬ x < 0 := by rw [fa_le] at h; rw [fa_lt]; omega
theorem pX5_inN {x : Int32} {b : Nat} (hb : b < 2 ^ 31) {hi : Int32} (hhi : hi.toInt = (b : Int) - 1) {τ : ss_S} {post : Int32 → ss_S → Prop} (h1 : ∀ v, v < b → x = nI v → post 1 τ) (h0 : (∀ v, v < b → x ≠ nI v) → post 0 τ) : wX5_in (Int32.toInt64 x) 0 (Int32.toInt64 hi) τ post := by
  rw [w64_0]
  refine pX5_inI (fun a c => ?_) (fun h => h0 (fun v hv e => h ?_))
  · obtain ⟨j, hj, rfl⟩ := nI_of (i_le0 a)
    rw [fa_le, nI_toInt hj, hhi] at c
    exact h1 j (by omega) rfl
  · subst e
    refine ⟨nI_pos' (by omega), ?_⟩
    rw [fa_le, nI_toInt (by omega), hhi]; omega
theorem nI_m1_toInt {b : Nat} (hb : b < 2 ^ 30) : (nI b - 1).toInt = (b : Int) - 1 := pk_sub_toInt (b := 1) hb (by omega)
theorem nar1 : narrow .boolean (.int 1) = .int 1 := rfl
theorem nar0 : narrow .boolean (.int 0) = .int 0 := rfl
theorem pX5_isVector {τ : ss_S} {q n : Nat} (hF : FrM τ q n) {x : Int32} {post : Int32 → ss_S → Prop} (h1 : ∀ v, v < q ^ n → x = nI v → post 1 τ) (h0 : (∀ v, v < q ^ n → x ≠ nI v) → post 0 τ) : wX5_isVector x τ post := by
  have hb := la_pow_le hF.1
  unfold wX5_isVector
  rw [hF.2.2.2]
  exact pX5_inN (b := q ^ n) (by omega) (nI_m1_toInt (by omega)) (fun v hv e => ⟨nar1, h1 v hv e⟩) (fun h => ⟨nar0, h0 h⟩)
theorem pX5_isSlot {τ : ss_S} {x : Int32} {post : Int32 → ss_S → Prop} (h1 : ∀ k, k < 12 → x = nI k → post 1 τ) (h0 : (∀ k, k < 12 → x ≠ nI k) → post 0 τ) : wX5_isSlot x τ post := by
  unfold wX5_isSlot
  rw [w64_11]
  exact pX5_inN (b := 12) (by omega) (by decide) (fun v hv e => ⟨nar1, h1 v hv e⟩) (fun h => ⟨nar0, h0 h⟩)
theorem pX5_power {τ : ss_S} {q : Nat} {post : Int32 → ss_S → Prop} (e : Nat) (he : e < 2 ^ 31) (hp : post (nI (q ^ e)) τ) : wX5_power (nI q) (nI e) τ post := by
  have key : ∀ d i, i + d = e → lX5_power_4 (nI q) (nI e) post (fun x2 _ σ => post x2 σ) (d + 1) (nI (q ^ i)) (nI i) τ := by
    intro d
    induction d with
    | zero =>
      intro i hi
      refine And.intro (fun _ => ?_) (fun h => absurd (nI_le (by omega) (by omega)) h)
      rw [show i = e by omega]; exact hp
    | succ d ih =>
      intro i hi
      refine And.intro (fun h => absurd h (nI_ge (by omega) (by omega))) (fun _ => ?_)
      rw [pk_mul, nI_1, ← Nat.pow_succ]
      exact ih (i + 1) (by omega)
  exact ⟨e + 1, key e 0 (by omega)⟩
theorem pX5_figure {τ : ss_S} {q n : Nat} (hF : FrM τ q n) {v c : Nat} (hv : v < 2 ^ 31) (hc : c < n) {post : Int32 → ss_S → Prop} (hp : post (nI (la_dig q n v c)) τ) : wX5_figure (nI v) (nI c) τ post := by
  have hq := hF.1
  have h6 := hq.n6
  have h5 := hq.five
  have hq0 := hq.pos
  have hpw := la_pow_le' (k := n - 1 - c) hq (by omega)
  have hpp : 0 < q ^ (n - 1 - c) := Nat.pow_pos hq0
  unfold wX5_figure
  rw [hF.2.1, hF.2.2.1, nI_sub1 hc]
  refine pX5_power _ (by omega) ?_
  have hd : v / q ^ (n - 1 - c) < 2 ^ 31 := Nat.lt_of_le_of_lt (Nat.div_le_self _ _) hv
  rw [pk_div hv hpp (by omega), hF.2.1, pk_rem hd hq0 (by omega)]
  refine ⟨nI_ne0 hpp (by omega), nI_q0 hq0 (by omega), ?_⟩
  unfold la_dig at hp
  rw [if_pos hc] at hp
  exact hp
theorem pX5_sum {τ : ss_S} {q n : Nat} (hF : FrM τ q n) {v w : la_W} (hv : la_V q n v) (hw : la_V q n w) {k : Nat} (hk : k ≤ q) {post : Int32 → ss_S → Prop} (hp : post (nI (la_val q (la_ad q v w k) n)) τ) : wX5_sum (nI (la_val q v n)) (nI (la_val q w n)) (nI k) τ post := by
  have hq := hF.1
  have h6 := hq.n6
  have h5 := hq.five
  have hq0 := hq.pos
  have hpw := la_pow_le hq
  have bv := la_val_lt (n := n) (fun c _ => hv.1 c)
  have bw := la_val_lt (n := n) (fun c _ => hw.1 c)
  have key : ∀ d i, i + d = n → lX5_sum_6 (nI (la_val q v n)) (nI (la_val q w n)) (nI k) post (fun x4 _ σ => post x4 σ) (d + 1) (nI (la_val q (la_ad q v w k) i)) (nI i) τ := by
    intro d
    induction d with
    | zero =>
      intro i hi
      refine And.intro (fun _ => ?_) (fun h => absurd (by rw [hF.2.2.1]; exact nI_le (by omega) (by omega)) h)
      rw [show i = n by omega]; exact hp
    | succ d ih =>
      intro i hi
      refine And.intro (fun h => absurd h (by rw [hF.2.2.1]; exact nI_ge (by omega) (by omega))) (fun _ => ?_)
      refine pX5_figure hF (by omega) (by omega) (pX5_figure hF (by omega) (by omega) ?_)
      rw [la_dig_val hv, la_dig_val hw, hF.2.1]
      refine And.intro (nI_q0 hq0 (by omega)) ?_
      have b1 := hv.1 i
      have b2 : k * w i ≤ 5 * 5 := Nat.mul_le_mul (by omega) (by have := hw.1 i; omega)
      rw [pk_mul, pk_mul, nI_add, pk_rem (by omega) hq0 (by omega), nI_add, nI_1]
      exact ih (i + 1) (by omega)
  exact ⟨n + 1, key n 0 (by omega)⟩
theorem pX5_product {τ : ss_S} {q n : Nat} (hF : FrM τ q n) {v w : la_W} (hv : la_V q n v) (hw : la_V q n w) {post : Int32 → ss_S → Prop} (hp : post (nI (fb_sm (fun c => v c * w c) n % q)) τ) : wX5_product (nI (la_val q v n)) (nI (la_val q w n)) τ post := by
  have hq := hF.1
  have h6 := hq.n6
  have h5 := hq.five
  have hq0 := hq.pos
  have hpw := la_pow_le hq
  have bv := la_val_lt (n := n) (fun c _ => hv.1 c)
  have bw := la_val_lt (n := n) (fun c _ => hw.1 c)
  have hsum : ∀ i, fb_sm (fun c => v c * w c) i ≤ i * (5 * 5) := fun i => fb_sm_bound (fun c _ => Nat.mul_le_mul (by have := hv.1 c; omega) (by have := hw.1 c; omega))
  have key : ∀ d i, i + d = n → lX5_product_5 (nI (la_val q v n)) (nI (la_val q w n)) post (fun x3_5 _ σ_5 => (¬ (σ_5 0 0) = 0 ∧ post (x3_5 - x3_5 / (σ_5 0 0) * (σ_5 0 0)) σ_5)) (d + 1) (nI (fb_sm (fun c => v c * w c) i)) (nI i) τ := by
    intro d
    induction d with
    | zero =>
      intro i hi
      refine And.intro (fun _ => ?_) (fun h => absurd (by rw [hF.2.2.1]; exact nI_le (by omega) (by omega)) h)
      have := hsum i
      dsimp only
      rw [hF.2.1, pk_rem (by omega) hq0 (by omega), show i = n by omega]
      exact ⟨nI_q0 hq0 (by omega), hp⟩
    | succ d ih =>
      intro i hi
      refine And.intro (fun h => absurd h (by rw [hF.2.2.1]; exact nI_ge (by omega) (by omega))) (fun _ => ?_)
      refine pX5_figure hF (by omega) (by omega) (pX5_figure hF (by omega) (by omega) ?_)
      rw [la_dig_val hv, la_dig_val hw, pk_mul, nI_add, nI_1]
      exact ih (i + 1) (by omega)
  exact ⟨n + 1, key n 0 (by omega)⟩
theorem pX5_pivot {τ : ss_S} {q n : Nat} (hF : FrM τ q n) {v : la_W} (hv : la_V q n v) {a : Nat} (ha : a < n) (h0 : ∀ c, c < a → v c = 0) (h1 : v a ≠ 0) {post : Int32 → ss_S → Prop} (hp : post (nI a) τ) : wX5_pivot (nI (la_val q v n)) τ post := by
  have hq := hF.1
  have h6 := hq.n6
  have h5 := hq.five
  have hpw := la_pow_le hq
  have bv := la_val_lt (n := n) (fun c _ => hv.1 c)
  have key : ∀ d i, i + d = a → lX5_pivot_2 (nI (la_val q v n)) post (fun x2 σ => post x2 σ) (d + 1) (nI i) τ := by
    intro d
    induction d with
    | zero =>
      intro i hi
      refine pX5_figure hF (by omega) (by omega) ?_
      rw [la_dig_val hv]
      have e : i = a := by omega
      subst e
      have := hv.1 i
      exact And.intro (fun _ => hp) (fun hc => absurd hc (nI_ne0 (by omega) (by omega)))
    | succ d ih =>
      intro i hi
      refine pX5_figure hF (by omega) (by omega) ?_
      rw [la_dig_val hv, h0 i (by omega), nI_1]
      exact And.intro (fun hc => absurd rfl hc) (fun _ => ih (i + 1) (by omega))
  exact ⟨a + 1, key a 0 (by omega)⟩
