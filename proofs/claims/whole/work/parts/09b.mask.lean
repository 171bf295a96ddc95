def pvm (n m : Nat) : Nat → Bool := fun p => decide (p < n) && m.testBit (n - 1 - p)
def fcS (m : Nat) : Nat → Nat × Nat
  | 0 => (0, 0)
  | b + 1 => if m / 2 ^ b % 2 = 1 then ((fcS m b).1 + (fcS m b).2, (fcS m b).2) else ((fcS m b).1, (fcS m b).2 + 1)
def frC (n m : Nat) : Nat := (fcS m n).1
def pl (n m i : Nat) : Nat := ((List.range n).filter (pvm n m)).getD i 0
def nxf (k : Nat) : Nat → Nat
  | 0 => 0
  | j + 1 => if pc6 j = k then j else nxf k j
def gI (n k : Nat) (P : Nat → Nat) : Nat → Nat
  | 0 => 0
  | j + 1 => if P j = n - k + j then gI n k P j else j + 1
def goP (n k : Nat) (P : Nat → Nat) : Nat → Nat := fun j => if j + 1 < gI n k P k then P j else P (gI n k P k - 1) + 1 + (j - (gI n k P k - 1))
def frM (n k : Nat) (P : Nat → Nat) : Nat → Nat
  | 0 => 0
  | i + 1 => frM n k P i + (n - 1 - P i - (k - 1 - i))
def zf (n : Nat) (pv : Nat → Bool) (c : Nat) : Nat := fb_ct (fun j => !pv j) n - fb_ct (fun j => !pv j) c
def Af (n : Nat) (pv : Nat → Bool) (p : Nat) : Nat := fb_sm (fun j => if pv j = true then zf n pv (j + 1) else 0) n - fb_sm (fun j => if pv j = true then zf n pv (j + 1) else 0) p
theorem mk_A : ∀ n, n < 7 → ∀ m, m < 2 ^ n → frC n m ≤ 9 ∧ Af n (pvm n m) 0 = frC n m ∧ frM n (pc6 m) (pl n m) (pc6 m) = frC n m ∧ fb_ct (pvm n m) n = pc6 m ∧ pc6 m ≤ n := by decide +kernel
theorem mk_B : ∀ n, n < 7 → ∀ m, m < 2 ^ n → ∀ i, i < pc6 m → pl n m i < n ∧ pc6 m - 1 - i ≤ n - 1 - pl n m i ∧ n - pc6 m + i < 6 := by decide +kernel
theorem mk_C : ∀ n, n < 7 → ∀ m, m < 2 ^ n → ∀ p, p < n → pvm n m p = true → pl n m (fb_ct (pvm n m) p) = p := by decide +kernel
theorem mk_D1 : ∀ n, n < 7 → ∀ m, m < 2 ^ n → ((¬ pc6 (nxf (pc6 m) m) = pc6 m ∨ ¬ nxf (pc6 m) m < m) ∨ ¬ gI n (pc6 m) (pl n m) (pc6 m) = 0) := by decide +kernel
theorem mk_D2 : ∀ n, n < 7 → ∀ m, m < 2 ^ n → ∀ i, i < pc6 m → ((¬ pc6 (nxf (pc6 m) m) = pc6 m ∨ ¬ nxf (pc6 m) m < m) ∨ goP n (pc6 m) (pl n m) i = pl n (nxf (pc6 m) m) i) := by decide +kernel
theorem mk_E : ∀ n, n < 7 → ∀ k, k ≤ n → 2 ^ n - 2 ^ (n - k) < 2 ^ n ∧ pc6 (2 ^ n - 2 ^ (n - k)) = k ∧ ∀ i, i < k → pl n (2 ^ n - 2 ^ (n - k)) i = i := by decide +kernel
theorem mk_F : ∀ n, n < 7 → ∀ k, k ≤ n → ∀ m, m < 2 ^ n → 2 ^ n - 2 ^ (n - k) < m → pc6 m ≠ k := by decide +kernel
def tm (q n k m : Nat) : Nat := if pc6 m = k then q ^ frC n m else 0
def Bt (q n k : Nat) (j : Nat) : Nat := fb_sm (fun i => tm q n k (2 ^ n - 1 - i)) j
theorem Bt_2 : ∀ n, n < 7 → ∀ k, k ≤ n → Bt 2 n k (2 ^ n) = gsN 2 n k := by decide +kernel
theorem Bt_3 : ∀ n, n < 6 → ∀ k, k ≤ n → Bt 3 n k (2 ^ n) = gsN 3 n k := by decide +kernel
theorem Bt_5 : ∀ n, n < 5 → ∀ k, k ≤ n → Bt 5 n k (2 ^ n) = gsN 5 n k := by decide +kernel
theorem Bt_all {q n k : Nat} (hq : la_q q n) (hk : k ≤ n) : Bt q n k (2 ^ n) = gsN q n k := by
  rcases hq with ⟨rfl, h1, h2⟩ | ⟨rfl, h1, h2⟩ | ⟨rfl, h1, h2⟩
  · exact Bt_2 n (by omega) k hk
  · exact Bt_3 n (by omega) k hk
  · exact Bt_5 n (by omega) k hk
theorem nxf_lt (k : Nat) : ∀ m, (∃ j, j < m ∧ pc6 j = k) → nxf k m < m ∧ pc6 (nxf k m) = k ∧ ∀ j, nxf k m < j → j < m → pc6 j ≠ k := by
  intro m
  induction m with
  | zero => rintro ⟨j, hj, _⟩; exact absurd hj (Nat.not_lt_zero _)
  | succ m ih =>
    rintro ⟨j, hj, hjk⟩
    simp only [nxf]
    by_cases e : pc6 m = k
    · rw [if_pos e]; exact ⟨by omega, e, fun i h1 h2 => by omega⟩
    · rw [if_neg e]
      have hjm : j ≠ m := fun h => e (h ▸ hjk)
      obtain ⟨a, b, c⟩ := ih ⟨j, by omega, hjk⟩
      refine ⟨by omega, b, fun i h1 h2 => ?_⟩
      by_cases ei : i = m
      · rw [ei]; exact e
      · exact c i h1 (by omega)
theorem Bt_gap {q n k m m' : Nat} (hm : m < 2 ^ n) (hm' : m' < m) (h : ∀ j, m' < j → j < m → pc6 j ≠ k) : Bt q n k (2 ^ n - 1 - m') = Bt q n k (2 ^ n - 1 - m) + tm q n k m := by
  obtain ⟨d, rfl⟩ : ∃ d, m = m' + d + 1 := ⟨m - m' - 1, by omega⟩
  clear hm'
  have key : ∀ e, e ≤ d → Bt q n k (2 ^ n - 1 - (m' + d + 1) + 1 + e) = Bt q n k (2 ^ n - 1 - (m' + d + 1)) + tm q n k (m' + d + 1) := by
    intro e
    induction e with
    | zero =>
      intro _
      unfold Bt
      rw [Nat.add_zero, fb_sm_succ, show 2 ^ n - 1 - (2 ^ n - 1 - (m' + d + 1)) = m' + d + 1 by omega]
    | succ e ih =>
      intro he
      have := ih (by omega)
      unfold Bt at this ⊢
      rw [show 2 ^ n - 1 - (m' + d + 1) + 1 + (e + 1) = (2 ^ n - 1 - (m' + d + 1) + 1 + e) + 1 by omega, fb_sm_succ, this]
      have hne := h (2 ^ n - 1 - (2 ^ n - 1 - (m' + d + 1) + 1 + e)) (by omega) (by omega)
      unfold tm
      rw [if_neg hne, Nat.add_zero]
  have := key d (Nat.le_refl d)
  rwa [show 2 ^ n - 1 - (m' + d + 1) + 1 + d = 2 ^ n - 1 - m' by omega] at this
theorem Bt_zero {q n k : Nat} (hn : n < 7) (hk : k ≤ n) : Bt q n k (2 ^ n - 1 - (2 ^ n - 2 ^ (n - k))) = 0 := by
  refine la_sm_zero (fun j hj => ?_)
  have hp : 0 < 2 ^ (n - k) := Nat.pow_pos (by omega)
  have hle : 2 ^ (n - k) ≤ 2 ^ n := Nat.pow_le_pow_right (by omega) (by omega)
  unfold tm
  rw [if_neg (mk_F n hn k hk _ (by omega) (by omega))]
theorem pvm_mk {q n : Nat} {pv : Nat → Bool} {M : Nat → la_W} (hR : la_R q n pv M) : pvm n (la_mk n pv) = pv := by
  funext p
  unfold pvm
  by_cases hp : p < n
  · rw [la_mk_tb, show n - 1 - (n - 1 - p) = p by omega]
    have : n - 1 - p < n := by omega
    simp [hp, this]
  · have : pv p = false := by
      cases e : pv p with
      | false => rfl
      | true => exact absurd (hR.1 p e) hp
    simp [hp, this]
theorem mk_pvm {n m : Nat} (hm : m < 2 ^ n) : la_mk n (pvm n m) = m := by
  apply Nat.eq_of_testBit_eq
  intro i
  rw [la_mk_tb]
  unfold pvm
  by_cases hi : i < n
  · have h1 : n - 1 - i < n := by omega
    rw [show n - 1 - (n - 1 - i) = i by omega]
    simp [hi, h1]
  · have e : m.testBit i = false := Nat.testBit_lt_two_pow (Nat.lt_of_lt_of_le hm (Nat.pow_le_pow_right (by omega) (by omega)))
    rw [e]
    simp [hi]
theorem pow_n6 {n : Nat} (hn : n ≤ 6) : 2 ^ n ≤ 64 := (Nat.pow_le_pow_right (by omega) hn : 2 ^ n ≤ 2 ^ 6)
theorem pX3_freeCells {σ : ss_S} {q n : Nat} (hF : FrC σ q n) {s m : Nat} (hm : m < 2 ^ n) {post : Int32 → ss_S → Prop} (hp : post (nI (frC n m)) σ) : wX3_freeCells s (nI m) σ post := by
  have h6 := hF.1.n6
  have h64 := pow_n6 h6
  have key : ∀ d i, i + d = n → lX3_freeCells_7 s (nI m) post (fun x2_1 _ _ σ_1 => post x2_1 σ_1) (d + 1) (nI (fcS m i).1) (nI (fcS m i).2) (nI i) σ := by
    intro d
    induction d with
    | zero =>
      intro i hi
      refine And.intro (fun _ => ?_) (fun hc => absurd (by rw [hF.2.2.1]; exact nI_le (by omega) (by omega)) hc)
      rw [show i = n by omega]; exact hp
    | succ d ih =>
      intro i hi
      refine And.intro (fun hc => absurd hc (by rw [hF.2.2.1]; exact nI_ge (by omega) (by omega))) (fun _ => ?_)
      have e : (nI m >>> (nI i &&& 31)) &&& 1 = nI (m / 2 ^ i % 2) := by
        rw [pk_shrN (by omega) _ i (sh_l _ (by omega)), pk_andN (Nat.lt_of_le_of_lt (Nat.div_le_self _ _) (by omega)) 1 (by rfl)]
      have hx := ih (i + 1) (by omega)
      simp only [fcS] at hx
      rw [e, nI_1, nI_1, nI_add]
      by_cases hb : m / 2 ^ i % 2 = 1
      · rw [if_pos hb] at hx
        rw [hb]
        exact And.intro (fun hc => absurd rfl hc) (fun _ => hx)
      · rw [if_neg hb] at hx
        have h0 : m / 2 ^ i % 2 = 0 := by omega
        rw [h0]
        exact And.intro (fun _ => hx) (fun hc => absurd hc (by decide))
  exact ⟨n + 1, key n 0 (by omega)⟩
theorem top_mask {n : Nat} (hn : n ≤ 6) : (1 <<< (nI n &&& 31)) - 1 = nI (2 ^ n - 1) := by
  have h64 := pow_n6 hn
  have hp : 1 ≤ 2 ^ n := Nat.pow_pos (by omega)
  have e : (1 : Int32) <<< (nI n &&& 31) = nI (1 * 2 ^ n) := pk_shlN (n := 1) _ n (sh_l _ (by omega)) (by omega)
  rw [e, Nat.one_mul, nI_m1 hp]
theorem nI_dec {a : Nat} (h : 1 ≤ a) : nI a + (-1) = nI (a - 1) := by
  obtain ⟨b, rfl⟩ : ∃ b, a = b + 1 := ⟨a - 1, by omega⟩
  rw [pk_m1, Nat.add_sub_cancel]
def cvi (q : Nat) (pv : Nat → Bool) (row : la_W) (p v0 : Nat) : Nat → Nat
  | 0 => v0
  | c + 1 => if p < c ∧ pv c = false then cvi q pv row p v0 c * q + row c else cvi q pv row p v0 c
def cvo (q n : Nat) (pv : Nat → Bool) (M : Nat → la_W) : Nat → Nat
  | 0 => 0
  | p + 1 => if pv p = true then cvi q pv (M p) p (cvo q n pv M p) n else cvo q n pv M p
theorem cvi_start {q : Nat} {pv : Nat → Bool} {row : la_W} {p v0 : Nat} : ∀ c, c ≤ p + 1 → cvi q pv row p v0 c = v0 := by
  intro c
  induction c with
  | zero => intro _; rfl
  | succ c ih => intro hc; simp only [cvi]; rw [if_neg (fun h => by omega)]; exact ih (by omega)
theorem pvf {pv : Nat → Bool} {c : Nat} (h : ¬ pv c = true) : pv c = false := by cases e : pv c with
  | false => rfl
  | true => exact absurd e h
theorem pX3_cellsValue {σ : ss_S} {q n : Nat} (hF : FrC σ q n) {s : Nat} (hs : isSp s) {pv : Nat → Bool} {M : Nat → la_W} (hS : SpC σ s q n pv M) {post : Int32 → ss_S → Prop} (hp : post (nI (cvo q n pv M n)) σ) : wX3_cellsValue s σ post := by
  have h6 := hF.1.n6
  have inner : ∀ (K : Int32 → Int32 → ss_S → Prop) (p : Nat), pv p = true → p < n → K (nI (cvi q pv (M p) p (cvo q n pv M p) n)) (nI n) σ → ∀ d c, c + d = n → p + 1 ≤ c → lX3_cellsValue_27 s (nI p) post K (d + 1) (nI (cvi q pv (M p) p (cvo q n pv M p) c)) (nI c) σ := by
    intro K p hpp hpn hK d
    induction d with
    | zero =>
      intro c hc hpc
      have e : c = n := by omega
      subst e
      exact And.intro (fun _ => hK) (fun hc => absurd (by rw [hF.2.2.1]; exact nI_le (Nat.le_refl _) (by omega)) hc)
    | succ d ih =>
      intro c hc hpc
      refine And.intro (fun hc => absurd hc (by rw [hF.2.2.1]; exact nI_ge (by omega) (by omega))) (fun _ => ?_)
      refine pX3_isPivot hF hS.2.1 (by omega) ?_
      have hx := ih (c + 1) (by omega) (by omega)
      simp only [cvi] at hx
      by_cases hpc' : pv c = true
      · rw [if_neg (fun h => by rw [hpc'] at h; cases h.2)] at hx
        rw [la_b_t hpc', nI_1]
        exact rb1 hx
      · rw [if_pos ⟨by omega, pvf hpc'⟩] at hx
        rw [la_b_f hpc', nI_m6, nI_add]
        refine rb0 (And.intro (by rw [hs.lenCells]; exact vp_in_nI (by omega) (by omega)) ?_)
        rw [nI_clamp (by omega), hF.2.1, hS.2.2 p hpp c (by omega), pk_mul, nI_add, nI_1]
        exact hx
  have outer : ∀ d p, p + d = n → lX3_cellsValue_4 s post (fun x1_6 _ σ_6 => post x1_6 σ_6) (d + 1) (nI (cvo q n pv M p)) (nI p) σ := by
    intro d
    induction d with
    | zero =>
      intro p hp'
      have e : p = n := by omega
      subst e
      exact And.intro (fun _ => hp) (fun hc => absurd (by rw [hF.2.2.1]; exact nI_le (Nat.le_refl _) (by omega)) hc)
    | succ d ih =>
      intro p hp'
      refine And.intro (fun hc => absurd hc (by rw [hF.2.2.1]; exact nI_ge (by omega) (by omega))) (fun _ => ?_)
      refine pX3_isPivot hF hS.2.1 (by omega) ?_
      have hx := ih (p + 1) (by omega)
      simp only [cvo] at hx
      rw [nI_1]
      by_cases hpp : pv p = true
      · rw [if_pos hpp] at hx
        rw [la_b_t hpp]
        refine br1 ?_
        have hi := inner (fun x1_5 _ σ_5 => lX3_cellsValue_4 s post (fun x1_6 _ σ_6 => post x1_6 σ_6) (d + 1) x1_5 (nI (p + 1)) σ_5) p hpp (by omega) hx (n - (p + 1)) (p + 1) (by omega) (Nat.le_refl _)
        rw [cvi_start _ (Nat.le_refl _)] at hi
        exact ⟨_, hi⟩
      · rw [if_neg hpp] at hx
        rw [la_b_f hpp]
        exact br0 hx
  exact ⟨n + 1, outer n 0 (by omega)⟩
theorem pX3_ordinal {σ : ss_S} {q n : Nat} (hF : FrC σ q n) {s : Nat} (hs : isSp s) {pv : Nat → Bool} {M : Nat → la_W} (hS : SpC σ s q n pv M) {post : Int32 → ss_S → Prop} (hp : post (nI (Bt q n (fb_ct pv n) (2 ^ n - 1 - la_mk n pv) + cvo q n pv M n)) σ) : wX3_ordinal s σ post := by
  have h6 := hF.1.n6
  have h64 := pow_n6 h6
  have hmk := la_mk_lt n pv
  have hct := fb_ct_le pv n
  unfold wX3_ordinal
  refine pX3_rank h6 hS.2.1 ?_
  rw [hF.2.2.1, top_mask h6]
  have key : ∀ d m, m = la_mk n pv + d → m < 2 ^ n → lX3_ordinal_19 s (nI (fb_ct pv n)) post (fun x2_9 _ σ_9 => wX3_cellsValue s σ_9 (fun r11 σ10 => post (x2_9 + r11) σ10)) (d + 1) (nI (Bt q n (fb_ct pv n) (2 ^ n - 1 - m))) (nI m) σ := by
    intro d
    induction d with
    | zero =>
      intro m hm hm2
      refine And.intro (fun _ => ?_) (fun hc => absurd (by rw [hS.2.1]; exact nI_le (by omega) (by omega)) hc)
      refine pX3_cellsValue hF hs hS ?_
      rw [nI_add, show m = la_mk n pv by omega]; exact hp
    | succ d ih =>
      intro m hm hm2
      refine And.intro (fun hc => absurd hc (by rw [hS.2.1]; exact nI_ge (by omega) (by omega))) (fun _ => ?_)
      refine pJ6_bc (by omega) ?_
      have hpc := (mk_A n (by omega) m hm2)
      have hx := ih (m - 1) (by omega) (by omega)
      have eB : Bt q n (fb_ct pv n) (2 ^ n - 1 - (m - 1)) = Bt q n (fb_ct pv n) (2 ^ n - 1 - m) + tm q n (fb_ct pv n) m := Bt_gap hm2 (by omega) (fun j h1 h2 => by omega)
      rw [eB] at hx
      rw [nI_dec (by omega)]
      unfold tm at hx
      by_cases e : pc6 m = fb_ct pv n
      · rw [if_pos e] at hx
        refine And.intro (fun hc => absurd (by rw [e]) hc) (fun _ => ?_)
        refine pX3_freeCells hF hm2 (pX0_power hF.2.1 _ (by omega) ?_)
        rw [nI_add]
        exact hx
      · rw [if_neg e, Nat.add_zero] at hx
        exact And.intro (fun _ => hx) (fun hc => absurd ((nI_eq (by omega) (by omega)).mp hc) e)
  have hx := key (2 ^ n - 1 - la_mk n pv) (2 ^ n - 1) (by omega) (by omega)
  rw [Nat.sub_self] at hx
  exact ⟨_, hx⟩
