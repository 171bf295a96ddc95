def gsN (q w : Nat) : Nat → Nat
  | 0 => 1
  | i + 1 => gsN q w i * (q ^ (w - i) - 1) / (q ^ (i + 1) - 1)
def gsU (q w : Nat) : Nat → Nat
  | 0 => 1
  | i + 1 => gsU q w i * (q ^ (w - i) - 1)
def gsL (q : Nat) : Nat → Nat
  | 0 => 1
  | i + 1 => gsL q i * (q ^ (i + 1) - 1)
def okq (q w : Nat) : Prop := (q = 2 ∧ w < 7) ∨ (q = 3 ∧ w < 6) ∨ (q = 5 ∧ w < 5)
theorem okq.of {q n w : Nat} (h : la_q q n) (hw : w ≤ n) : okq q w := by unfold la_q at h; unfold okq; omega
theorem okq.w6 {q w : Nat} (h : okq q w) : w ≤ 6 := by unfold okq at h; omega
theorem okq.q2 {q w : Nat} (h : okq q w) : 2 ≤ q ∧ q ≤ 5 := by unfold okq at h; omega
theorem gs_2 : ∀ w, w < 7 → ∀ i, i < 7 → gsN 2 w i * (2 ^ (w - i) - 1) < 2 ^ 31 ∧ gsN 2 w i < 2 ^ 15 ∧ gsU 2 w i < 2 ^ 31 ∧ gsL 2 i < 2 ^ 31 ∧ 0 < gsL 2 i ∧ 2 ^ (i + 1) < 2 ^ 15 ∧ 2 ^ (w - i) < 2 ^ 15 ∧ (i ≤ w → gsU 2 w i / gsL 2 i = gsN 2 w i ∧ 0 < gsN 2 w i) := by decide +kernel
theorem gs_3 : ∀ w, w < 6 → ∀ i, i < 6 → gsN 3 w i * (3 ^ (w - i) - 1) < 2 ^ 31 ∧ gsN 3 w i < 2 ^ 15 ∧ gsU 3 w i < 2 ^ 31 ∧ gsL 3 i < 2 ^ 31 ∧ 0 < gsL 3 i ∧ 3 ^ (i + 1) < 2 ^ 15 ∧ 3 ^ (w - i) < 2 ^ 15 ∧ (i ≤ w → gsU 3 w i / gsL 3 i = gsN 3 w i ∧ 0 < gsN 3 w i) := by decide +kernel
theorem gs_5 : ∀ w, w < 5 → ∀ i, i < 5 → gsN 5 w i * (5 ^ (w - i) - 1) < 2 ^ 31 ∧ gsN 5 w i < 2 ^ 15 ∧ gsU 5 w i < 2 ^ 31 ∧ gsL 5 i < 2 ^ 31 ∧ 0 < gsL 5 i ∧ 5 ^ (i + 1) < 2 ^ 15 ∧ 5 ^ (w - i) < 2 ^ 15 ∧ (i ≤ w → gsU 5 w i / gsL 5 i = gsN 5 w i ∧ 0 < gsN 5 w i) := by decide +kernel
theorem gs_all {q w i : Nat} (h : okq q w) (hi : i ≤ w) : gsN q w i * (q ^ (w - i) - 1) < 2 ^ 31 ∧ gsN q w i < 2 ^ 15 ∧ gsU q w i < 2 ^ 31 ∧ gsL q i < 2 ^ 31 ∧ 0 < gsL q i ∧ q ^ (i + 1) < 2 ^ 15 ∧ q ^ (w - i) < 2 ^ 15 ∧ gsU q w i / gsL q i = gsN q w i ∧ 0 < gsN q w i := by
  rcases h with ⟨rfl, hw⟩ | ⟨rfl, hw⟩ | ⟨rfl, hw⟩
  · obtain ⟨a, b, c, d, e, f, g, k⟩ := gs_2 w hw i (by omega)
    exact ⟨a, b, c, d, e, f, g, k hi⟩
  · obtain ⟨a, b, c, d, e, f, g, k⟩ := gs_3 w hw i (by omega)
    exact ⟨a, b, c, d, e, f, g, k hi⟩
  · obtain ⟨a, b, c, d, e, f, g, k⟩ := gs_5 w hw i (by omega)
    exact ⟨a, b, c, d, e, f, g, k hi⟩
theorem nI_m1 {a : Nat} (h : 1 ≤ a) : nI a - 1 = nI (a - 1) := pk_sub (b := 1) h
theorem pX0_spaces {σ : ss_S} {q w p : Nat} (h0 : σ 1 0 = nI q) (hq : okq q w) (hp : p ≤ w) {post : Int32 → ss_S → Prop} (hpo : post (nI (gsN q w p)) σ) : wX0_spaces (nI w) (nI p) σ post := by
  have h6 := hq.w6
  have hq2 := hq.q2
  refine And.intro (fun hc => absurd hc (nI_pos (by omega))) (fun _ => And.intro (fun _ => ?_) (fun hc => absurd (nI_le hp (by omega)) hc))
  have key : ∀ d i, i + d = p → lX0_spaces_16 (nI w) (nI p) post (fun x3 _ σ => post x3 σ) (d + 1) (nI (gsN q w i)) (nI i) σ := by
    intro d
    induction d with
    | zero =>
      intro i hi
      refine And.intro (fun _ => ?_) (fun hc => absurd (nI_le (by omega) (by omega)) hc)
      rw [show i = p by omega]; exact hpo
    | succ d ih =>
      intro i hi
      obtain ⟨a, b, c, d', e, f, g, k1, k2⟩ := gs_all hq (show i ≤ w by omega)
      have p1 : 1 < q ^ (i + 1) := Nat.one_lt_pow (by omega) (by omega)
      have p2 : 1 ≤ q ^ (w - i) := Nat.pow_pos (by omega)
      refine And.intro (fun hc => absurd hc (nI_ge (by omega) (by omega))) (fun _ => ?_)
      rw [pk_sub (by omega), nI_1]
      refine pX0_power h0 _ (by omega) (pX0_power h0 _ (by omega) ?_)
      rw [nI_m1 p2, nI_m1 (by omega), pk_mul, pk_div a (by omega) (by omega)]
      exact And.intro (nI_ne0 (by omega) (by omega)) (ih (i + 1) (by omega))
  exact ⟨p + 1, key p 0 (by omega)⟩
theorem pX0_spaces0 {σ : ss_S} {w : Nat} (hw : w < 2 ^ 31) {x : Int32} (hx : ∀ k, k < w + 1 → x ≠ nI k) {post : Int32 → ss_S → Prop} (hpo : post 0 σ) : wX0_spaces (nI w) x σ post := by
  refine And.intro (fun _ => hpo) (fun h0 => And.intro (fun hc => ?_) (fun _ => hpo))
  obtain ⟨j, hj, rfl⟩ := nI_of h0
  exact absurd rfl (hx j (by have := (nI_leI hj hw).mp hc; omega))
theorem pX5_gauss {τ : ss_S} {q w p : Nat} (h0 : τ 0 0 = nI q) (hq : okq q w) (hp : p ≤ w) {post : Int32 → ss_S → Prop} (hpo : post (nI (gsN q w p)) τ) : wX5_gauss (nI w) (nI p) τ post := by
  have h6 := hq.w6
  have hq2 := hq.q2
  refine pX5_inN (b := w + 1) (by omega) (by rw [nI_toInt (by omega)]; omega) (fun _ _ _ => rb1 ?_) (fun hx => absurd rfl (hx p (by omega)))
  have key : ∀ d i, i + d = p → lX5_gauss_21 (nI w) (nI p) post (fun x3_7 x5_7 _ σ_7 => (¬ x5_7 = 0 ∧ post (Int64.toInt32 (x3_7 / x5_7)) σ_7)) (d + 1) (lN (gsU q w i)) (lN (gsL q i)) (nI i) τ := by
    intro d
    induction d with
    | zero =>
      intro i hi
      have ei : i = p := by omega
      subst ei
      obtain ⟨a, b, c, d', e, f, g, k1, k2⟩ := gs_all hq hp
      refine And.intro (fun _ => ?_) (fun hc => absurd (nI_le (Nat.le_refl _) (by omega)) hc)
      dsimp only
      rw [pk_lDiv (by omega) e (by omega), k1, lN_i]
      refine ⟨fun hc => ?_, hpo⟩
      have := (lN_eq (a := gsL q i) (b := 0) d' (by omega)).mp hc
      omega
    | succ d ih =>
      intro i hi
      obtain ⟨a, b, c, d', e, f, g, k1, k2⟩ := gs_all hq (show i ≤ w by omega)
      have p1 : 1 ≤ q ^ (i + 1) := Nat.pow_pos (by omega)
      have p2 : 1 ≤ q ^ (w - i) := Nat.pow_pos (by omega)
      refine And.intro (fun hc => absurd hc (nI_ge (by omega) (by omega))) (fun _ => ?_)
      rw [pk_sub (by omega), nI_1, h0]
      refine pX5_power _ (by omega) ?_
      rw [h0]
      refine pX5_power _ (by omega) ?_
      rw [nI_m1 p2, nI_m1 p1, nI_l (by omega), nI_l (by omega), lN_mul, lN_mul]
      exact ih (i + 1) (by omega)
  exact ⟨p + 1, key p 0 (by omega)⟩
theorem pX5_gauss0 {τ : ss_S} {w : Nat} (hw : w < 2 ^ 30) {x : Int32} (hx : ∀ k, k < w + 1 → x ≠ nI k) {post : Int32 → ss_S → Prop} (hpo : post 0 τ) : wX5_gauss (nI w) x τ post :=
  pX5_inN (b := w + 1) (by omega) (by rw [nI_toInt (by omega)]; omega) (fun v hv e => absurd e (hx v hv)) (fun _ => rb0 hpo)
theorem sim_many {σ τ : ss_S} (hI : Inv σ τ) (x1 : Int32) : wX4_many x1 σ (fun r σ1 => wX5_many x1 τ (fun r' τ1 => r = r' ∧ Inv σ1 τ1)) := by
  obtain ⟨q, n, h, g, r, I⟩ := id hI
  have hC := I.1
  have hM := I.2.1
  have h6 := hC.1.n6
  have hm : ∀ (P : Int32 → ss_S → Prop), wX5_gauss (nI n) x1 τ P → wX5_many x1 τ P := fun P hP => by unfold wX5_many; rw [hM.2.2.1]; exact hP
  unfold wX4_many
  rw [hC.2.2.1]
  rcases n_cases (n + 1) x1 with ⟨k, hk, rfl⟩ | hx
  · exact pX0_spaces hC.2.1 (okq.of hC.1 (Nat.le_refl _)) (by omega) (hm _ (pX5_gauss hM.2.1 (okq.of hC.1 (Nat.le_refl _)) (by omega) ⟨rfl, hI⟩))
  · exact pX0_spaces0 (by omega) hx (hm _ (pX5_gauss0 (by omega) hx ⟨rfl, hI⟩))
theorem cDimY {σ : ss_S} {q n k : Nat} (hF : FrC σ q n) (hk : k ≤ n) {post : Int32 → ss_S → Prop} (h : post 1 σ) : wX4_isDim (nI k) σ post := by
  have h6 := hF.1.n6
  unfold wX4_isDim
  rw [hF.2.2.1]
  exact And.intro (fun hc => absurd hc (nI_pos (by omega))) (fun _ => And.intro (fun hc => absurd hc (nI_nlt hk (by omega))) (fun _ => h))
theorem cDimN {σ : ss_S} {q n : Nat} (hF : FrC σ q n) {x : Int32} (hx : ∀ k, k < n + 1 → x ≠ nI k) {post : Int32 → ss_S → Prop} (h : post 0 σ) : wX4_isDim x σ post := by
  have h6 := hF.1.n6
  unfold wX4_isDim
  rw [hF.2.2.1]
  refine And.intro (fun _ => h) (fun h0 => And.intro (fun _ => h) (fun hc => ?_))
  obtain ⟨j, hj, rfl⟩ := nI_of h0
  refine absurd rfl (hx j ?_)
  rcases Nat.lt_or_ge n j with y | y
  · exact absurd (nI_lt y hj) hc
  · omega
theorem neg_ne {a b w : Nat} (ha : a < 2 ^ 20) (hb : b < 2 ^ 20) (hw : w < 2 ^ 20) (h : a < b) : ∀ k, k < w → nI a - nI b ≠ nI k := by
  intro k hk e
  have h1 := pk_sub_toInt (a := a) (b := b) (by omega) (by omega)
  rw [e, nI_toInt (by omega)] at h1
  omega
theorem sim_over {σ τ : ss_S} (hI : Inv σ τ) (x1 x2 : Int32) : wX4_over x1 x2 σ (fun r σ1 => wX5_over x1 x2 τ (fun r' τ1 => r = r' ∧ Inv σ1 τ1)) := by
  obtain ⟨q, n, h, g, r, I⟩ := id hI
  have hC := I.1
  have hM := I.2.1
  have h6 := hC.1.n6
  rcases sl_cases x1 with ⟨s, hs, rfl⟩ | hx
  · refine cSlY hs (rb1 ?_)
    obtain ⟨pv, M, hS, hT⟩ := I.2.2.2.2.2.1 s hs
    have hct := fb_ct_le pv n
    have hm : ∀ (P : Int32 → ss_S → Prop), wX5_in (Int32.toInt64 x2) (Int32.toInt64 (nI (fb_ct pv n))) (Int32.toInt64 (nI n)) τ (fun r4 σ3 => ((r4 = 0 → P 0 σ3) ∧ (¬ r4 = 0 → (vp_in (nI s) 12 ∧ (vp_in (nI s) 12 ∧ wX5_gauss ((σ3 0 1) - (σ3 4 (Int32.toNatClampNeg (nI s)))) (x2 - (σ3 4 (Int32.toNatClampNeg (nI s)))) σ3 (fun r6 σ5 => P r6 σ5)))))) → wX5_over (nI s) x2 τ P := fun P hP => mSlY hs (rb1 (And.intro (vin hs) (by rw [ncl hs, hT.1, hM.2.2.1]; rw [ncl hs] at hP; exact hP)))
    rcases n_cases (n + 1) x2 with ⟨k, hk, rfl⟩ | hx
    · refine cDimY hC (by omega) (rb1 (And.intro (vin hs) ?_))
      rw [ncl hs]
      refine pX3_rank h6 hS.2.1 ?_
      rw [hC.2.2.1, pk_sub hct]
      rcases Nat.lt_or_ge k (fb_ct pv n) with hlt | hge
      · refine pX0_spaces0 (by omega) (neg_ne (by omega) (by omega) (by omega) hlt) (hm _ ?_)
        refine pX5_inI (fun hlo _ => ?_) (fun _ => br0 ⟨rfl, hI⟩)
        exact absurd ((nI_leI (by omega) (by omega)).mp hlo) (by omega)
      · rw [pk_sub hge]
        refine pX0_spaces hC.2.1 (okq.of hC.1 (by omega)) (by omega) (hm _ ?_)
        refine pX5_inI (fun _ _ => br1 (And.intro (vin hs) (And.intro (vin hs) ?_))) (fun hc => absurd ⟨nI_le hge (by omega), nI_le (by omega) (by omega)⟩ hc)
        rw [ncl hs, hT.1, hM.2.2.1, pk_sub hct, pk_sub hge]
        exact pX5_gauss hM.2.1 (okq.of hC.1 (by omega)) (by omega) ⟨rfl, hI⟩
    · refine cDimN hC hx (rb0 (hm _ ?_))
      refine pX5_inI (fun hlo hhi => ?_) (fun _ => br0 ⟨rfl, hI⟩)
      have h0 : ¬ x2 < 0 := by
        rw [fa_le, nI_toInt (by omega)] at hlo
        rw [fa_lt]
        have : (0 : Int32).toInt = 0 := rfl
        omega
      obtain ⟨j, hj, rfl⟩ := nI_of h0
      exact absurd rfl (hx j (by have := (nI_leI hj (by omega)).mp hhi; omega))
  · exact cSlN hx (rb0 (mSlN hx (rb0 ⟨rfl, hI⟩)))
theorem sim_meeting {σ τ : ss_S} (hI : Inv σ τ) (x1 x2 x3 : Int32) : wX4_meeting x1 x2 x3 σ (fun r σ1 => wX5_meeting x1 x2 x3 τ (fun r' τ1 => r = r' ∧ Inv σ1 τ1)) := by
  obtain ⟨q, n, h, g, r, I⟩ := id hI
  have hC := I.1
  have hM := I.2.1
  have h6 := hC.1.n6
  rcases sl_cases x1 with ⟨s, hs, rfl⟩ | hx
  · refine cSlY hs (rb1 ?_)
    obtain ⟨pv, M, hS, hT⟩ := I.2.2.2.2.2.1 s hs
    have hct := fb_ct_le pv n
    generalize hd : fb_ct pv n = d at hct
    have hm : ∀ (P : Int32 → ss_S → Prop), wX5_in (Int32.toInt64 x2) 0 (Int32.toInt64 (nI n)) τ (fun r4 σ3 => ((r4 = 0 → P 0 σ3) ∧ (¬ r4 = 0 → wX5_in (Int32.toInt64 x3) 0 (Int32.toInt64 x2) σ3 (fun r6 σ5 => ((r6 = 0 → P 0 σ5) ∧ (¬ r6 = 0 → ((x3 ≤ nI d → wX5_gauss ((σ5 0 1) - nI d) (x2 - x3) σ5 (fun r8 σ7 => ((¬ r8 = 0 → wX5_gauss (nI d) x3 σ7 (fun r10 σ9 => wX5_power (σ9 0 0) ((nI d - x3) * (x2 - x3)) σ9 (fun r12 σ11 => P ((r10 * r8) * r12) σ11))) ∧ (r8 = 0 → P 0 σ7)))) ∧ (¬ x3 ≤ nI d → P 0 σ5)))))))) → wX5_meeting (nI s) x2 x3 τ P := fun P hP => mSlY hs (rb1 (And.intro (vin hs) (by rw [ncl hs, hT.1, hM.2.2.1, hd]; exact hP)))
    have hn1 : (nI n).toInt = ((n + 1 : Nat) : Int) - 1 := by rw [nI_toInt (by omega)]; omega
    rcases n_cases (n + 1) x2 with ⟨k, hk, rfl⟩ | hx
    · refine cDimY hC (by omega) (br1 ?_)
      have hm2 : ∀ (P : Int32 → ss_S → Prop), wX5_in (Int32.toInt64 x3) 0 (Int32.toInt64 (nI k)) τ (fun r6 σ5 => ((r6 = 0 → P 0 σ5) ∧ (¬ r6 = 0 → ((x3 ≤ nI d → wX5_gauss ((σ5 0 1) - nI d) (nI k - x3) σ5 (fun r8 σ7 => ((¬ r8 = 0 → wX5_gauss (nI d) x3 σ7 (fun r10 σ9 => wX5_power (σ9 0 0) ((nI d - x3) * (nI k - x3)) σ9 (fun r12 σ11 => P ((r10 * r8) * r12) σ11))) ∧ (r8 = 0 → P 0 σ7)))) ∧ (¬ x3 ≤ nI d → P 0 σ5))))) → wX5_meeting (nI s) (nI k) x3 τ P := fun P hP => hm P (pX5_inN (b := n + 1) (by omega) hn1 (fun _ _ _ => br1 hP) (fun hx => absurd rfl (hx k hk)))
      have hk1 : (nI k).toInt = ((k + 1 : Nat) : Int) - 1 := by rw [nI_toInt (by omega)]; omega
      rcases n_cases (n + 1) x3 with ⟨j, hj, rfl⟩ | hx
      · refine cDimY hC (by omega) (rb1 (And.intro (vin hs) ?_))
        rw [ncl hs]
        refine pX3_rank h6 hS.2.1 ?_
        rw [hd]
        have zero : ∀ (σ1 : ss_S) (a b : Int32), a * b = 0 → wX5_meeting (nI s) (nI k) (nI j) τ (fun r' τ1 => 0 = r' ∧ Inv σ τ1) → ((¬ (a * b) = 0 → wX0_power ((nI d - nI j) * (nI k - nI j)) σ (fun r15 σ14 => wX5_meeting (nI s) (nI k) (nI j) τ (fun r' τ1 => (a * b) * r15 = r' ∧ Inv σ14 τ1))) ∧ ((a * b) = 0 → wX5_meeting (nI s) (nI k) (nI j) τ (fun r' τ1 => 0 = r' ∧ Inv σ τ1))) := fun σ1 a b e hP => And.intro (fun hc => absurd e hc) (fun _ => hP)
        rcases Nat.lt_or_ge k j with hjk | hjk
        · have mz : wX5_meeting (nI s) (nI k) (nI j) τ (fun r' τ1 => 0 = r' ∧ Inv σ τ1) := hm2 _ (pX5_inN (b := k + 1) (by omega) hk1 (fun v hv e => absurd ((nI_eq (by omega) (by omega)).mp e) (by omega)) (fun _ => br0 ⟨rfl, hI⟩))
          have fin : ∀ a : Int32, wX0_spaces (nI n - nI d) (nI k - nI j) σ (fun r13 σ12 => ((¬ (a * r13) = 0 → wX0_power ((nI d - nI j) * (nI k - nI j)) σ12 (fun r15 σ14 => wX5_meeting (nI s) (nI k) (nI j) τ (fun r' τ1 => (a * r13) * r15 = r' ∧ Inv σ14 τ1))) ∧ ((a * r13) = 0 → wX5_meeting (nI s) (nI k) (nI j) τ (fun r' τ1 => 0 = r' ∧ Inv σ12 τ1)))) := fun a => by
            rw [pk_sub hct]
            exact pX0_spaces0 (by omega) (neg_ne (by omega) (by omega) (by omega) hjk) (zero σ a 0 (Int32.mul_zero) mz)
          rcases Nat.lt_or_ge d j with x | x
          · refine pX0_spaces0 (by omega) (fun v hv e => absurd ((nI_eq (by omega) (by omega)).mp e) (by omega)) ?_
            rw [hC.2.2.1]; exact fin 0
          · refine pX0_spaces hC.2.1 (okq.of hC.1 (by omega)) x ?_
            rw [hC.2.2.1]; exact fin _
        · rcases Nat.lt_or_ge d j with hdj | hdj
          · have mz : wX5_meeting (nI s) (nI k) (nI j) τ (fun r' τ1 => 0 = r' ∧ Inv σ τ1) := hm2 _ (pX5_inN (b := k + 1) (by omega) hk1 (fun _ _ _ => br1 (And.intro (fun hc => absurd ((nI_leI (by omega) (by omega)).mp hc) (by omega)) (fun _ => ⟨rfl, hI⟩))) (fun hx => absurd rfl (hx j (by omega))))
            refine pX0_spaces0 (by omega) (fun v hv e => absurd ((nI_eq (by omega) (by omega)).mp e) (by omega)) ?_
            rw [hC.2.2.1, pk_sub hct, pk_sub hjk]
            rcases Nat.lt_or_ge (n - d) (k - j) with x | x
            · exact pX0_spaces0 (by omega) (fun v hv e => absurd ((nI_eq (by omega) (by omega)).mp e) (by omega)) (And.intro (fun hc => absurd (Int32.zero_mul) hc) (fun _ => mz))
            · exact pX0_spaces hC.2.1 (okq.of hC.1 (by omega)) x (And.intro (fun hc => absurd (Int32.zero_mul) hc) (fun _ => mz))
          · have mm : ∀ (P : Int32 → ss_S → Prop), wX5_gauss (nI (n - d)) (nI (k - j)) τ (fun r8 σ7 => ((¬ r8 = 0 → wX5_gauss (nI d) (nI j) σ7 (fun r10 σ9 => wX5_power (σ9 0 0) ((nI d - nI j) * (nI k - nI j)) σ9 (fun r12 σ11 => P ((r10 * r8) * r12) σ11))) ∧ (r8 = 0 → P 0 σ7))) → wX5_meeting (nI s) (nI k) (nI j) τ P := fun P hP => hm2 P (pX5_inN (b := k + 1) (by omega) hk1 (fun _ _ _ => br1 (And.intro (fun _ => by rw [hM.2.2.1, pk_sub hct, pk_sub hjk]; rw [pk_sub hjk] at hP; exact hP) (fun hc => absurd (nI_le hdj (by omega)) hc))) (fun hx => absurd rfl (hx j (by omega))))
            refine pX0_spaces hC.2.1 (okq.of hC.1 hct) hdj ?_
            rw [hC.2.2.1, pk_sub hct, pk_sub hjk]
            rcases Nat.lt_or_ge (n - d) (k - j) with x | x
            · have mz : wX5_meeting (nI s) (nI k) (nI j) τ (fun r' τ1 => 0 = r' ∧ Inv σ τ1) := mm _ (pX5_gauss0 (by omega) (fun v hv e => absurd ((nI_eq (by omega) (by omega)).mp e) (by omega)) (rb0 ⟨rfl, hI⟩))
              exact pX0_spaces0 (by omega) (fun v hv e => absurd ((nI_eq (by omega) (by omega)).mp e) (by omega)) (And.intro (fun hc => absurd (Int32.mul_zero) hc) (fun _ => mz))
            · obtain ⟨_, a1, _, _, _, _, _, _, a2⟩ := gs_all (okq.of hC.1 hct) hdj
              obtain ⟨_, b1, _, _, _, _, _, _, b2⟩ := gs_all (okq.of hC.1 (show n - d ≤ n by omega)) x
              have hb : gsN q d j * gsN q (n - d) (k - j) < 2 ^ 15 * 2 ^ 15 := Nat.mul_lt_mul'' a1 b1
              have hp : 0 < gsN q d j * gsN q (n - d) (k - j) := Nat.mul_pos a2 b2
              refine pX0_spaces hC.2.1 (okq.of hC.1 (by omega)) x ?_
              rw [pk_mul]
              refine And.intro (fun _ => ?_) (fun hc => absurd hc (nI_ne0 hp (by omega)))
              have hjk36 : (d - j) * (k - j) ≤ 6 * 6 := Nat.mul_le_mul (by omega) (by omega)
              rw [pk_sub hdj, pk_mul]
              refine pX0_power hC.2.1 _ (by omega) (mm _ ?_)
              refine pX5_gauss hM.2.1 (okq.of hC.1 (by omega)) x (And.intro (fun _ => ?_) (fun hc => absurd hc (nI_ne0 b2 (by omega))))
              refine pX5_gauss hM.2.1 (okq.of hC.1 hct) hdj ?_
              rw [hM.2.1, pk_sub hdj, pk_sub hjk, pk_mul]
              refine pX5_power _ (by omega) ⟨?_, hI⟩
              simp only [pk_mul]
      · have mz : wX5_meeting (nI s) (nI k) x3 τ (fun r' τ1 => 0 = r' ∧ Inv σ τ1) := hm2 _ (pX5_inN (b := k + 1) (by omega) hk1 (fun v hv e => absurd e (hx v (by omega))) (fun _ => br0 ⟨rfl, hI⟩))
        exact cDimN hC hx (rb0 mz)
    · exact cDimN hC hx (br0 (hm _ (pX5_inN (b := n + 1) (by omega) hn1 (fun v hv e => absurd e (hx v hv)) (fun _ => br0 ⟨rfl, hI⟩))))
  · exact cSlN hx (rb0 (mSlN hx (rb0 ⟨rfl, hI⟩)))
