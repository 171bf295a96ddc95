theorem la_e_val {q n i : Nat} (hi : i < n) : la_val q (la_e i) n = q ^ (n - 1 - i) := by
  rw [la_val_sm, la_sm_one (p := i) hi (fun j _ hne => by unfold la_e; rw [if_neg hne, Nat.zero_mul])]
  unfold la_e
  rw [if_pos rfl, Nat.one_mul]
theorem q_cases (x1 x2 : Int32) : (∃ q n, la_q q n ∧ x1 = nI q ∧ x2 = nI n) ∨ ∀ q n, la_q q n → x1 = nI q → x2 ≠ nI n := by
  by_cases h : ∃ q n, la_q q n ∧ x1 = nI q ∧ x2 = nI n
  · exact Or.inl h
  · exact Or.inr (fun q n a b c => h ⟨q, n, a, b, c⟩)
theorem i_ge1 {x : Int32} (h : ¬ x < 1) : ∃ j : Nat, j < 2 ^ 31 ∧ 1 ≤ j ∧ x = nI j := by
  have h0 : ¬ x < 0 := by rw [fa_lt] at h ⊢; have : (1 : Int32).toInt = 1 := rfl; have : (0 : Int32).toInt = 0 := rfl; omega
  obtain ⟨j, hj, rfl⟩ := nI_of h0
  refine ⟨j, hj, ?_, rfl⟩
  rcases Nat.eq_zero_or_pos j with e | e
  · subst e; exact absurd (by decide) h
  · exact e
theorem cField {σ : ss_S} {x1 x2 : Int32} {post : Int32 → ss_S → Prop} (hN : (∀ q n, la_q q n → x1 = nI q → x2 ≠ nI n) → post (-102) σ)
    (hY : ∀ q n, la_q q n → x1 = nI q → x2 = nI n → ∀ σ' : ss_S, FrC σ' q n → σ' 0 = σ 0 → σ' 3 2 = nI 0 → (∀ k, k < 12 → SpC σ' (9 + 3 * k) q n la_no (fun _ => la_z)) → LnC σ' q n la_e → post (nI (q ^ n)) σ') : wX4_field x1 x2 σ post := by
  unfold wX4_field
  refine And.intro (fun hc => hN (fun q n hq _ e => ?_)) (fun hc => ?_)
  · rw [e] at hc
    exact nI_nlt (b := 1) hq.n1 (by have := hq.n6; omega) hc
  · obtain ⟨n, hn31, hn1, rfl⟩ := i_ge1 hc
    have fin : ∀ m q : Nat, (∀ n', la_q q n' ↔ 1 ≤ n' ∧ n' ≤ m) → m ≤ 6 → q ≤ 5 → x1 = nI q → ((nI n ≤ nI m → wX0_become x1 (nI n) σ (fun σ3 => (∃ f_27, lX4_field_27 post (fun x3_6 σ_6 => wX2_becomeIdentity (u2 σ_6 3 2 0) (fun σ7 => post (σ7 1 2) σ7)) f_27 0 σ3))) ∧ (¬ nI n ≤ nI m → post ((-102)) σ)) := by
      intro m q hm hm6 hq5 hx
      refine And.intro (fun hle => ?_) (fun hle => hN (fun q' n' hq' e1 e2 => ?_))
      · have hnm : n ≤ m := (nI_leI hn31 (by omega)).mp hle
        have hq := (hm n).mpr ⟨hn1, hnm⟩
        rw [hx]
        unfold wX0_become
        refine pX0_power (q := q) (by rw [u2_at, pk_un (by omega), u2_at, pk_us]) n hn31 ?_
        have key : ∀ (K : Int32 → ss_S → Prop) (σ0 : ss_S), (∀ σ1 : ss_S, σ1 0 = σ0 0 → σ1 1 = σ0 1 → (∀ k, k < 12 → σ1 (9 + 3 * k) 3 = 0) → K (nI 12) σ1) → ∀ d i, i + d = 12 → ∀ σ1 : ss_S, σ1 0 = σ0 0 → σ1 1 = σ0 1 → (∀ k, k < i → σ1 (9 + 3 * k) 3 = 0) → lX4_field_27 post K (d + 1) (nI i) σ1 := by
          intro K σ0 hK d
          induction d with
          | zero =>
            intro i hi σ1 h1 h2 h3
            have e : i = 12 := by omega
            subst e
            exact And.intro (fun _ => hK σ1 h1 h2 h3) (fun hc => absurd (nI_le (a := 12) (b := 12) (Nat.le_refl _) (by omega)) hc)
          | succ d ih =>
            intro i hi σ1 h1 h2 h3
            refine And.intro (fun hc => absurd hc (nI_ge (b := 12) (by omega) (by omega))) (fun _ => And.intro (vin (by omega)) ?_)
            rw [ncl (by omega)]
            unfold wX3_becomeZero
            rw [nI_1]
            refine ih (i + 1) (by omega) _ (by rw [u2_ne _ _ _ (by omega)]; exact h1) (by rw [u2_ne _ _ _ (by omega)]; exact h2) (fun k hk => ?_)
            by_cases e : k = i
            · rw [e, u2_at, pk_us]
            · rw [u2_ne _ _ _ (by omega)]; exact h3 k (by omega)
        refine ⟨13, key _ _ (fun σ1 h1 h2 h3 => ?_) 12 0 (by omega) _ rfl rfl (fun k hk => absurd hk (Nat.not_lt_zero _))⟩
        have hF1 : FrC (u2 σ1 3 2 0) q n := by
          refine ⟨hq, ?_, ?_, ?_⟩
          · rw [u2_ne _ _ _ (by omega), h2, u2_at, pk_un (by omega), u2_at, pk_un (by omega), u2_at, pk_us]
          · rw [u2_ne _ _ _ (by omega), h2, u2_at, pk_un (by omega), u2_at, pk_us]
          · rw [u2_ne _ _ _ (by omega), h2, u2_at, pk_us]
        refine pX2_becomeIdentity hF1 (fun f hL => ?_)
        have hF2 := hF1.sA (a := 7) (by omega) f
        rw [hF2.2.2.2]
        refine hY q n hq hx rfl _ hF2 ?_ (by rw [sA_ne _ _ (by omega), u2_at, pk_us]; rfl) (fun k hk => ⟨la_R_no q n _, ?_, fun p hp => absurd hp (by simp [la_no])⟩) hL
        · rw [sA_ne _ _ (by omega), u2_ne _ _ _ (by omega), h1, u2_ne _ _ _ (by omega), u2_ne _ _ _ (by omega), u2_ne _ _ _ (by omega)]
        · rw [sA_ne _ _ (by omega), u2_ne _ _ _ (by omega), h3 k hk, la_mk_no]; rfl
      · have hq'5 := hq'.five
        have hn'6 := hq'.n6
        have eq : q = q' := (nI_eq (by omega) (by omega)).mp (hx.symm.trans e1)
        subst eq
        have en : n = n' := (nI_eq hn31 (by omega)).mp e2
        subst en
        exact hle ((nI_leI hn31 (by omega)).mpr ((hm n).mp hq').2)
    have bad : (∀ q n', la_q q n' → x1 ≠ nI q) → ((nI n ≤ 0 → wX0_become x1 (nI n) σ (fun σ3 => (∃ f_27, lX4_field_27 post (fun x3_6 σ_6 => wX2_becomeIdentity (u2 σ_6 3 2 0) (fun σ7 => post (σ7 1 2) σ7)) f_27 0 σ3))) ∧ (¬ nI n ≤ 0 → post ((-102)) σ)) := fun hb => And.intro (fun hle => absurd hle (nI_nle (by omega) hn31)) (fun _ => hN (fun q' n' hq' e1 _ => hb q' n' hq' e1))
    unfold wX4_mostPlaces
    refine And.intro (fun h2 => fin 6 2 (fun n' => by unfold la_q; omega) (by omega) (by omega) h2) (fun n2 => And.intro (fun h3 => fin 5 3 (fun n' => by unfold la_q; omega) (by omega) (by omega) h3) (fun n3 => And.intro (fun h4 => bad (fun q n' hq e => ?_)) (fun n4 => And.intro (fun h5 => fin 4 5 (fun n' => by unfold la_q; omega) (by omega) (by omega) h5) (fun n5 => bad (fun q n' hq e => ?_)))))
    · have hq3 : q = 2 ∨ q = 3 ∨ q = 5 := by unfold la_q at hq; omega
      rcases hq3 with rfl | rfl | rfl
      · exact n2 e
      · exact n3 e
      · rw [h4] at e; exact absurd e (by decide)
    · have hq3 : q = 2 ∨ q = 3 ∨ q = 5 := by unfold la_q at hq; omega
      rcases hq3 with rfl | rfl | rfl
      · exact n2 e
      · exact n3 e
      · exact n5 e
theorem mBegin {τ : ss_S} {q n : Nat} (hq : la_q q n) (h0 : τ 0 0 = nI q) (h1 : τ 0 1 = nI n) {post : ss_S → Prop}
    (hp : ∀ τ' : ss_S, FrM τ' q n → (∀ j, j ≠ 2 → j ≠ 13 → τ' 0 j = τ 0 j) → τ' 0 13 = nI 0 → (∀ k, k < 12 → τ' 4 k = nI 0) → LnM τ' q n la_e → post τ') : wX5_begin τ post := by
  have h6 := hq.n6
  have h5 := hq.five
  unfold wX5_begin
  rw [h0, h1]
  refine pX5_power n (by omega) ?_
  have L1 : ∀ (K : Int32 → ss_S → Prop) (τ0 : ss_S), (∀ f : Nat → Int32, (∀ k, k < 12 → f k = 0) → K (nI 12) (sA τ0 4 f)) → ∀ d i, i + d = 12 → ∀ f : Nat → Int32, (∀ k, k < i → f k = 0) → lX5_begin_17 post K (d + 1) (nI i) (sA τ0 4 f) := by
    intro K τ0 hK d
    induction d with
    | zero =>
      intro i hi f hf
      have e : i = 12 := by omega
      subst e
      exact And.intro (fun _ => hK f hf) (fun hc => absurd (nI_le (a := 12) (b := 12) (Nat.le_refl _) (by omega)) hc)
    | succ d ih =>
      intro i hi f hf
      refine And.intro (fun hc => absurd hc (nI_ge (b := 12) (by omega) (by omega))) (fun _ => And.intro (vin (by omega)) ?_)
      rw [ncl (by omega), u2_sA, nI_1]
      refine ih (i + 1) (by omega) _ (fun k hk => ?_)
      by_cases e : k = i
      · rw [e, pk_us]
      · rw [pk_un e]; exact hf k (by omega)
  have L1' : ∀ (K : Int32 → ss_S → Prop) (τ0 : ss_S), (∀ f : Nat → Int32, (∀ k, k < 12 → f k = 0) → K (nI 12) (sA τ0 4 f)) → lX5_begin_17 post K 13 0 τ0 := by
    intro K τ0 hK
    have := L1 K τ0 hK 12 0 (by omega) (τ0 4) (fun k hk => absurd hk (Nat.not_lt_zero _))
    rw [sA_id] at this
    exact this
  refine ⟨13, L1' _ _ (fun f hf => ?_)⟩
  have hF : FrM (u2 (sA (u2 τ 0 2 (nI (q ^ n))) 4 f) 0 13 0) q n := by
    refine ⟨hq, ?_, ?_, ?_⟩
    · rw [u2_at, pk_un (by omega), sA_ne _ _ (by omega), u2_at, pk_un (by omega)]; exact h0
    · rw [u2_at, pk_un (by omega), sA_ne _ _ (by omega), u2_at, pk_un (by omega)]; exact h1
    · rw [u2_at, pk_un (by omega), sA_ne _ _ (by omega), u2_at, pk_us]
  generalize hτ5 : u2 (sA (u2 τ 0 2 (nI (q ^ n))) 4 f) 0 13 0 = τ5 at hF
  have L2 : ∀ d i, i + d = n → ∀ w : Nat → Int32, (∀ k, k < i → w k = nI (q ^ (n - 1 - k))) → lX5_begin_43 post (fun _ σ_6 => post σ_6) (d + 1) (nI i) (sA τ5 1 w) := by
    intro d
    induction d with
    | zero =>
      intro i hi w hw
      have hF1 := hF.sA (a := 1) (by omega) w
      refine And.intro (fun _ => ?_) (fun hc => absurd (by rw [hF1.2.2.1]; exact nI_le (by omega) (by omega)) hc)
      refine hp _ hF1 (fun j a b => ?_) ?_ (fun k hk => ?_) (fun p hp => ⟨la_e_V hq.two hp, ?_⟩)
      · rw [sA_ne _ _ (by omega), ← hτ5, u2_at, pk_un b, sA_ne _ _ (by omega), u2_at, pk_un a]
      · rw [sA_ne _ _ (by omega), ← hτ5, u2_at, pk_us]; rfl
      · rw [sA_ne _ _ (by omega), ← hτ5, u2_ne _ _ _ (by omega), sA_same]; exact hf k hk
      · rw [sA_same, hw p (by omega), la_e_val hp]
    | succ d ih =>
      intro i hi w hw
      have hF1 := hF.sA (a := 1) (by omega) w
      refine And.intro (fun hc => absurd hc (by rw [hF1.2.2.1]; exact nI_ge (by omega) (by omega))) (fun _ => ?_)
      rw [hF1.2.1, hF1.2.2.1, nI_sub1 (show i < n by omega)]
      refine pX5_power _ (by omega) (And.intro (vp_in_nI (by omega) (by omega)) ?_)
      rw [nI_clamp (by omega), u2_sA, nI_1]
      refine ih (i + 1) (by omega) _ (fun k hk => ?_)
      by_cases e : k = i
      · rw [e, pk_us]
      · rw [pk_un e]; exact hw k (by omega)
  have := L2 n 0 (by omega) (τ5 1) (fun k hk => absurd hk (Nat.not_lt_zero _))
  rw [sA_id] at this
  exact ⟨n + 1, this⟩
theorem mField {τ : ss_S} {x1 x2 : Int32} {post : Int32 → ss_S → Prop} (hN : (∀ q n, la_q q n → x1 = nI q → x2 ≠ nI n) → post (-102) τ)
    (hY : ∀ q n, la_q q n → x1 = nI q → x2 = nI n → ∀ τ' : ss_S, FrM τ' q n → (∀ j, 3 ≤ j → j ≠ 13 → τ' 0 j = τ 0 j) → τ' 0 13 = nI 0 → (∀ k, k < 12 → τ' 4 k = nI 0) → LnM τ' q n la_e → post (nI (q ^ n)) τ') : wX5_field x1 x2 τ post := by
  have fin : ∀ m q : Nat, (∀ n', la_q q n' ↔ 1 ≤ n' ∧ n' ≤ m) → m ≤ 6 → q ≤ 5 → x1 = nI q → wX5_in (Int32.toInt64 x2) 1 (Int32.toInt64 (nI m)) τ (fun r2 σ1 => ((¬ r2 = 0 → wX5_begin (u2 (u2 σ1 0 0 x1) 0 1 x2) (fun σ3 => post (σ3 0 2) σ3)) ∧ (r2 = 0 → post ((-102)) σ1))) := by
    intro m q hm hm6 hq5 hx
    rw [w64_1]
    refine pX5_inI (fun hlo hhi => rb1 ?_) (fun hno => rb0 (hN (fun q' n' hq' e1 e2 => hno ?_)))
    · have h1 : ¬ x2 < 1 := nlt_of_le hlo
      obtain ⟨n, hn31, hn1, rfl⟩ := i_ge1 h1
      have hnm : n ≤ m := (nI_leI hn31 (by omega)).mp hhi
      have hq := (hm n).mpr ⟨hn1, hnm⟩
      refine mBegin hq (by rw [u2_at, pk_un (by omega), u2_at, pk_us]; exact hx) (by rw [u2_at, pk_us]) (fun τ' a b c d e => ?_)
      rw [a.2.2.2]
      refine hY q n hq hx rfl τ' a (fun j h3 h13 => ?_) c d e
      rw [b j (by omega) h13, u2_at, pk_un (by omega), u2_at, pk_un (by omega)]
    · have hq'5 := hq'.five
      have hn'6 := hq'.n6
      have eq : q = q' := (nI_eq (by omega) (by omega)).mp (hx.symm.trans e1)
      subst eq
      have := (hm n').mp hq'
      rw [e2]
      exact ⟨nI_le (a := 1) (by omega) (by omega), nI_le (by omega) (by omega)⟩
  unfold wX5_field
  refine And.intro (fun n2 => And.intro (fun n3 => And.intro (fun n5 => ?_) (fun h5 => fin 4 5 (fun n' => by unfold la_q; omega) (by omega) (by omega) h5)) (fun h3 => fin 5 3 (fun n' => by unfold la_q; omega) (by omega) (by omega) h3)) (fun h2 => fin 6 2 (fun n' => by unfold la_q; omega) (by omega) (by omega) h2)
  rw [w64_1]
  refine pX5_inI (fun hlo hhi => ?_) (fun _ => rb0 (hN (fun q' n' hq' e1 _ => ?_)))
  · rw [fa_le] at hlo hhi
    have a1 : (1 : Int32).toInt = 1 := rfl
    have a0 : (0 : Int32).toInt = 0 := rfl
    omega
  · have hq3 : q' = 2 ∨ q' = 3 ∨ q' = 5 := by unfold la_q at hq'; omega
    rcases hq3 with rfl | rfl | rfl
    · exact n2 e1
    · exact n3 e1
    · exact n5 e1
theorem sim_field {σ τ : ss_S} (hI : Inv σ τ) (x1 x2 : Int32) : wX4_field x1 x2 σ (fun r σ1 => wX5_field x1 x2 τ (fun r' τ1 => r = r' ∧ Inv σ1 τ1)) := by
  obtain ⟨q0, n0, h, g, r, I⟩ := id hI
  refine cField (fun hno => mField (fun _ => ⟨rfl, hI⟩) (fun q n hq e1 e2 => absurd e2 (hno q n hq e1))) (fun q n hq e1 e2 σ' hF h0 h3 hs hL => mField (fun hno => absurd e2 (hno q n hq e1)) (fun q' n' hq' e1' e2' τ' hFM hk h13 h4 hLM => ?_))
  have a1 := hq.five
  have a2 := hq.n6
  have a3 := hq'.five
  have a4 := hq'.n6
  have eq : q = q' := (nI_eq (by omega) (by omega)).mp (e1.symm.trans e1')
  subst eq
  have en : n = n' := (nI_eq (by omega) (by omega)).mp (e2.symm.trans e2')
  subst en
  refine ⟨rfl, q, n, 0, g, r, hF, hFM, ⟨by omega, h3, h13⟩, ⟨I.2.2.2.1.1, by rw [h0]; exact I.2.2.2.1.2.1, by rw [hk 4 (by omega) (by omega)]; exact I.2.2.2.1.2.2⟩, ⟨I.2.2.2.2.1.1, by rw [h0]; exact I.2.2.2.2.1.2.1, by rw [hk 5 (by omega) (by omega)]; exact I.2.2.2.2.1.2.2⟩, fun k hk' => ⟨la_no, fun _ => la_z, hs k hk', by rw [h4 k hk', ct_no], fun p hp => absurd hp (by simp [la_no])⟩, fun k hk' => absurd hk' (Nat.not_lt_zero _), la_e, hL, hLM⟩
theorem sim_image {σ τ : ss_S} (hI : Inv σ τ) (x1 x2 : Int32) : wX4_image x1 x2 σ (fun r σ1 => wX5_image x1 x2 τ (fun r' τ1 => r = r' ∧ Inv σ1 τ1)) := by
  obtain ⟨q, n, h, g, r, I⟩ := id hI
  have hC := I.1
  have hM := I.2.1
  have h6 := hC.1.n6
  obtain ⟨T, T1, T2⟩ := I.2.2.2.2.2.2.2
  have hm : ∀ (P : Int32 → ss_S → Prop), wX5_in (Int32.toInt64 x1) 0 (Int32.toInt64 (nI n - 1)) τ (fun r2 σ1 => ((r2 = 0 → P ((-101)) σ1) ∧ (¬ r2 = 0 → wX5_isVector x2 σ1 (fun r4 σ3 => ((¬ r4 = 0 → (vp_in x1 6 ∧ (vp_in x1 6 ∧ P (σ3 1 (Int32.toNatClampNeg x1)) (u2 σ3 1 (Int32.toNatClampNeg x1) x2)))) ∧ (r4 = 0 → P ((-101)) σ3)))))) → wX5_image x1 x2 τ P := fun P hP => by unfold wX5_image; rw [hM.2.2.1]; exact hP
  unfold wX4_image
  rw [hC.2.2.1]
  rcases n_cases n x1 with ⟨i, hi, rfl⟩ | hx
  · refine And.intro (fun hc => absurd hc (nI_pos (by omega))) (fun _ => And.intro (fun hc => absurd hc (nI_ge hi (by omega))) (fun _ => ?_))
    have hm' : ∀ (P : Int32 → ss_S → Prop), wX5_isVector x2 τ (fun r4 σ3 => ((¬ r4 = 0 → (vp_in (nI i) 6 ∧ (vp_in (nI i) 6 ∧ P (σ3 1 (Int32.toNatClampNeg (nI i))) (u2 σ3 1 (Int32.toNatClampNeg (nI i)) x2)))) ∧ (r4 = 0 → P ((-101)) σ3))) → wX5_image (nI i) x2 τ P := fun P hP => hm P (pX5_inN (b := n) (by omega) (nI_m1_toInt (by omega)) (fun _ _ _ => br1 hP) (fun hx => absurd rfl (hx i hi)))
    rcases vc_cases hC.1 x2 with ⟨u, hu, rfl⟩ | hx
    · refine cVY hC (vl hu) (rb1 ?_)
      refine pX2_imageNumber hC T1 hi (pX2_setImage hC T1 hi (vl hu) (fun f hL => hm' _ ?_))
      refine mVY hM (vl hu) (rb1 (And.intro (vp_in_nI (by omega) (by omega)) (And.intro (vp_in_nI (by omega) (by omega)) ?_)))
      rw [nI_clamp (by omega), (T2 i hi).2]
      rw [la_dig_val hu] at hL
      obtain ⟨a, b, c, d, e, fs, hs, _⟩ := I
      refine ⟨rfl, q, n, h, g, r, a.sA (by omega) f, ⟨b.1, by rw [u2_ne _ _ _ (by omega)]; exact b.2.1, by rw [u2_ne _ _ _ (by omega)]; exact b.2.2.1, by rw [u2_ne _ _ _ (by omega)]; exact b.2.2.2⟩, ⟨c.1, by rw [sA_ne _ _ (by omega)]; exact c.2.1, by rw [u2_ne _ _ _ (by omega)]; exact c.2.2⟩, ⟨d.1, by rw [sA_ne _ _ (by omega)]; exact d.2.1, by rw [u2_ne _ _ _ (by omega)]; exact d.2.2⟩, ⟨e.1, by rw [sA_ne _ _ (by omega)]; exact e.2.1, by rw [u2_ne _ _ _ (by omega)]; exact e.2.2⟩, fun k hk => ?_, fun k hk => ?_, _, hL, fun p hp => ?_⟩
      · obtain ⟨pv, M, s1, s2⟩ := fs k hk
        exact ⟨pv, M, s1.eq (by rw [sA_ne _ _ (by omega)]) (fun j => by rw [sA_ne _ _ (by omega)]), ⟨by rw [u2_ne _ _ _ (by omega)]; exact s2.1, fun p hp => by rw [u2_ne _ _ _ (by omega)]; exact s2.2 p hp⟩⟩
      · obtain ⟨pv, M, s1, s2⟩ := hs k hk
        exact ⟨pv, M, s1.eq (by rw [sA_ne _ _ (by omega)]) (fun j => by rw [sA_ne _ _ (by omega)]), ⟨by rw [u2_ne _ _ _ (by omega)]; exact s2.1, fun p hp => by rw [u2_ne _ _ _ (by omega)]; exact s2.2 p hp⟩⟩
      · by_cases e : p = i
        · subst e; rw [if_pos rfl, u2_at, pk_us]; exact ⟨hu, rfl⟩
        · rw [if_neg e, u2_at, pk_un e]; exact T2 p hp
    · exact cVN hC hx (rb0 (hm' _ (mVN hM hx (rb0 ⟨rfl, hI⟩))))
  · have hend : wX5_image x1 x2 τ (fun r' τ1 => (-101) = r' ∧ Inv σ τ1) := hm _ (pX5_inN (b := n) (by omega) (nI_m1_toInt (by omega)) (fun v hv e => absurd e (hx v hv)) (fun _ => br0 ⟨rfl, hI⟩))
    exact And.intro (fun _ => hend) (fun h0 => And.intro (fun _ => hend) (fun hc => absurd (neq_lt (by omega) hx h0) hc))
theorem sim_kernel {σ τ : ss_S} (hI : Inv σ τ) (x1 : Int32) : wX4_kernel x1 σ (fun r σ1 => wX5_kernel x1 τ (fun r' τ1 => r = r' ∧ Inv σ1 τ1)) := by
  obtain ⟨q, n, h, g, r, I⟩ := id hI
  have hC := I.1
  have hM := I.2.1
  have h6 := hC.1.n6
  have h5 := hC.1.five
  have hq0 := hC.1.pos
  have hpw := la_pow_le hC.1
  obtain ⟨T, T1, T2⟩ := I.2.2.2.2.2.2.2
  rcases sl_cases x1 with ⟨t, ht, rfl⟩ | hx
  · refine cSlY ht (rb1 ?_)
    refine pX2_columnSpace hC T1 isSp_171 (fun σ1 pv1 M1 hO1 hS1 hsp1 => ?_)
    have k1 := hO1.kp0 isSp_171 (by omega)
    refine pX3_becomeDual (k1.Fr hC) isSp_168 isSp_171 (by omega) hS1 (fun σ2 pv2 M2 hO2 hS2 hsp2 => ?_)
    have k2 := k1.trans (hO2.kp0 isSp_168 (by omega))
    refine cSettle (σ0 := σ) h6 ht isSp_168 (by omega) hS2 (fun σ3 k3 hS3 => ?_)
    refine mSlY ht (rb1 ?_)
    have hVt := fun c => la_tr_V hq0 (fun p hp => (T1 p hp).1) c
    have hO7 : OthM τ (u2 τ 0 7 (nI n)) := OthM.w7 _
    rw [hM.2.2.1]
    generalize hτ5 : u2 τ 0 7 (nI n) = τ5 at hO7
    have h75 : τ5 0 7 = nI n := by rw [← hτ5]; exact w7_at _
    have hF5 : FrM τ5 q n := hO7.toT.Fr hM
    have inner : ∀ (K : Int32 → Int32 → ss_S → Prop) (w : Nat → Int32) (col : Nat), col < n → K (nI (la_val q (la_tr n T col) n)) (nI n) (sA τ5 2 w) → ∀ d i, i + d = n → lX5_kernel_33 (nI t) (nI col) (fun r' τ1 => nI (fb_ct pv2 n) = r' ∧ Inv σ3 τ1) K (d + 1) (nI (la_val q (la_tr n T col) i)) (nI i) (sA τ5 2 w) := by
      intro K w col hcol hK d
      have hFw := hF5.sA (a := 2) (by omega) w
      induction d with
      | zero =>
        intro i hi
        have e : i = n := by omega
        subst e
        exact And.intro (fun _ => hK) (fun hc => absurd (by rw [hFw.2.2.1]; exact nI_le (Nat.le_refl _) (by omega)) hc)
      | succ d ih =>
        intro i hi
        have hTi := T2 i (by omega)
        refine And.intro (fun hc => absurd hc (by rw [hFw.2.2.1]; exact nI_ge (by omega) (by omega))) (fun _ => And.intro (vp_in_nI (by omega) (by omega)) ?_)
        rw [nI_clamp (by omega), sA_ne _ _ (show 1 ≠ 2 by omega), hO7.1 1 (by omega) (by omega), hTi.2]
        refine pX5_figure hFw (by have := vl hTi.1; omega) hcol ?_
        rw [la_dig_val hTi.1, hFw.2.1, pk_mul, nI_add, nI_1]
        have e : la_val q (la_tr n T col) i * q + T i col = la_val q (la_tr n T col) (i + 1) := by
          show _ = la_val q (la_tr n T col) i * q + la_tr n T col i
          unfold la_tr
          rw [if_pos (by omega)]
        rw [e]
        exact ih (i + 1) (by omega)
    have outer : ∀ d col, col + d = n → ∀ w : Nat → Int32, (∀ c, c < col → w c = nI (la_val q (la_tr n T c) n)) → lX5_kernel_20 (nI t) (fun r' τ1 => nI (fb_ct pv2 n) = r' ∧ Inv σ3 τ1) (fun x2_6 σ_6 => wX5_settle σ_6 (fun σ7 => wX5_turn σ7 (fun σ8 => wX5_save (nI t) σ8 (fun r10 σ9 => nI (fb_ct pv2 n) = r10 ∧ Inv σ3 σ9)))) (d + 1) (nI col) (sA τ5 2 w) := by
      intro d
      induction d with
      | zero =>
        intro col hcol w hw
        have hFw := hF5.sA (a := 2) (by omega) w
        refine And.intro (fun _ => ?_) (fun hc => absurd (by rw [hFw.2.2.1]; exact nI_le (by omega) (by omega)) hc)
        have hOw := hO7.trans (OthM.work w)
        refine pX5_settle hFw (m := n) (by omega) (by rw [sA_ne _ _ (by omega)]; exact h75) (g := la_tr n T) (fun i hi => hVt i) (fun i hi => by rw [sA_same]; exact hw i (by omega)) (fun τ6 pv6 M6 hO6 hR6 hS6 _ h76 hr6 => ?_)
        have e16 := la_uniqG hC.1.two hS1.1 hR6 hsp1 (fun v => (hS6 v).trans (la_Sp.congr (fun w => Iff.rfl) v))
        obtain ⟨e1, e2⟩ := e16
        subst e1
        refine mTurn ((hOw.trans hO6).toT.Fr hM) hR6 h76 (fun p hpp => by rw [Nat.zero_add]; exact hr6 p hpp) (fun τ7 pv7 M7 hO7' hR7 hS7 h77 hW7 => ?_)
        obtain ⟨e3, e4⟩ := la_uniqG hC.1.two hS2.1 hR7 (fun v => (hsp2 v).trans (la_Sp.congr (fun w => la_dG_cong e2 n w) v)) hS7
        subst e3
        exact mSave h6 ht hR7.1 h77 hW7 (fun τ8 hK hT => ⟨rfl, q, n, h, g, r, I.step (k2.any.trans k3) (((hOw.trans hO6).toT.trans hO7').kp.trans hK) ht ⟨pv2, M2, hS3, hT.cong e4⟩⟩)
      | succ d ih =>
        intro col hcol w hw
        have hFw := hF5.sA (a := 2) (by omega) w
        refine And.intro (fun hc => absurd hc (by rw [hFw.2.2.1]; exact nI_ge (by omega) (by omega))) (fun _ => ?_)
        refine ⟨n + 1, inner _ w col (by omega) ?_ n 0 (by omega)⟩
        refine And.intro (vp_in_nI (by omega) (by omega)) ?_
        rw [nI_clamp (by omega), u2_sA, nI_1]
        refine ih (col + 1) (by omega) _ (fun c hc => ?_)
        by_cases e : c = col
        · rw [e, pk_us]
        · rw [pk_un e]; exact hw c (by omega)
    have := outer n 0 (by omega) (τ5 2) (fun c hc => absurd hc (Nat.not_lt_zero _))
    rw [sA_id] at this
    exact ⟨n + 1, this⟩
  · exact cSlN hx (rb0 (mSlN hx (rb0 ⟨rfl, hI⟩)))
