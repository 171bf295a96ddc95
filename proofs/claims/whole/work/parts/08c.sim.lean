theorem neq_lt {x : Int32} {b : Nat} (hb : b < 2 ^ 31) (hx : ∀ k, k < b → x ≠ nI k) (h0 : ¬ x < 0) : nI b ≤ x := by
  obtain ⟨j, hj, rfl⟩ := nI_of h0
  rcases Nat.lt_or_ge j b with y | y
  · exact absurd rfl (hx j y)
  · exact nI_le y hj
theorem nlt_of_le {a b : Int32} (h : a ≤ b) : ¬ b < a := by rw [fa_lt]; rw [fa_le] at h; omega
theorem sim_plus {σ τ : ss_S} (hI : Inv σ τ) (x1 x2 x3 : Int32) : wX4_plus x1 x2 x3 σ (fun r σ1 => wX5_plus x1 x2 x3 τ (fun r' τ1 => r = r' ∧ Inv σ1 τ1)) := by
  obtain ⟨q, n, h, g, r, I⟩ := id hI
  have hC := I.1
  have hM := I.2.1
  have h5 := hC.1.five
  rcases vc_cases hC.1 x1 with ⟨u, hu, rfl⟩ | hx
  · refine cVY hC (vl hu) (br1 ?_)
    rcases vc_cases hC.1 x2 with ⟨w, hw, rfl⟩ | hx
    · refine cVY hC (vl hw) (rb1 ?_)
      have hm : ∀ (P : Int32 → ss_S → Prop), wX5_in (Int32.toInt64 x3) 0 (Int32.toInt64 (τ 0 0 - 1)) τ (fun r6 σ5 => ((r6 = 0 → P ((-102)) σ5) ∧ (¬ r6 = 0 → wX5_sum (nI (la_val q u n)) (nI (la_val q w n)) x3 σ5 (fun r8 σ7 => P r8 σ7)))) → wX5_plus (nI (la_val q u n)) (nI (la_val q w n)) x3 τ P := fun P hP => mVY hM (vl hu) (br1 (mVY hM (vl hw) (rb1 hP)))
      rcases n_cases q x3 with ⟨k, hk, rfl⟩ | hx
      · refine And.intro (fun hc => absurd hc (nI_pos (by omega))) (fun _ => And.intro (fun _ => ?_) (fun hc => absurd (by rw [hC.2.1]; exact nI_lt hk (by omega)) hc))
        refine pX0_sum hC hu hw (by omega) (hm _ ?_)
        rw [hM.2.1]
        exact pX5_inN (b := q) (by omega) (nI_m1_toInt (by omega)) (fun _ _ _ => br1 (pX5_sum hM hu hw (by omega) ⟨rfl, hI⟩)) (fun hx => absurd rfl (hx k hk))
      · have hend : wX5_plus (nI (la_val q u n)) (nI (la_val q w n)) x3 τ (fun r' τ1 => (-102) = r' ∧ Inv σ τ1) := by
          refine hm _ ?_
          rw [hM.2.1]
          exact pX5_inN (b := q) (by omega) (nI_m1_toInt (by omega)) (fun v hv e => absurd e (hx v hv)) (fun _ => br0 ⟨rfl, hI⟩)
        refine And.intro (fun _ => hend) (fun h0 => And.intro (fun hc => absurd hc ?_) (fun _ => hend))
        rw [hC.2.1]
        exact nlt_of_le (neq_lt (by omega) hx h0)
    · exact cVN hC hx (rb0 (mVY hM (vl hu) (br1 (mVN hM hx (rb0 ⟨rfl, hI⟩)))))
  · exact cVN hC hx (br0 (mVN hM hx (br0 ⟨rfl, hI⟩)))
theorem sim_times {σ τ : ss_S} (hI : Inv σ τ) (x1 x2 : Int32) : wX4_times x1 x2 σ (fun r σ1 => wX5_times x1 x2 τ (fun r' τ1 => r = r' ∧ Inv σ1 τ1)) := by
  obtain ⟨q, n, h, g, r, I⟩ := id hI
  have hC := I.1
  have hM := I.2.1
  rcases vc_cases hC.1 x1 with ⟨u, hu, rfl⟩ | hx
  · refine cVY hC (vl hu) (br1 ?_)
    rcases vc_cases hC.1 x2 with ⟨w, hw, rfl⟩ | hx
    · exact cVY hC (vl hw) (rb1 (pX0_product hC hu hw (mVY hM (vl hu) (br1 (mVY hM (vl hw) (br1 (pX5_product hM hu hw ⟨rfl, hI⟩)))))))
    · exact cVN hC hx (rb0 (mVY hM (vl hu) (br1 (mVN hM hx (br0 ⟨rfl, hI⟩)))))
  · exact cVN hC hx (br0 (mVN hM hx (br0 ⟨rfl, hI⟩)))
theorem sim_add {σ τ : ss_S} (hI : Inv σ τ) (x1 x2 : Int32) : wX4_add x1 x2 σ (fun r σ1 => wX5_add x1 x2 τ (fun r' τ1 => r = r' ∧ Inv σ1 τ1)) := by
  obtain ⟨q, n, h, g, r, I⟩ := id hI
  have hC := I.1
  have hM := I.2.1
  have h6 := hC.1.n6
  rcases sl_cases x1 with ⟨k, hk, rfl⟩ | hx
  · refine cSlY hk (br1 ?_)
    rcases vc_cases hC.1 x2 with ⟨u, hu, rfl⟩ | hx
    · refine cVY hC (vl hu) (rb1 ?_)
      obtain ⟨pv, M, hS, hT⟩ := I.2.2.2.2.2.1 k hk
      refine pX0_spell (o := 0) hC (by omega) (vl hu) (by rw [len6]; omega) ?_
      rw [la_dig_val hu, ncl hk]
      refine And.intro (vin hk) ?_
      have k1 := KpC.fig (σ := σ) (fb_put (σ 6) (fun c => nI (u c)) 0 n)
      refine pX3_joinVector (o := 0) (k1.Fr hC) (isSp_sl hk) (k1.Sp (isSp_sl hk) (by omega) (by omega) hS) hu (by rw [len6]; omega) (fun c hc => by rw [sA_same, fb_put_in (by omega) (by omega), Nat.zero_add, Nat.sub_zero]) (fun σ' pv' M' hO hS' hsp => ?_)
      refine And.intro (vin hk) (pX3_rank h6 hS'.2.1 ?_)
      refine mSlY hk (br1 (mVY hM (vl hu) (rb1 ?_)))
      refine mLoad0 h6 hk hS.1.1 hT (fun τ1 hO1 h71 hW1 => ?_)
      have hct := fb_ct_le pv n
      rw [h71]
      refine And.intro (vp_in_nI (by omega) (by omega)) ?_
      rw [nI_clamp (by omega), u2_ne _ _ _ (show 0 ≠ 2 by omega), h71, nI_1]
      have hO2 : OthM τ1 (u2 (u2 τ1 2 (fb_ct pv n) (nI (la_val q u n))) 0 7 (nI (fb_ct pv n + 1))) := ⟨fun j a b => by rw [u2_ne _ _ _ a, u2_ne _ _ _ b], fun j hj => by rw [u2_at, pk_un hj, u2_ne _ _ _ (by omega)]⟩
      refine mSettleV ((hO1.trans hO2).toT.Fr hM) hS.1 hu (w7_at _) (hW1.keep hS.1.1 (fun j hj => by rw [u2_ne _ _ _ (by omega), u2_at, pk_un (by omega)])) (by rw [u2_ne _ _ _ (by omega), u2_at, pk_us]) (fun τ3 pv3 M3 hO3 hR3 hS3 h73 hW3 => ?_)
      obtain ⟨e1, e2⟩ := la_uniqG hC.1.two hS'.1 hR3 hsp hS3
      subst e1
      refine mSave h6 hk hR3.1 h73 hW3 (fun τ4 hK4 hT4 => ⟨rfl, q, n, h, g, r, I.step ((k1.any).trans (hO.kp (isSp_sl hk))) (((hO1.trans hO2).trans hO3).kp.trans hK4) hk ⟨pv', M', hS', hT4.cong e2⟩⟩)
    · exact cVN hC hx (rb0 (mSlY hk (br1 (mVN hM hx (rb0 ⟨rfl, hI⟩)))))
  · exact cSlN hx (br0 (mSlN hx (br0 ⟨rfl, hI⟩)))
theorem SpC.mkz {σ : ss_S} {s q n : Nat} {pv : Nat → Bool} {M : Nat → la_W} (h : SpC σ s q n pv M) : σ s 3 = nI (la_mk n pv) := h.2.1
theorem ct_no (n : Nat) : fb_ct la_no n = 0 := fb_ct_zero.mpr (fun k _ => rfl)
theorem sim_clear {σ τ : ss_S} (hI : Inv σ τ) (x1 : Int32) : wX4_clear x1 σ (fun r σ1 => wX5_clear x1 τ (fun r' τ1 => r = r' ∧ Inv σ1 τ1)) := by
  obtain ⟨q, n, h, g, r, I⟩ := id hI
  have hC := I.1
  have hM := I.2.1
  have h6 := hC.1.n6
  rcases sl_cases x1 with ⟨k, hk, rfl⟩ | hx
  · refine cSlY hk (rb1 ?_)
    obtain ⟨pv, M, hS, hT⟩ := I.2.2.2.2.2.1 k hk
    rw [ncl hk]
    refine And.intro (vin hk) (pX3_rank h6 hS.2.1 (And.intro (vin hk) ?_))
    unfold wX3_becomeZero
    dsimp only
    unfold wX5_clear
    refine mSlY hk (rb1 (And.intro (vin hk) (And.intro (vin hk) ?_)))
    rw [ncl hk, hT.1]
    refine ⟨rfl, q, n, h, g, r, I.step (Oth.zero.kp (isSp_sl hk)) ?_ hk ⟨la_no, fun _ => la_z, SpC.zero _, ?_⟩⟩
    · refine ⟨u2_ne _ _ _ (by omega), u2_ne _ _ _ (by omega), u2_ne _ _ _ (by omega), fun j _ => by rw [u2_ne _ _ _ (by omega)], fun k' _ hne => ⟨?_, fun j _ => by rw [u2_ne _ _ _ (by omega)]⟩⟩
      rw [u2_at, pk_un hne]
    · exact ⟨by rw [u2_at, pk_us, ct_no]; rfl, fun p hp => absurd hp (by simp [la_no])⟩
  · exact cSlN hx (rb0 (mSlN hx (rb0 ⟨rfl, hI⟩)))
theorem sim_dim {σ τ : ss_S} (hI : Inv σ τ) (x1 : Int32) : wX4_dim x1 σ (fun r σ1 => wX5_dim x1 τ (fun r' τ1 => r = r' ∧ Inv σ1 τ1)) := by
  obtain ⟨q, n, h, g, r, I⟩ := id hI
  have h6 := I.1.1.n6
  rcases sl_cases x1 with ⟨k, hk, rfl⟩ | hx
  · refine cSlY hk (br1 ?_)
    obtain ⟨pv, M, hS, hT⟩ := I.2.2.2.2.2.1 k hk
    rw [ncl hk]
    refine And.intro (vin hk) (pX3_rank h6 hS.2.1 ?_)
    refine mSlY hk (br1 (And.intro (vin hk) ?_))
    rw [ncl hk, hT.1]
    exact ⟨rfl, hI⟩
  · exact cSlN hx (br0 (mSlN hx (br0 ⟨rfl, hI⟩)))
theorem sim_row {σ τ : ss_S} (hI : Inv σ τ) (x1 x2 : Int32) : wX4_row x1 x2 σ (fun r σ1 => wX5_row x1 x2 τ (fun r' τ1 => r = r' ∧ Inv σ1 τ1)) := by
  obtain ⟨q, n, h, g, r, I⟩ := id hI
  have h6 := I.1.1.n6
  rcases sl_cases x1 with ⟨k, hk, rfl⟩ | hx
  · refine cSlY hk (br1 ?_)
    obtain ⟨pv, M, hS, hT⟩ := I.2.2.2.2.2.1 k hk
    have hct := fb_ct_le pv n
    rw [ncl hk]
    have hm : ∀ (P : Int32 → ss_S → Prop), wX5_in (Int32.toInt64 x2) 0 (Int32.toInt64 (nI (fb_ct pv n) - 1)) τ (fun r4 σ3 => ((r4 = 0 → P ((-1)) σ3) ∧ (¬ r4 = 0 → (vp_in ((6 * nI k) + x2) 72 ∧ P (σ3 5 (Int32.toNatClampNeg ((6 * nI k) + x2))) σ3)))) → wX5_row (nI k) x2 τ P := fun P hP => mSlY hk (rb1 (And.intro (vin hk) (by rw [ncl hk, hT.1]; exact hP)))
    refine And.intro (vin hk) (pX3_rowNumber I.1 (isSp_sl hk) hS (fun p hp e => hm _ ?_) (fun hno => hm _ ?_))
    · have hl := la_ct_lt hp (hS.1.1 p hp)
      subst e
      refine pX5_inN (b := fb_ct pv n) (by omega) (nI_m1_toInt (by omega)) (fun _ _ _ => br1 ?_) (fun hx => absurd rfl (hx _ hl))
      rw [nI_6m, nI_add, nI_clamp (by omega), hT.2 p hp]
      exact ⟨vp_in_nI (by omega) (by omega), rfl, hI⟩
    · refine pX5_inN (b := fb_ct pv n) (by omega) (nI_m1_toInt (by omega)) (fun v hv e => ?_) (fun _ => br0 ⟨rfl, hI⟩)
      obtain ⟨p, _, h2, h3⟩ := fb_ct_kth hv
      exact absurd (by rw [h3]; exact e) (hno p h2)
  · exact cSlN hx (br0 (mSlN hx (rb0 ⟨rfl, hI⟩)))
theorem cSettle {σ σ0 : ss_S} {q n t s : Nat} (hn : n ≤ 6) (ht : t < 12) (hs : isSp s) (hne : s ≠ 9 + 3 * t) {pv : Nat → Bool} {M : Nat → la_W} (hS : SpC σ s q n pv M) {post : Int32 → ss_S → Prop} (hp : ∀ σ', KpC (9 + 3 * t) σ σ' → SpC σ' (9 + 3 * t) q n pv M → post (nI (fb_ct pv n)) σ') : wX4_settle s (nI t) σ post := by
  unfold wX4_settle
  rw [ncl ht]
  refine And.intro (vin ht) (pX3_copyFrom hn (isSp_sl ht) hs (Ne.symm hne) hS (fun σ1 hO hS1 => ?_))
  exact pX3_rank hn (hO.Sp (isSp_sl ht) hs hne hS).2.1 (hp σ1 (hO.kp (isSp_sl ht)) hS1)
theorem mAreN1 {τ : ss_S} {x y z : Int32} (hx : ∀ k, k < 12 → x ≠ nI k) {post : Int32 → ss_S → Prop} (h : post 0 τ) : wX5_areSlots x y z τ post := mSlN hx (br0 h)
theorem mAreN2 {τ : ss_S} {a : Nat} {y z : Int32} (ha : a < 12) (hx : ∀ k, k < 12 → y ≠ nI k) {post : Int32 → ss_S → Prop} (h : post 0 τ) : wX5_areSlots (nI a) y z τ post := mSlY ha (br1 (mSlN hx (br0 h)))
theorem mAreN3 {τ : ss_S} {a b : Nat} {z : Int32} (ha : a < 12) (hb : b < 12) (hx : ∀ k, k < 12 → z ≠ nI k) {post : Int32 → ss_S → Prop} (h : post 0 τ) : wX5_areSlots (nI a) (nI b) z τ post := mSlY ha (br1 (mSlY hb (br1 (mSlN hx (br0 h)))))
theorem sim_join {σ τ : ss_S} (hI : Inv σ τ) (x1 x2 x3 : Int32) : wX4_join x1 x2 x3 σ (fun r σ1 => wX5_join x1 x2 x3 τ (fun r' τ1 => r = r' ∧ Inv σ1 τ1)) := by
  obtain ⟨q, n, h, g, r, I⟩ := id hI
  have hC := I.1
  have hM := I.2.1
  have h6 := hC.1.n6
  rcases sl_cases x1 with ⟨a, ha, rfl⟩ | hx
  · refine cSlY ha (br1 ?_)
    rcases sl_cases x2 with ⟨b, hb, rfl⟩ | hx
    · refine cSlY hb (br1 ?_)
      rcases sl_cases x3 with ⟨t, ht, rfl⟩ | hx
      · refine cSlY ht (rb1 ?_)
        obtain ⟨pva, Ma, hSa, hTa⟩ := I.2.2.2.2.2.1 a ha
        obtain ⟨pvb, Mb, hSb, hTb⟩ := I.2.2.2.2.2.1 b hb
        rw [ncl ha, ncl hb]
        refine And.intro (vin ha) (pX3_copyFrom h6 isSp_168 (isSp_sl ha) (by omega) hSa (fun σ1 hO1 hS1 => And.intro (vin hb) ?_))
        have k1 := hO1.kp0 isSp_168 (by omega)
        refine pX3_joinSpace (k1.Fr hC) isSp_168 (isSp_sl hb) (by omega) hS1 (k1.Sp (isSp_sl hb) (by omega) (by omega) hSb) (fun σ2 pv' M' hO2 hS2 hsp => ?_)
        have k2 := k1.trans (hO2.kp0 isSp_168 (by omega))
        refine cSettle (σ0 := σ) h6 ht isSp_168 (by omega) hS2 (fun σ3 k3 hS3 => ?_)
        refine mAreY ha hb ht (rb1 ?_)
        refine mJoined hM ha hb hSa.1 hTa hSb.1 hTb (fun τ1 pv1 M1 hO hR hSS h7 hW => ?_)
        obtain ⟨e1, e2⟩ := la_uniqG hC.1.two hS2.1 hR hsp hSS
        subst e1
        exact mSave h6 ht hR.1 h7 hW (fun τ2 hK hT => ⟨rfl, q, n, h, g, r, I.step (k2.any.trans k3) (hO.kp.trans hK) ht ⟨pv', M', hS3, hT.cong e2⟩⟩)
      · exact cSlN hx (rb0 (mAreN3 ha hb hx (rb0 ⟨rfl, hI⟩)))
    · exact cSlN hx (br0 (mAreN2 ha hx (rb0 ⟨rfl, hI⟩)))
  · exact cSlN hx (br0 (mAreN1 hx (rb0 ⟨rfl, hI⟩)))
theorem sim_dual {σ τ : ss_S} (hI : Inv σ τ) (x1 x2 : Int32) : wX4_dual x1 x2 σ (fun r σ1 => wX5_dual x1 x2 τ (fun r' τ1 => r = r' ∧ Inv σ1 τ1)) := by
  obtain ⟨q, n, h, g, r, I⟩ := id hI
  have hC := I.1
  have hM := I.2.1
  have h6 := hC.1.n6
  rcases sl_cases x1 with ⟨a, ha, rfl⟩ | hx
  · refine cSlY ha (br1 ?_)
    rcases sl_cases x2 with ⟨t, ht, rfl⟩ | hx
    · refine cSlY ht (rb1 ?_)
      obtain ⟨pva, Ma, hSa, hTa⟩ := I.2.2.2.2.2.1 a ha
      rw [ncl ha]
      refine And.intro (vin ha) (pX3_becomeDual hC isSp_168 (isSp_sl ha) (by omega) hSa (fun σ1 pv' M' hO1 hS1 hsp => ?_))
      have k1 := hO1.kp0 isSp_168 (by omega)
      refine cSettle (σ0 := σ) h6 ht isSp_168 (by omega) hS1 (fun σ3 k3 hS3 => ?_)
      refine mAreY ha ha ht (rb1 ?_)
      refine mLoad0 h6 ha hSa.1.1 hTa (fun τ1 hO h71 hW1 => ?_)
      refine mTurn (hO.toT.Fr hM) hSa.1 h71 hW1 (fun τ2 pv2 M2 hO2 hR2 hS2 h72 hW2 => ?_)
      obtain ⟨e1, e2⟩ := la_uniqG hC.1.two hS1.1 hR2 hsp hS2
      subst e1
      exact mSave h6 ht hR2.1 h72 hW2 (fun τ3 hK hT => ⟨rfl, q, n, h, g, r, I.step (k1.any.trans k3) ((hO.toT.trans hO2).kp.trans hK) ht ⟨pv', M', hS3, hT.cong e2⟩⟩)
    · exact cSlN hx (rb0 (mAreN3 ha ha hx (rb0 ⟨rfl, hI⟩)))
  · exact cSlN hx (br0 (mAreN1 hx (rb0 ⟨rfl, hI⟩)))
theorem sim_has {σ τ : ss_S} (hI : Inv σ τ) (x1 x2 : Int32) : wX4_has x1 x2 σ (fun r σ1 => wX5_has x1 x2 τ (fun r' τ1 => r = r' ∧ Inv σ1 τ1)) := by
  obtain ⟨q, n, h, g, r, I⟩ := id hI
  have hC := I.1
  have hM := I.2.1
  have h6 := hC.1.n6
  rcases sl_cases x1 with ⟨k, hk, rfl⟩ | hx
  · refine cSlY hk (br1 ?_)
    rcases vc_cases hC.1 x2 with ⟨u, hu, rfl⟩ | hx
    · refine cVY hC (vl hu) (rb1 ?_)
      obtain ⟨pv, M, hS, hT⟩ := I.2.2.2.2.2.1 k hk
      refine pX0_spell (o := 0) hC (by omega) (vl hu) (by rw [len6]; omega) ?_
      rw [la_dig_val hu, ncl hk]
      refine And.intro (vin hk) ?_
      have k1 := KpC.fig (σ := σ) (fb_put (σ 6) (fun c => nI (u c)) 0 n)
      have hI1 : Inv (sA σ 6 (fb_put (σ 6) (fun c => nI (u c)) 0 n)) τ := ⟨q, n, h, g, r, I.keep k1 KpM.rf⟩
      refine pX3_holds (o := 0) (k1.Fr hC) (isSp_sl hk) (k1.Sp (isSp_sl hk) (by omega) (by omega) hS) hu (by rw [len6]; omega) (fun c hc => by rw [sA_same, fb_put_in (by omega) (by omega), Nat.zero_add, Nat.sub_zero]) (fun hin => br1 ?_) (fun hin => br0 ?_)
      · exact mSlY hk (br1 (mVY hM (vl hu) (rb1 (pX5_holds hM hk hS.1 hT hu (fun _ => br1 ⟨rfl, hI1⟩) (fun hc => absurd hin hc)))))
      · exact mSlY hk (br1 (mVY hM (vl hu) (rb1 (pX5_holds hM hk hS.1 hT hu (fun hc => absurd hc hin) (fun _ => br0 ⟨rfl, hI1⟩)))))
    · exact cVN hC hx (rb0 (mSlY hk (br1 (mVN hM hx (rb0 ⟨rfl, hI⟩)))))
  · exact cSlN hx (br0 (mSlN hx (br0 ⟨rfl, hI⟩)))
theorem sim_within {σ τ : ss_S} (hI : Inv σ τ) (x1 x2 : Int32) : wX4_within x1 x2 σ (fun r σ1 => wX5_within x1 x2 τ (fun r' τ1 => r = r' ∧ Inv σ1 τ1)) := by
  obtain ⟨q, n, h, g, r, I⟩ := id hI
  have hC := I.1
  have hM := I.2.1
  rcases sl_cases x1 with ⟨a, ha, rfl⟩ | hx
  · refine cSlY ha (br1 ?_)
    rcases sl_cases x2 with ⟨b, hb, rfl⟩ | hx
    · refine cSlY hb (rb1 ?_)
      obtain ⟨pva, Ma, hSa, hTa⟩ := I.2.2.2.2.2.1 a ha
      obtain ⟨pvb, Mb, hSb, hTb⟩ := I.2.2.2.2.2.1 b hb
      rw [ncl ha, ncl hb]
      refine And.intro (vin ha) (And.intro (vin hb) (pX3_liesIn hC (isSp_sl ha) (isSp_sl hb) hSa hSb (fun hin => br1 ?_) (fun hin => br0 ?_)))
      · exact mSlY ha (br1 (mSlY hb (rb1 (pX5_within22 hM ha hb hSa.1 hTa hSb.1 hTb (fun _ => ⟨rfl, hI⟩) (fun hc => absurd hin hc)))))
      · exact mSlY ha (br1 (mSlY hb (rb1 (pX5_within22 hM ha hb hSa.1 hTa hSb.1 hTb (fun hc => absurd hc hin) (fun _ => ⟨rfl, hI⟩)))))
    · exact cSlN hx (rb0 (mSlY ha (br1 (mSlN hx (rb0 ⟨rfl, hI⟩)))))
  · exact cSlN hx (br0 (mSlN hx (br0 ⟨rfl, hI⟩)))
theorem sim_apart {σ τ : ss_S} (hI : Inv σ τ) (x1 x2 : Int32) : wX4_apart x1 x2 σ (fun r σ1 => wX5_apart x1 x2 τ (fun r' τ1 => r = r' ∧ Inv σ1 τ1)) := by
  obtain ⟨q, n, h, g, r, I⟩ := id hI
  have hC := I.1
  have hM := I.2.1
  rcases sl_cases x1 with ⟨a, ha, rfl⟩ | hx
  · refine cSlY ha (br1 ?_)
    rcases sl_cases x2 with ⟨b, hb, rfl⟩ | hx
    · refine cSlY hb (rb1 ?_)
      obtain ⟨pva, Ma, hSa, hTa⟩ := I.2.2.2.2.2.1 a ha
      obtain ⟨pvb, Mb, hSb, hTb⟩ := I.2.2.2.2.2.1 b hb
      rw [ncl ha, ncl hb]
      refine And.intro (vin ha) (And.intro (vin hb) (pX3_distance hC isSp_168 (isSp_sl ha) (isSp_sl hb) (by omega) (by omega) hSa hSb (fun σ1 pv' M' hO hS' hsp => ?_)))
      refine mSlY ha (br1 (mSlY hb (br1 (mJoined hM ha hb hSa.1 hTa hSb.1 hTb (fun τ1 pv1 M1 hO1 hR hSS h7 hW => And.intro (vin ha) (And.intro (vin hb) ?_))))))
      obtain ⟨e1, e2⟩ := la_uniqG hC.1.two hS'.1 hR hsp hSS
      subst e1
      rw [ncl ha, ncl hb, (hTa.oth hO1.toT).1, (hTb.oth hO1.toT).1]
      exact ⟨rfl, q, n, h, g, r, I.keep (hO.kp0 isSp_168 (by omega)) hO1.kp⟩
    · exact cSlN hx (rb0 (mSlY ha (br1 (mSlN hx (br0 ⟨rfl, hI⟩)))))
  · exact cSlN hx (br0 (mSlN hx (br0 ⟨rfl, hI⟩)))
