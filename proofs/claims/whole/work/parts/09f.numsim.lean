theorem sim_number {σ τ : ss_S} (hI : Inv σ τ) (x1 : Int32) : wX4_number x1 σ (fun r σ1 => wX5_number x1 τ (fun r' τ1 => r = r' ∧ Inv σ1 τ1)) := by
  obtain ⟨q, n, h, g, r, I⟩ := id hI
  have hC := I.1
  have hM := I.2.1
  rcases sl_cases x1 with ⟨k, hk, rfl⟩ | hx
  · refine cSlY hk (br1 (And.intro (vin hk) ?_))
    obtain ⟨pv, M, hS, hT⟩ := I.2.2.2.2.2.1 k hk
    rw [ncl hk]
    refine pX3_ordinal hC (isSp_sl hk) hS ?_
    exact pX5_number hM hk hS.1 hT (fun w => ⟨rfl, q, n, h, g, r, I.keep KpC.rf (OthM.piv w)⟩)
  · exact cSlN hx (br0 (mSlN hx (rb0 ⟨rfl, hI⟩)))
theorem pvm_ct {n m : Nat} (hn : n ≤ 6) (hm : m < 2 ^ n) : fb_ct (pvm n m) n = pc6 m := (mk_A n (by omega) m hm).2.2.2.1
theorem sim_numbered {σ τ : ss_S} (hI : Inv σ τ) (x1 x2 x3 : Int32) : wX4_numbered x1 x2 x3 σ (fun r σ1 => wX5_numbered x1 x2 x3 τ (fun r' τ1 => r = r' ∧ Inv σ1 τ1)) := by
  obtain ⟨q, n, h, g, r, I⟩ := id hI
  have hC := I.1
  have hM := I.2.1
  have h6 := hC.1.n6
  rcases sl_cases x1 with ⟨s, hs, rfl⟩ | hx
  · refine cSlY hs (rb1 ?_)
    have hm : ∀ (P : Int32 → ss_S → Prop), wX5_in (Int32.toInt64 x2) 0 (Int32.toInt64 (nI n)) τ (fun r4 σ3 => ((r4 = 0 → P ((-102)) σ3) ∧ (¬ r4 = 0 → wX5_gauss (σ3 0 1) x2 σ3 (fun r6 σ5 => wX5_in (Int32.toInt64 x3) 0 (Int32.toInt64 (r6 - 1)) σ5 (fun r8 σ7 => ((¬ r8 = 0 → wX5_lay x2 x3 σ7 (fun σ9 => wX5_save (nI s) σ9 (fun r11 σ10 => P r11 σ10))) ∧ (r8 = 0 → P ((-102)) σ7))))))) → wX5_numbered (nI s) x2 x3 τ P := fun P hP => mSlY hs (rb1 (by rw [hM.2.2.1]; exact hP))
    rcases n_cases (n + 1) x2 with ⟨k, hk, rfl⟩ | hx
    · refine cDimY hC (by omega) (br1 ?_)
      have hgs := gs_all (okq.of hC.1 (Nat.le_refl n)) (show k ≤ n by omega)
      have hpos : 0 < gsN q n k := hgs.2.2.2.2.2.2.2.2
      have hm2 : ∀ (P : Int32 → ss_S → Prop), wX5_in (Int32.toInt64 x3) 0 (Int32.toInt64 (nI (gsN q n k) - 1)) τ (fun r8 σ7 => ((¬ r8 = 0 → wX5_lay (nI k) x3 σ7 (fun σ9 => wX5_save (nI s) σ9 (fun r11 σ10 => P r11 σ10))) ∧ (r8 = 0 → P ((-102)) σ7))) → wX5_numbered (nI s) (nI k) x3 τ P := fun P hP => hm P (pX5_inN (b := n + 1) (by omega) (by rw [nI_toInt (by omega)]; omega) (fun _ _ _ => br1 (by rw [hM.2.2.1]; exact pX5_gauss hM.2.1 (okq.of hC.1 (Nat.le_refl _)) (by omega) hP)) (fun hx => absurd rfl (hx k (by omega))))
      rw [hC.2.2.1]
      rcases n_cases (gsN q n k) x3 with ⟨a, ha, rfl⟩ | hx
      · refine And.intro (fun hc => absurd hc (nI_pos (by omega))) (fun _ => pX0_spaces hC.2.1 (okq.of hC.1 (Nat.le_refl _)) (by omega) (And.intro (fun _ => And.intro (vin hs) ?_) (fun hc => absurd (nI_lt ha (by omega)) hc)))
        rw [ncl hs]
        refine pX3_becomeOrdinal hC (isSp_sl hs) (by omega) ha (fun m hm' σ1 hO hS1 => hm2 _ ?_)
        refine pX5_inN (b := gsN q n k) (by omega) (nI_m1_toInt (by omega)) (fun _ _ _ => rb1 ?_) (fun hx => absurd rfl (hx a ha))
        refine pX5_lay hM (by omega) ha (fun m2 hm2' τ1 hO1 h7 hW => ?_)
        have em := isM_uniq hm' hm2'
        subst em
        have ek : fb_ct (pvm n m) n = k := by rw [pvm_ct h6 hm'.1]; exact hm'.2.1
        refine mSave h6 hs hS1.1.1 (by rw [ek]; exact h7) hW (fun τ2 hK hT => ⟨by rw [ek], q, n, h, g, r, I.step (hO.kp (isSp_sl hs)) (hO1.kp.trans hK) hs ⟨_, _, hS1, hT⟩⟩)
      · have hend : wX5_numbered (nI s) (nI k) x3 τ (fun r' τ1 => (-102) = r' ∧ Inv σ τ1) := hm2 _ (pX5_inN (b := gsN q n k) (by omega) (nI_m1_toInt (by omega)) (fun v hv e => absurd e (hx v hv)) (fun _ => rb0 ⟨rfl, hI⟩))
        refine And.intro (fun _ => hend) (fun h0 => pX0_spaces hC.2.1 (okq.of hC.1 (Nat.le_refl _)) (by omega) (And.intro (fun hc => absurd hc (nlt_of_le (neq_lt (by omega) hx h0))) (fun _ => hend)))
    · refine cDimN hC hx (br0 (hm _ (pX5_inN (b := n + 1) (by omega) (by rw [nI_toInt (by omega)]; omega) (fun v hv e => absurd e (hx v hv)) (fun _ => br0 ⟨rfl, hI⟩))))
  · exact cSlN hx (rb0 (mSlN hx (rb0 ⟨rfl, hI⟩)))
