theorem in112 {x : Int32} {τ : ss_S} {post : Int32 → ss_S → Prop} (h1 : nI 1 ≤ x → x ≤ nI 12 → post 1 τ) (h0 : ¬ (nI 1 ≤ x ∧ x ≤ nI 12) → post 0 τ) : wX5_in (Int32.toInt64 x) 1 12 τ post := by
  rw [w64_1, w64_12]
  exact pX5_inI h1 h0
theorem sim_greedy {σ τ : ss_S} (hI : Inv σ τ) (x1 x2 : Int32) : wX4_greedy x1 x2 σ (fun r σ1 => wX5_greedy x1 x2 τ (fun r' τ1 => r = r' ∧ Inv σ1 τ1)) := by
  obtain ⟨q, n, h, g, r, I⟩ := id hI
  have hC := I.1
  have hM := I.2.1
  have h6 := hC.1.n6
  obtain ⟨hg, hg1, hg2⟩ := I.2.2.2.1
  rcases n_cases (n + 1) x1 with ⟨k, hk, rfl⟩ | hx
  · refine cDimY hC (by omega) (br1 ?_)
    have hm : ∀ (P : Int32 → ss_S → Prop), wX5_in (Int32.toInt64 x2) 1 12 τ (fun r4 σ3 => ((¬ r4 = 0 → ((¬ (σ3 0 4) = 10 → wX5_gauss ((u2 (u2 σ3 0 4 ((σ3 0 4) + 1)) 0 13 0) 0 1) (nI k) (u2 (u2 σ3 0 4 ((σ3 0 4) + 1)) 0 13 0) (fun r6 σ5 => (∃ f_69, lX5_greedy_69 (nI k) x2 r6 P (fun x4_13 σ_13 => P (σ_13 0 13) σ_13) f_69 0 σ5))) ∧ ((σ3 0 4) = 10 → P ((-103)) σ3))) ∧ (r4 = 0 → P ((-102)) σ3))) → wX5_greedy (nI k) x2 τ P := fun P hP => by
      unfold wX5_greedy
      rw [hM.2.2.1]
      exact pX5_inN (b := n + 1) (by omega) (by rw [nI_toInt (by omega)]; omega) (fun _ _ _ => br1 hP) (fun hx => absurd rfl (hx k (by omega)))
    by_cases hin : nI 1 ≤ x2 ∧ x2 ≤ nI 12
    · obtain ⟨d, hd31, hd1, rfl⟩ := i_ge1 (nlt_of_le (a := 1) hin.1)
      have hd : d ≤ 12 := (nI_leI hd31 (by omega)).mp hin.2
      refine And.intro (fun hc => absurd hc (nlt_of_le (a := 1) hin.1)) (fun _ => And.intro (fun _ => ?_) (fun hc => absurd hin.2 hc))
      rw [hg1]
      rcases Nat.lt_or_ge g 10 with hlt | hge
      · refine And.intro (fun _ => ?_) (fun hc => absurd (nI_lt (b := 10) hlt (by omega)) hc)
        rw [nI_1]
        have I1 : InvQ (u2 (u2 σ 0 7 (nI (g + 1))) 3 2 0) (u2 (u2 τ 0 4 (nI (g + 1))) 0 13 0) q n 0 (g + 1) r := by
          obtain ⟨a, b, c, d, e, f, i, T, T1, T2⟩ := I
          refine ⟨?_, (b.u2 (by omega) _).u2 (by omega) _, ⟨by omega, by rw [u2_at, pk_us]; rfl, by rw [u2_at, pk_us]; rfl⟩, ⟨by omega, by rw [u2_ne _ _ _ (by omega), u2_at, pk_us], by rw [u2_at, pk_un (by omega), u2_at, pk_us]⟩, ⟨e.1, by rw [u2_ne _ _ _ (by omega), u2_at, pk_un (by omega)]; exact e.2.1, by rw [u2_at, pk_un (by omega), u2_at, pk_un (by omega)]; exact e.2.2⟩, fun k hk => ?_, fun k hk => absurd hk (Nat.not_lt_zero _), T, T1.eq (by rw [u2_ne _ _ _ (by omega), u2_ne _ _ _ (by omega)]), fun p hp => ⟨(T2 p hp).1, by rw [u2_ne _ _ _ (by omega), u2_ne _ _ _ (by omega)]; exact (T2 p hp).2⟩⟩
          · obtain ⟨a1, a2, a3, a4⟩ := a
            exact ⟨a1, by rw [u2_ne _ _ _ (by omega), u2_ne _ _ _ (by omega)]; exact a2, by rw [u2_ne _ _ _ (by omega), u2_ne _ _ _ (by omega)]; exact a3, by rw [u2_ne _ _ _ (by omega), u2_ne _ _ _ (by omega)]; exact a4⟩
          · obtain ⟨pv, M, s1, s2⟩ := f k hk
            exact ⟨pv, M, s1.eq (by rw [u2_ne _ _ _ (by omega), u2_ne _ _ _ (by omega)]) (fun j => by rw [u2_ne _ _ _ (by omega), u2_ne _ _ _ (by omega)]), ⟨by rw [u2_ne _ _ _ (by omega), u2_ne _ _ _ (by omega)]; exact s2.1, fun p hp => by rw [u2_ne _ _ _ (by omega), u2_ne _ _ _ (by omega)]; exact s2.2 p hp⟩⟩
        have hC1 := I1.1
        have hM1 := I1.2.1
        rw [hC1.2.2.1]
        refine pX0_spaces hC1.2.1 (okq.of hC1.1 (Nat.le_refl _)) (by omega) ?_
        refine cGreedy hC1 (by omega) hd (by rw [u2_at, pk_us]) _ (fun σ' L kC hH hL hG _ => ?_)
        rw [hH.1]
        refine hm _ (in112 (fun _ _ => rb1 ?_) (fun hno => absurd hin hno))
        rw [hg2, nI_1, hM1.2.2.1]
        refine And.intro (fun _ => pX5_gauss hM1.2.1 (okq.of hC1.1 (Nat.le_refl _)) (by omega) ?_) (fun hc => absurd ((nI_eq (b := 10) (by omega) (by omega)).mp hc) (by omega))
        refine mGreedy hM1 (by omega) hd (by rw [u2_at, pk_us]) _ (fun τ' L' kM hH' hL' hG' _ => ?_)
        have eL := Gd_uniq hG hG'
        subst eL
        rw [hH'.1]
        exact ⟨rfl, q, n, L.length, g + 1, r, I1.heap hL kC kM hH hH'⟩
      · have eg : g = 10 := by omega
        subst eg
        refine And.intro (fun hc => absurd hc (nI_nlt (a := 10) (b := 10) (Nat.le_refl _) (by omega))) (fun _ => ?_)
        refine hm _ (in112 (fun _ _ => rb1 ?_) (fun hno => absurd hin hno))
        rw [hg2]
        exact And.intro (fun hc => absurd rfl hc) (fun _ => ⟨rfl, hI⟩)
    · have hend : wX5_greedy (nI k) x2 τ (fun r' τ1 => (-102) = r' ∧ Inv σ τ1) := hm _ (in112 (fun a b => absurd ⟨a, b⟩ hin) (fun _ => rb0 ⟨rfl, hI⟩))
      refine And.intro (fun _ => hend) (fun h1 => And.intro (fun h12 => absurd ⟨?_, h12⟩ hin) (fun _ => hend))
      obtain ⟨d, hd31, hd1, rfl⟩ := i_ge1 h1
      exact nI_le hd1 hd31
  · refine cDimN hC hx (br0 ?_)
    unfold wX5_greedy
    rw [hM.2.2.1]
    exact pX5_inN (b := n + 1) (by omega) (by rw [nI_toInt (by omega)]; omega) (fun v hv e => absurd e (hx v hv)) (fun _ => br0 ⟨rfl, hI⟩)
