noncomputable def la_jn (q n : Nat) (G : la_W → Prop) : Nat := @dite Nat (∃ (pv : Nat → Bool), ∃ M : Nat → la_W, la_R q n pv M ∧ ∀ v, la_S q pv M v ↔ la_Sp q G v) (Classical.propDecidable _) (fun h => fb_ct h.choose n) (fun _ => 0)
theorem la_jn_eq {q n : Nat} (hq : 1 < q) {G : la_W → Prop} {pv : Nat → Bool} {M : Nat → la_W} (hR : la_R q n pv M) (hS : ∀ v, la_S q pv M v ↔ la_Sp q G v) : la_jn q n G = fb_ct pv n := by
  have h : ∃ (pv : Nat → Bool), ∃ M : Nat → la_W, la_R q n pv M ∧ ∀ v, la_S q pv M v ↔ la_Sp q G v := ⟨pv, M, hR, hS⟩
  unfold la_jn
  rw [dif_pos h]
  obtain ⟨M', hR', hS'⟩ := h.choose_spec
  rw [(la_uniqG hq hR' hR hS' hS).1]
def lsI (D : Nat → Nat → Int32) (i : Nat) (x : Int32) : Nat → Int32
  | 0 => x
  | j + 1 => if lsI D i x j = -1 then D i j else if lsI D i x j ≤ D i j then lsI D i x j else D i j
def lsO (D : Nat → Nat → Int32) : Nat → Int32
  | 0 => -1
  | i + 1 => lsI D i (lsO D i) i
theorem hp_fam {σ τ : ss_S} {q n h g r : Nat} (I : InvQ σ τ q n h g r) : ∃ (P : Nat → Nat → Bool) (N : Nat → Nat → la_W), ∀ i, i < h → SpC σ (45 + 3 * i) q n (P i) (N i) ∧ HpM τ q n i (P i) (N i) := by
  have hh := I.2.2.2.2.2.2.1
  refine ⟨fun i => @dite _ (i < h) (Nat.decLt i h) (fun x => (hh i x).choose) (fun _ => la_no), fun i => @dite _ (i < h) (Nat.decLt i h) (fun x => (hh i x).choose_spec.choose) (fun _ _ => la_z), fun i hi => ?_⟩
  dsimp only
  rw [dif_pos hi, dif_pos hi]
  exact (hh i hi).choose_spec.choose_spec
theorem sim_least {σ τ : ss_S} (hI : Inv σ τ) : wX4_least σ (fun r σ1 => wX5_least τ (fun r' τ1 => r = r' ∧ Inv σ1 τ1)) := by
  obtain ⟨q, n, h, g, r, I⟩ := id hI
  have hC := I.1
  have hM := I.2.1
  have h6 := hC.1.n6
  have hh := I.2.2.1
  have hq2 := hC.1.two
  obtain ⟨P, N, hPN⟩ := hp_fam I
  generalize hD : (fun i j => nI 2 * nI (la_jn q n (la_un (la_G (P i) (N i)) (la_G (P j) (N j)))) - nI (fb_ct (P i) n) - nI (fb_ct (P j) n)) = D
  have model : ∀ (v : Int32), v = lsO D h → ∀ σ1 : ss_S, KpC 0 σ σ1 → wX5_least τ (fun r' τ1 => v = r' ∧ Inv σ1 τ1) := by
    intro v hv σ1 hK
    have inner : ∀ (K : Int32 → Int32 → ss_S → Prop) (i : Nat) (x : Int32), i < h → (∀ τ1, OthM τ τ1 → K (lsI D i x i) (nI i) τ1) → ∀ d j, j + d = i → ∀ τ1, OthM τ τ1 → lX5_least_14 (nI i) (fun r' τ1 => v = r' ∧ Inv σ1 τ1) K (d + 1) (lsI D i x j) (nI j) τ1 := by
      intro K i x hi hK' d
      induction d with
      | zero =>
        intro j hj τ1 hO
        have e : j = i := by omega
        subst e
        exact And.intro (fun _ => hK' τ1 hO) (fun hc => absurd (nI_le (Nat.le_refl _) (by omega)) hc)
      | succ d ih =>
        intro j hj τ1 hO
        refine And.intro (fun hc => absurd hc (nI_ge (by omega) (by omega))) (fun _ => ?_)
        obtain ⟨hSi, hTi⟩ := hPN i hi
        obtain ⟨hSj, hTj⟩ := hPN j (by omega)
        have hct := fb_ct_le (P i) n
        refine mLoadH0 h6 (by omega) hSi.1.1 (hTi.oth hO.toT) (fun τ2 hO2 h72 hW2 => ?_)
        refine mLoadH h6 (by omega) hSj.1.1 (hTj.oth (hO.trans hO2).toT) (by omega) h72 (fun τ3 hO3 h73 hk3 hW3 => ?_)
        have hO' := (hO.trans hO2).trans hO3
        refine mSettle2 (hO'.toT.Fr hM) hSi.1 hSj.1 h73 (hW2.keep hSi.1.1 hk3) hW3 (fun τ4 pv M hO4 hR hS h74 hW4 => ?_)
        have hO4' := hO'.trans hO4
        refine And.intro (vp_in_nI (by omega) (by omega)) (And.intro (vp_in_nI (by omega) (by omega)) ?_)
        have eD : (2 * τ4 0 7) - τ4 8 (Int32.toNatClampNeg (nI i)) - τ4 8 (Int32.toNatClampNeg (nI j)) = D i j := by
          rw [← hD]
          dsimp only
          rw [nI_clamp (by omega), nI_clamp (by omega), (hTi.oth hO4'.toT).1, (hTj.oth hO4'.toT).1, h74, la_jn_eq hq2 hR hS]; rfl
        rw [eD, nI_1]
        refine And.intro (fun he => ?_) (fun he => And.intro (fun hle => ?_) (fun hle => ?_))
        · have := ih (j + 1) (by omega) τ4 hO4'
          simp only [lsI] at this
          rwa [if_pos he] at this
        · have := ih (j + 1) (by omega) τ4 hO4'
          simp only [lsI] at this
          rwa [if_neg he, if_pos hle] at this
        · have := ih (j + 1) (by omega) τ4 hO4'
          simp only [lsI] at this
          rwa [if_neg he, if_neg hle] at this
    have outer : ∀ d i, i + d = h → ∀ τ1, OthM τ τ1 → lX5_least_4 (fun r' τ1 => v = r' ∧ Inv σ1 τ1) (fun x1_5 _ σ_5 => v = x1_5 ∧ Inv σ1 σ_5) (d + 1) (lsO D i) (nI i) τ1 := by
      intro d
      induction d with
      | zero =>
        intro i hi τ1 hO
        have e13 : τ1 0 13 = nI h := by rw [hO.2 13 (by omega)]; exact hh.2.2
        refine And.intro (fun _ => ⟨?_, q, n, h, g, r, I.keep hK hO.kp⟩) (fun hc => absurd (by rw [e13]; exact nI_le (by omega) (by omega)) hc)
        rw [show i = h by omega]; exact hv
      | succ d ih =>
        intro i hi τ1 hO
        have e13 : τ1 0 13 = nI h := by rw [hO.2 13 (by omega)]; exact hh.2.2
        refine And.intro (fun hc => absurd hc (by rw [e13]; exact nI_ge (by omega) (by omega))) (fun _ => ?_)
        refine ⟨i + 1, inner _ i (lsO D i) (by omega) (fun τ2 hO2 => ?_) i 0 (by omega) τ1 hO⟩
        rw [nI_1]
        exact ih (i + 1) (by omega) τ2 hO2
    exact ⟨h + 1, outer h 0 (by omega) τ OthM.rf⟩
  have inner : ∀ (K : Int32 → Int32 → ss_S → Prop) (i : Nat) (x : Int32), i < h → (∀ σ1, KpC 0 σ σ1 → K (lsI D i x i) (nI i) σ1) → ∀ d j, j + d = i → ∀ σ1, KpC 0 σ σ1 → lX1_leastDistance_14 (nI i) (fun r2 σ1 => wX5_least τ (fun r' τ1 => r2 = r' ∧ Inv σ1 τ1)) K (d + 1) (lsI D i x j) (nI j) σ1 := by
    intro K i x hi hK' d
    induction d with
    | zero =>
      intro j hj σ1 hO
      have e : j = i := by omega
      subst e
      exact And.intro (fun _ => hK' σ1 hO) (fun hc => absurd (nI_le (Nat.le_refl _) (by omega)) hc)
    | succ d ih =>
      intro j hj σ1 hO
      refine And.intro (fun hc => absurd hc (nI_ge (by omega) (by omega))) (fun _ => ?_)
      obtain ⟨hSi, hTi⟩ := hPN i hi
      obtain ⟨hSj, hTj⟩ := hPN j (by omega)
      refine And.intro (vp_in_nI (by omega) (by omega)) (And.intro (vp_in_nI (by omega) (by omega)) ?_)
      rw [nI_clamp (by omega), nI_clamp (by omega)]
      refine pX3_distance (hO.Fr hC) isSp_165 (isSp_hp (by omega)) (isSp_hp (by omega)) (by omega) (by omega) (hO.Sp (isSp_hp (by omega)) (by omega) (by omega) hSi) (hO.Sp (isSp_hp (by omega)) (by omega) (by omega) hSj) (fun σ2 pv M hO2 hS2 hsp => ?_)
      have hO' := hO.trans (hO2.kp0 isSp_165 (by omega))
      have eD : nI 2 * nI (fb_ct pv n) - nI (fb_ct (P i) n) - nI (fb_ct (P j) n) = D i j := by
        rw [← hD]
        dsimp only
        rw [la_jn_eq hq2 hS2.1 hsp]
      rw [eD, nI_1]
      refine And.intro (fun he => ?_) (fun he => And.intro (fun hle => ?_) (fun hle => ?_))
      · have := ih (j + 1) (by omega) σ2 hO'
        simp only [lsI] at this
        rwa [if_pos he] at this
      · have := ih (j + 1) (by omega) σ2 hO'
        simp only [lsI] at this
        rwa [if_neg he, if_pos hle] at this
      · have := ih (j + 1) (by omega) σ2 hO'
        simp only [lsI] at this
        rwa [if_neg he, if_neg hle] at this
  have outer : ∀ d i, h ≤ i + d → (i ≤ h ∨ i = 1) → ∀ σ1, KpC 0 σ σ1 → lX1_leastDistance_4 (fun r2 σ1 => wX5_least τ (fun r' τ1 => r2 = r' ∧ Inv σ1 τ1)) (fun x1_6 _ σ_6 => wX5_least τ (fun r' τ1 => x1_6 = r' ∧ Inv σ_6 τ1)) (d + 1) (lsO D i) (nI i) σ1 := by
    intro d
    induction d with
    | zero =>
      intro i hi hi2 σ1 hO
      have e3 : σ1 3 2 = nI h := by rw [hO.2.2.1]; exact hh.2.1
      refine And.intro (fun _ => model _ ?_ σ1 hO) (fun hc => absurd (by rw [e3]; exact nI_le (by omega) (by omega)) hc)
      rcases hi2 with x | x
      · rw [show i = h by omega]
      · subst x
        rcases (show h = 0 ∨ h = 1 by omega) with rfl | rfl
        · rfl
        · rfl
    | succ d ih =>
      intro i hi hi2 σ1 hO
      have e3 : σ1 3 2 = nI h := by rw [hO.2.2.1]; exact hh.2.1
      rcases Nat.lt_or_ge i h with hlt | hge
      · refine And.intro (fun hc => absurd hc (by rw [e3]; exact nI_ge (by omega) (by omega))) (fun _ => ?_)
        refine ⟨i + 1, inner _ i (lsO D i) hlt (fun σ2 hO2 => ?_) i 0 (by omega) σ1 hO⟩
        rw [nI_1]
        exact ih (i + 1) (by omega) (Or.inl (by omega)) σ2 hO2
      · refine And.intro (fun _ => model _ ?_ σ1 hO) (fun hc => absurd (by rw [e3]; exact nI_le (by omega) (by omega)) hc)
        rcases hi2 with x | x
        · rw [show i = h by omega]
        · subst x
          rcases (show h = 0 ∨ h = 1 by omega) with rfl | rfl
          · rfl
          · rfl
  exact ⟨41, outer 40 1 (by omega) (Or.inr rfl) σ KpC.rf⟩
theorem sim_bare {σ τ : ss_S} (hI : Inv σ τ) : wX4_bare σ (fun r σ1 => wX5_bare τ (fun r' τ1 => r = r' ∧ Inv σ1 τ1)) := by
  obtain ⟨q, n, h, g, r, I⟩ := id hI
  have hC := I.1
  have hM := I.2.1
  have h6 := hC.1.n6
  have hq0 := hC.1.pos
  have hpw := la_pow_le hC.1
  have hh := I.2.2.1
  obtain ⟨P, N, hPN⟩ := hp_fam I
  obtain ⟨B, hB⟩ : ∃ B : Nat → Bool, ∀ v, B v = true ↔ ¬ ∃ i, i < h ∧ la_S q (P i) (N i) (la_dig q n v) := ⟨fun v => @decide (¬ ∃ i, i < h ∧ la_S q (P i) (N i) (la_dig q n v)) (Classical.propDecidable _), fun v => by simp⟩
  have ctl : ∀ i, fb_ct B i ≤ i := fb_ct_le B
  have model : ∀ σ1 : ss_S, KpC 0 σ σ1 → wX5_bare τ (fun r' τ1 => nI (fb_ct B (q ^ n)) = r' ∧ Inv σ1 τ1) := by
    intro σ1 hK
    have inner : ∀ (K : Int32 → Int32 → ss_S → Prop) (x : Int32) (v : Nat), v < q ^ n → (∀ y, K (if B v = true then 1 else 0) y τ) → ∀ d i, i + d = h → (∀ j, j < i → ¬ la_S q (P j) (N j) (la_dig q n v)) → lX5_bare_17 x (nI v) (fun r' τ1 => nI (fb_ct B (q ^ n)) = r' ∧ Inv σ1 τ1) K (d + 1 + 1) 1 (nI i) τ := by
      intro K x v hv hK' d
      induction d with
      | zero =>
        intro i hi hno
        refine And.intro (fun _ => ?_) (fun hc => absurd (by rw [hh.2.2]; exact nI_le (by omega) (by omega)) hc)
        have hBv : B v = true := (hB v).mpr (fun ⟨j, a, b⟩ => hno j (by omega) b)
        have := hK' (nI i)
        rwa [if_pos hBv] at this
      | succ d ih =>
        intro i hi hno
        refine And.intro (fun hc => absurd hc (by rw [hh.2.2]; exact nI_ge (by omega) (by omega))) (fun _ => br1 ?_)
        obtain ⟨hSi, hTi⟩ := hPN i (by omega)
        have e := la_val_dig hv
        have hx := pX5_bare36 (x1 := x) (x2 := nI v) (post := fun r' τ1 => nI (fb_ct B (q ^ n)) = r' ∧ Inv σ1 τ1) (K := fun x5_7 _ σ_7 => ((x5_7 = 0 → lX5_bare_17 x (nI v) (fun r' τ1 => nI (fb_ct B (q ^ n)) = r' ∧ Inv σ1 τ1) K (d + 1 + 1) 0 (nI i + 1) σ_7) ∧ (¬ x5_7 = 0 → lX5_bare_17 x (nI v) (fun r' τ1 => nI (fb_ct B (q ^ n)) = r' ∧ Inv σ1 τ1) K (d + 1 + 1) 1 (nI i + 1) σ_7))) hM (show i < 40 by omega) hSi.1 hTi (la_dig_V (n := n) (x := v) hq0) (fun hin y => ?_) (fun hin x y hxn => ?_)
        · rw [e] at hx; exact hx
        · have hBv : ¬ B v = true := fun hc => (hB v).mp hc ⟨i, by omega, hin⟩
          refine br0 ?_
          have hk := hK' (nI i + 1)
          rw [if_neg hBv] at hk
          exact And.intro (fun _ => hk) (fun _ => br0 hk)
        · refine And.intro (fun hc => absurd hc hxn) (fun _ => ?_)
          rw [nI_1]
          refine ih (i + 1) (by omega) (fun j hj => ?_)
          rcases Nat.lt_or_ge j i with y | y
          · exact hno j y
          · rw [show j = i by omega]; exact hin
    have outer : ∀ d v, v + d = q ^ n → lX5_bare_4 (fun r' τ1 => nI (fb_ct B (q ^ n)) = r' ∧ Inv σ1 τ1) (fun x1_9 _ σ_9 => nI (fb_ct B (q ^ n)) = x1_9 ∧ Inv σ1 σ_9) (d + 1) (nI (fb_ct B v)) (nI v) τ := by
      intro d
      induction d with
      | zero =>
        intro v hv
        refine And.intro (fun _ => ⟨by rw [show v = q ^ n by omega], q, n, h, g, r, I.keep hK KpM.rf⟩) (fun hc => absurd (by rw [hM.2.2.2]; exact nI_le (by omega) (by omega)) hc)
      | succ d ih =>
        intro v hv
        refine And.intro (fun hc => absurd hc (by rw [hM.2.2.2]; exact nI_ge (by omega) (by omega))) (fun _ => ?_)
        refine ⟨h + 1 + 1, inner _ _ v (by omega) (fun y => ?_) h 0 (by omega) (fun j hj => absurd hj (Nat.not_lt_zero _))⟩
        have hs := fb_ct_succ B v
        rw [nI_1]
        by_cases hBv : B v = true
        · rw [if_pos hBv] at hs ⊢
          refine br1 ?_
          rw [nI_1, ← hs]
          exact ih (v + 1) (by omega)
        · rw [if_neg hBv] at hs ⊢
          refine br0 ?_
          rw [show nI (fb_ct B v) + 0 = nI (fb_ct B (v + 1)) by rw [hs]; exact nI_add _ 0]
          exact ih (v + 1) (by omega)
    exact ⟨_, outer (q ^ n) 0 (by omega)⟩
  have cov : ∀ (v : Nat), v < q ^ n → ∀ σ1, KpC 0 σ σ1 → (∀ c, c < n → σ1 6 c = nI (la_dig q n v c)) → ∀ (K : Int32 → ss_S → Prop), K (if B v = true then 0 else 1) σ1 → wX1_covers 6 σ1 K := by
    intro v hv σ1 hK hf K hKK
    have e3 : σ1 3 2 = nI h := by rw [hK.2.2.1]; exact hh.2.1
    have key : ∀ d i, i + d = h → (∀ j, j < i → ¬ la_S q (P j) (N j) (la_dig q n v)) → lX1_covers_2 6 K (fun _ σ_4 => K 0 σ_4) (d + 1) (nI i) σ1 := by
      intro d
      induction d with
      | zero =>
        intro i hi hno
        refine And.intro (fun _ => ?_) (fun hc => absurd (by rw [e3]; exact nI_le (by omega) (by omega)) hc)
        have hBv : B v = true := (hB v).mpr (fun ⟨j, a, b⟩ => hno j (by omega) b)
        rwa [if_pos hBv] at hKK
      | succ d ih =>
        intro i hi hno
        obtain ⟨hSi, hTi⟩ := hPN i (by omega)
        refine And.intro (fun hc => absurd hc (by rw [e3]; exact nI_ge (by omega) (by omega))) (fun _ => And.intro (vp_in_nI (by omega) (by omega)) ?_)
        rw [nI_clamp (by omega)]
        refine pX3_holds (o := 0) (hK.Fr hC) (isSp_hp (by omega)) (hK.Sp (isSp_hp (by omega)) (by omega) (by omega) hSi) (la_dig_V hq0) (by rw [len6]; omega) (fun c hc => by rw [Nat.zero_add]; exact hf c hc) (fun hin => br1 ?_) (fun hin => br0 ?_)
        · have hBv : ¬ B v = true := fun hc => (hB v).mp hc ⟨i, by omega, hin⟩
          rwa [if_neg hBv] at hKK
        · rw [nI_1]
          refine ih (i + 1) (by omega) (fun j hj => ?_)
          rcases Nat.lt_or_ge j i with y | y
          · exact hno j y
          · rw [show j = i by omega]; exact hin
    exact ⟨_, key h 0 (by omega) (fun j hj => absurd hj (Nat.not_lt_zero _))⟩
  have outer : ∀ d v, v + d = q ^ n → ∀ σ1, KpC 0 σ σ1 → lX4_bare_4 (fun r σ1 => wX5_bare τ (fun r' τ1 => r = r' ∧ Inv σ1 τ1)) (fun x1_4 _ σ_4 => wX5_bare τ (fun r' τ1 => x1_4 = r' ∧ Inv σ_4 τ1)) (d + 1) (nI (fb_ct B v)) (nI v) σ1 := by
    intro d
    induction d with
    | zero =>
      intro v hv σ1 hK
      have hFx := hK.Fr hC
      refine And.intro (fun _ => ?_) (fun hc => absurd (by rw [hFx.2.2.2]; exact nI_le (by omega) (by omega)) hc)
      rw [show v = q ^ n by omega]; exact model σ1 hK
    | succ d ih =>
      intro v hv σ1 hK
      have hFx := hK.Fr hC
      refine And.intro (fun hc => absurd hc (by rw [hFx.2.2.2]; exact nI_ge (by omega) (by omega))) (fun _ => ?_)
      refine pX0_spell (o := 0) hFx (by omega) (by omega) (by rw [len6]; omega) ?_
      have k1 := KpC.fig (σ := σ1) (fb_put (σ1 6) (fun c => nI (la_dig q n v c)) 0 n)
      refine cov v (by omega) _ (hK.trans k1) (fun c hc => by rw [sA_same, fb_put_in (by omega) (by omega), Nat.sub_zero]) _ ?_
      have hs := fb_ct_succ B v
      rw [nI_1]
      by_cases hBv : B v = true
      · rw [if_pos hBv] at hs ⊢
        refine rb0 ?_
        rw [nI_1, ← hs]
        exact ih (v + 1) (by omega) _ (hK.trans k1)
      · rw [if_neg hBv] at hs ⊢
        refine rb1 ?_
        rw [show fb_ct B v = fb_ct B (v + 1) from hs.symm]
        exact ih (v + 1) (by omega) _ (hK.trans k1)
  exact ⟨_, outer (q ^ n) 0 (by omega) σ KpC.rf⟩
def dgR (x : Int64) (row : Nat → Int32) : Nat → Int64
  | 0 => x
  | i + 1 => 31 * dgR x row i + Int32.toInt64 (row i)
def dgS (d : Nat → Nat) (row : Nat → Nat → Int32) (x : Int64) : Nat → Int64
  | 0 => x
  | k + 1 => dgR (31 * dgS d row x k + Int32.toInt64 (nI (d k))) (row k) (d k)
theorem cFoldSpace {σ : ss_S} {q n s : Nat} (hF : FrC σ q n) (hs : isSp s) {pv : Nat → Bool} {M : Nat → la_W} (hS : SpC σ s q n pv M) {row : Nat → Int32} (hr : ∀ p, pv p = true → row (fb_ct pv p) = nI (la_val q (M p) n)) (x : Int64) {post : Int64 → ss_S → Prop} (hp : post (dgR (31 * x + Int32.toInt64 (nI (fb_ct pv n))) row (fb_ct pv n)) σ) : wX4_foldSpace x s σ post := by
  have h6 := hF.1.n6
  have hct := fb_ct_le pv n
  refine pX3_rank h6 hS.2.1 ?_
  have key : ∀ d i, i + d = fb_ct pv n → lX4_foldSpace_15 s (nI (fb_ct pv n)) post (fun x4_9 _ σ_9 => post x4_9 σ_9) (d + 1) (dgR (31 * x + Int32.toInt64 (nI (fb_ct pv n))) row i) (nI i) σ := by
    intro d
    induction d with
    | zero =>
      intro i hi
      refine And.intro (fun _ => ?_) (fun hc => absurd (nI_le (by omega) (by omega)) hc)
      rw [show i = fb_ct pv n by omega]; exact hp
    | succ d ih =>
      intro i hi
      refine And.intro (fun hc => absurd hc (nI_ge (by omega) (by omega))) (fun _ => ?_)
      obtain ⟨p, hpn, hpp, hpi⟩ := fb_ct_kth (show i < fb_ct pv n by omega)
      refine pX3_rowNumber hF hs hS (fun p' hp' e => ?_) (fun hno => absurd (by rw [hpi]) (hno p hpp))
      have hl := la_ct_lt hp' (hS.1.1 p' hp')
      have e2 : i = fb_ct pv p' := (nI_eq (by omega) (by omega)).mp e
      have := ih (i + 1) (by omega)
      simp only [dgR] at this
      rw [e2, hr p' hp', ← e2] at this
      unfold wX4_fold
      rw [nI_1]
      exact this
  exact ⟨_, key (fb_ct pv n) 0 (by omega)⟩
theorem nI_nat (x : Int32) (k : Nat) : x = nI k → True := fun _ => trivial
theorem sim_digest {σ τ : ss_S} (hI : Inv σ τ) : wX4_digest σ (fun r σ1 => wX5_digest τ (fun r' τ1 => r = r' ∧ Inv σ1 τ1)) := by
  obtain ⟨q, n, h, g, r, I⟩ := id hI
  have hC := I.1
  have hM := I.2.1
  have h6 := hC.1.n6
  have hh := I.2.2.1
  obtain ⟨T, T1, T2⟩ := I.2.2.2.2.2.2.2
  have hsl := I.2.2.2.2.2.1
  obtain ⟨ds, hds⟩ : ∃ ds : Nat → Nat, ∀ k, k < 12 → ∃ (pv : Nat → Bool) (M : Nat → la_W), SpC σ (9 + 3 * k) q n pv M ∧ SlM τ q n k pv M ∧ ds k = fb_ct pv n := by
    refine ⟨fun k => @dite _ (k < 12) (Nat.decLt k 12) (fun x => fb_ct (hsl k x).choose n) (fun _ => 0), fun k hk => ?_⟩
    obtain ⟨a, b⟩ := (hsl k hk).choose_spec.choose_spec
    exact ⟨_, _, a, b, by dsimp only; rw [dif_pos hk]⟩
  obtain ⟨P, N, hPN⟩ := hp_fam I
  have inits : ∀ x : Int64, x = (31 * ((31 * 167) + (Int32.toInt64 (τ 0 0)))) + (Int32.toInt64 (τ 0 1)) → True := fun _ _ => trivial
  have e0 : σ 1 0 = τ 0 0 := by rw [hC.2.1, hM.2.1]
  have e1 : σ 1 1 = τ 0 1 := by rw [hC.2.2.1, hM.2.2.1]
  have e7 : σ 0 7 = τ 0 4 := by rw [I.2.2.2.1.2.1, I.2.2.2.1.2.2]
  have e8 : σ 0 8 = τ 0 5 := by rw [I.2.2.2.2.1.2.1, I.2.2.2.2.1.2.2]
  generalize hx0 : (31 * ((31 * 167) + (Int32.toInt64 (τ 0 0)))) + (Int32.toInt64 (τ 0 1)) = x0
  generalize hX1 : dgS ds (fun k i => τ 5 (6 * k + i)) x0 12 = X1
  generalize hX2 : dgS (fun i => fb_ct (P i) n) (fun k i => τ 9 (6 * k + i)) X1 h = X2
  generalize hX3 : dgR X2 (fun p => τ 1 p) n = X3
  have model : wX5_digest τ (fun r' τ1 => (31 * ((31 * X3) + (Int32.toInt64 (τ 0 4)))) + (Int32.toInt64 (τ 0 5)) = r' ∧ Inv σ τ1) := by
    unfold wX5_digest
    rw [hx0]
    have rowsS : ∀ (k : Nat), k < 12 → ∀ (K : Int64 → Int32 → ss_S → Prop) (x : Int64), (∀ y, K (dgR x (fun i => τ 5 (6 * k + i)) (ds k)) y τ) → ∀ d i, i + d = ds k → lX5_digest_53 (nI k) (fun r' τ1 => (31 * ((31 * X3) + (Int32.toInt64 (τ 0 4)))) + (Int32.toInt64 (τ 0 5)) = r' ∧ Inv σ τ1) K (d + 1) (dgR x (fun i => τ 5 (6 * k + i)) i) (nI i) τ := by
      intro k hk K x hK d
      obtain ⟨pv, M, s1, s2, s3⟩ := hds k hk
      have hct := fb_ct_le pv n
      induction d with
      | zero =>
        intro i hi
        refine And.intro (vin hk) ?_
        rw [ncl hk, s2.1, ← s3]
        refine And.intro (fun _ => ?_) (fun hc => absurd (nI_le (by omega) (by omega)) hc)
        rw [show i = ds k by omega]; exact hK _
      | succ d ih =>
        intro i hi
        refine And.intro (vin hk) ?_
        rw [ncl hk, s2.1, ← s3]
        refine And.intro (fun hc => absurd hc (nI_ge (by omega) (by omega))) (fun _ => ?_)
        rw [nI_6m, nI_add]
        refine And.intro (vp_in_nI (by omega) (by omega)) ?_
        rw [nI_clamp (by omega), nI_1]
        exact ih (i + 1) (by omega)
    have slots : ∀ (K : Int64 → Int32 → ss_S → Prop), (∀ y, K X1 y τ) → ∀ d k, k + d = 12 → lX5_digest_30 (fun r' τ1 => (31 * ((31 * X3) + (Int32.toInt64 (τ 0 4)))) + (Int32.toInt64 (τ 0 5)) = r' ∧ Inv σ τ1) K (d + 1) (dgS ds (fun k i => τ 5 (6 * k + i)) x0 k) (nI k) τ := by
      intro K hK d
      induction d with
      | zero =>
        intro k hk
        have e : k = 12 := by omega
        subst e
        refine And.intro (fun _ => ?_) (fun hc => absurd (nI_le (a := 12) (b := 12) (Nat.le_refl _) (by omega)) hc)
        rw [hX1]; exact hK _
      | succ d ih =>
        intro k hk
        obtain ⟨pv, M, s1, s2, s3⟩ := hds k (by omega)
        refine And.intro (fun hc => absurd hc (nI_ge (b := 12) (by omega) (by omega))) (fun _ => And.intro (vin (by omega)) ?_)
        rw [ncl (by omega), s2.1, ← s3]
        refine ⟨_, rowsS k (by omega) _ _ (fun y => ?_) (ds k) 0 (by omega)⟩
        rw [nI_1]
        exact ih (k + 1) (by omega)
    have rowsH : ∀ (k : Nat), k < h → ∀ (K : Int64 → Int32 → ss_S → Prop) (x : Int64), (∀ y, K (dgR x (fun i => τ 9 (6 * k + i)) (fb_ct (P k) n)) y τ) → ∀ d i, i + d = fb_ct (P k) n → lX5_digest_123 (nI k) (fun r' τ1 => (31 * ((31 * X3) + (Int32.toInt64 (τ 0 4)))) + (Int32.toInt64 (τ 0 5)) = r' ∧ Inv σ τ1) K (d + 1) (dgR x (fun i => τ 9 (6 * k + i)) i) (nI i) τ := by
      intro k hk K x hK d
      obtain ⟨s1, s2⟩ := hPN k hk
      have hct := fb_ct_le (P k) n
      induction d with
      | zero =>
        intro i hi
        refine And.intro (vp_in_nI (by omega) (by omega)) ?_
        rw [nI_clamp (by omega), s2.1]
        refine And.intro (fun _ => ?_) (fun hc => absurd (nI_le (by omega) (by omega)) hc)
        rw [show i = fb_ct (P k) n by omega]; exact hK _
      | succ d ih =>
        intro i hi
        refine And.intro (vp_in_nI (by omega) (by omega)) ?_
        rw [nI_clamp (by omega), s2.1]
        refine And.intro (fun hc => absurd hc (nI_ge (by omega) (by omega))) (fun _ => ?_)
        rw [nI_6m, nI_add]
        refine And.intro (vp_in_nI (by omega) (by omega)) ?_
        rw [nI_clamp (by omega), nI_1]
        exact ih (i + 1) (by omega)
    have heaps : ∀ (K : Int64 → Int32 → ss_S → Prop), (∀ y, K X2 y τ) → ∀ d k, k + d = h → lX5_digest_98 (fun r' τ1 => (31 * ((31 * X3) + (Int32.toInt64 (τ 0 4)))) + (Int32.toInt64 (τ 0 5)) = r' ∧ Inv σ τ1) K (d + 1) (dgS (fun i => fb_ct (P i) n) (fun k i => τ 9 (6 * k + i)) X1 k) (nI k) τ := by
      intro K hK d
      induction d with
      | zero =>
        intro k hk
        refine And.intro (fun _ => ?_) (fun hc => absurd (by rw [hh.2.2]; exact nI_le (by omega) (by omega)) hc)
        rw [show k = h by omega, hX2]; exact hK _
      | succ d ih =>
        intro k hk
        obtain ⟨s1, s2⟩ := hPN k (by omega)
        refine And.intro (fun hc => absurd hc (by rw [hh.2.2]; exact nI_ge (by omega) (by omega))) (fun _ => And.intro (vp_in_nI (by omega) (by omega)) ?_)
        rw [nI_clamp (by omega), s2.1]
        refine ⟨_, rowsH k (by omega) _ _ (fun y => ?_) (fb_ct (P k) n) 0 (by omega)⟩
        rw [nI_1]
        exact ih (k + 1) (by omega)
    have images : ∀ d i, i + d = n → lX5_digest_168 (fun r' τ1 => (31 * ((31 * X3) + (Int32.toInt64 (τ 0 4)))) + (Int32.toInt64 (τ 0 5)) = r' ∧ Inv σ τ1) (fun x1_5 _ σ_5 => (31 * ((31 * X3) + (Int32.toInt64 (τ 0 4)))) + (Int32.toInt64 (τ 0 5)) = (31 * ((31 * x1_5) + (Int32.toInt64 (σ_5 0 4)))) + (Int32.toInt64 (σ_5 0 5)) ∧ Inv σ σ_5) (d + 1) (dgR X2 (fun p => τ 1 p) i) (nI i) τ := by
      intro d
      induction d with
      | zero =>
        intro i hi
        refine And.intro (fun _ => ?_) (fun hc => absurd (by rw [hM.2.2.1]; exact nI_le (by omega) (by omega)) hc)
        rw [show i = n by omega, hX3]; exact ⟨rfl, hI⟩
      | succ d ih =>
        intro i hi
        refine And.intro (fun hc => absurd hc (by rw [hM.2.2.1]; exact nI_ge (by omega) (by omega))) (fun _ => And.intro (vp_in_nI (by omega) (by omega)) ?_)
        rw [nI_clamp (by omega), nI_1]
        exact ih (i + 1) (by omega)
    exact ⟨13, slots _ (fun _ => ⟨h + 1, heaps _ (fun _ => ⟨n + 1, images n 0 (by omega)⟩) h 0 (by omega)⟩) 12 0 (by omega)⟩
  unfold wX4_digest wX4_fold
  dsimp only
  rw [e0, e1, hx0]
  have slots : ∀ (K : Int64 → Int32 → ss_S → Prop), (∀ y, K X1 y σ) → ∀ d k, k + d = 12 → lX4_digest_26 (fun r σ1 => wX5_digest τ (fun r' τ1 => r = r' ∧ Inv σ1 τ1)) K (d + 1) (dgS ds (fun k i => τ 5 (6 * k + i)) x0 k) (nI k) σ := by
    intro K hK d
    induction d with
    | zero =>
      intro k hk
      have e : k = 12 := by omega
      subst e
      refine And.intro (fun _ => ?_) (fun hc => absurd (nI_le (a := 12) (b := 12) (Nat.le_refl _) (by omega)) hc)
      rw [hX1]; exact hK _
    | succ d ih =>
      intro k hk
      obtain ⟨pv, M, s1, s2, s3⟩ := hds k (by omega)
      refine And.intro (fun hc => absurd hc (nI_ge (b := 12) (by omega) (by omega))) (fun _ => And.intro (vin (by omega)) ?_)
      rw [ncl (by omega)]
      refine cFoldSpace hC (isSp_sl (by omega)) s1 (row := fun i => τ 5 (6 * k + i)) s2.2 _ ?_
      rw [nI_1, ← s3]
      exact ih (k + 1) (by omega)
  have heaps : ∀ (K : Int64 → Int32 → ss_S → Prop), (∀ y, K X2 y σ) → ∀ d k, k + d = h → lX4_digest_51 (fun r σ1 => wX5_digest τ (fun r' τ1 => r = r' ∧ Inv σ1 τ1)) K (d + 1) (dgS (fun i => fb_ct (P i) n) (fun k i => τ 9 (6 * k + i)) X1 k) (nI k) σ := by
    intro K hK d
    induction d with
    | zero =>
      intro k hk
      refine And.intro (fun _ => ?_) (fun hc => absurd (by rw [hh.2.1]; exact nI_le (by omega) (by omega)) hc)
      rw [show k = h by omega, hX2]; exact hK _
    | succ d ih =>
      intro k hk
      obtain ⟨s1, s2⟩ := hPN k (by omega)
      refine And.intro (fun hc => absurd hc (by rw [hh.2.1]; exact nI_ge (by omega) (by omega))) (fun _ => And.intro (vp_in_nI (by omega) (by omega)) ?_)
      rw [nI_clamp (by omega)]
      refine cFoldSpace hC (isSp_hp (by omega)) s1 (row := fun i => τ 9 (6 * k + i)) s2.2 _ ?_
      rw [nI_1]
      exact ih (k + 1) (by omega)
  have images : ∀ d i, i + d = n → lX4_digest_84 (fun r σ1 => wX5_digest τ (fun r' τ1 => r = r' ∧ Inv σ1 τ1)) (fun x1_17 _ σ_17 => (fun r21 σ20 => wX5_digest τ (fun r' τ1 => r21 = r' ∧ Inv σ20 τ1)) ((31 * ((31 * x1_17) + (Int32.toInt64 (σ_17 0 7)))) + (Int32.toInt64 (σ_17 0 8))) σ_17) (d + 1) (dgR X2 (fun p => τ 1 p) i) (nI i) σ := by
    intro d
    induction d with
    | zero =>
      intro i hi
      refine And.intro (fun _ => ?_) (fun hc => absurd (by rw [hC.2.2.1]; exact nI_le (by omega) (by omega)) hc)
      rw [show i = n by omega, hX3]
      dsimp only
      rw [e7, e8]; exact model
    | succ d ih =>
      intro i hi
      refine And.intro (fun hc => absurd hc (by rw [hC.2.2.1]; exact nI_ge (by omega) (by omega))) (fun _ => ?_)
      refine pX2_imageNumber hC T1 (by omega) ?_
      have := ih (i + 1) (by omega)
      simp only [dgR] at this
      rw [(T2 i (by omega)).2] at this
      unfold wX4_fold
      rw [nI_1]
      exact this
  exact ⟨13, slots _ (fun _ => ⟨h + 1, heaps _ (fun _ => ⟨n + 1, images n 0 (by omega)⟩) h 0 (by omega)⟩) 12 0 (by omega)⟩
