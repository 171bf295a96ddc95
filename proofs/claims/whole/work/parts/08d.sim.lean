theorem mAside {τ : ss_S} {q n : Nat} (hn : n ≤ 6) {pv : Nat → Bool} {M : Nat → la_W} (hpv : ∀ p, pv p = true → p < n) (hW : Wk τ q n 0 pv M) {x2 x3 : Int32} {post : Int32 → ss_S → Prop} {K : Int32 → ss_S → Prop}
    (hp : ∀ f : Nat → Int32, (∀ p, pv p = true → f (fb_ct pv p) = nI (la_val q (M p) n)) → ∀ y, K y (sA τ 6 f)) : ∃ e, lX5_meet_35 x2 x3 (nI (fb_ct pv n)) post K e 0 τ := by
  have hd := fb_ct_le pv n
  have key : ∀ d i, i + d = fb_ct pv n → ∀ f : Nat → Int32, (∀ j, j < i → f j = τ 2 j) → lX5_meet_35 x2 x3 (nI (fb_ct pv n)) post K (d + 1) (nI i) (sA τ 6 f) := by
    intro d
    induction d with
    | zero =>
      intro i hi f hf
      refine And.intro (fun _ => hp f (fun p hpp => ?_) _) (fun hc => absurd (nI_le (by omega) (by omega)) hc)
      have hl := la_ct_lt hpp (hpv p hpp)
      rw [hf _ (by omega)]
      have := hW p hpp
      rwa [Nat.zero_add] at this
    | succ d ih =>
      intro i hi f hf
      refine And.intro (fun hc => absurd hc (nI_ge (by omega) (by omega))) (fun _ => And.intro (vp_in_nI (by omega) (by omega)) (And.intro (vp_in_nI (by omega) (by omega)) ?_))
      rw [nI_clamp (by omega), u2_sA, sA_ne _ _ (show 2 ≠ 6 by omega), nI_1]
      refine ih (i + 1) (by omega) _ (fun j hj => ?_)
      by_cases e : j = i
      · rw [e, pk_us]
      · rw [pk_un e]; exact hf j (by omega)
  have := key (fb_ct pv n) 0 (by omega) (τ 6) (fun j hj => absurd hj (Nat.not_lt_zero _))
  rw [sA_id] at this
  exact ⟨_, this⟩
theorem mUnaside {τ : ss_S} {q n m : Nat} (hn : n ≤ 6) {pv : Nat → Bool} {M : Nat → la_W} (hpv : ∀ p, pv p = true → p < n) (hA : ∀ p, pv p = true → τ 6 (fb_ct pv p) = nI (la_val q (M p) n)) (hm : m ≤ 12) (h7 : τ 0 7 = nI m) {x3 : Int32} {post : Int32 → ss_S → Prop} {K : Int32 → ss_S → Prop}
    (hp : ∀ τ' : ss_S, OthM τ τ' → τ' 0 7 = nI (m + fb_ct pv n) → (∀ j, j < m → τ' 2 j = τ 2 j) → Wk τ' q n m pv M → ∀ y, K y τ') : ∃ e, lX5_meet_79 x3 (nI (fb_ct pv n)) post K e 0 τ := by
  have hd := fb_ct_le pv n
  have key : ∀ d i, i + d = fb_ct pv n → ∀ τ1 : ss_S, OthM τ τ1 → τ1 0 7 = nI (m + i) → (∀ j, j < m → τ1 2 j = τ 2 j) → (∀ j, j < i → τ1 2 (m + j) = τ 6 j) → lX5_meet_79 x3 (nI (fb_ct pv n)) post K (d + 1) (nI i) τ1 := by
    intro d
    induction d with
    | zero =>
      intro i hi τ1 hO h71 h1 h2
      have ei : i = fb_ct pv n := by omega
      subst ei
      refine And.intro (fun _ => hp τ1 hO h71 h1 (fun p hpp => ?_) _) (fun hc => absurd (nI_le (Nat.le_refl _) (by omega)) hc)
      rw [h2 _ (la_ct_lt hpp (hpv p hpp))]; exact hA p hpp
    | succ d ih =>
      intro i hi τ1 hO h71 h1 h2
      refine And.intro (fun hc => absurd hc (nI_ge (by omega) (by omega))) (fun _ => ?_)
      rw [h71]
      refine And.intro (vp_in_nI (by omega) (by omega)) (And.intro (vp_in_nI (by omega) (by omega)) ?_)
      rw [nI_clamp (by omega), nI_clamp (by omega), hO.1 6 (by omega) (by omega), u2_ne _ _ _ (show 0 ≠ 2 by omega), h71, nI_1, nI_1]
      refine ih (i + 1) (by omega) _ (hO.trans ⟨fun j a b => by rw [u2_ne _ _ _ a, u2_ne _ _ _ b], fun j hj => by rw [u2_at, pk_un hj, u2_ne _ _ _ (by omega)]⟩) (by rw [u2_at, pk_us, Nat.add_assoc]) (fun j hj => ?_) (fun j hj => ?_)
      · rw [u2_ne _ _ _ (by omega), u2_at, pk_un (by omega)]; exact h1 j hj
      · rw [u2_ne _ _ _ (by omega), u2_at]
        by_cases ej : j = i
        · rw [ej, pk_us]
        · rw [pk_un (by omega)]; exact h2 j (by omega)
  exact ⟨_, key (fb_ct pv n) 0 (by omega) τ OthM.rf h7 (fun _ _ => rfl) (fun j hj => absurd hj (Nat.not_lt_zero _))⟩
def OthA (τ τ' : ss_S) : Prop := (∀ i, i ≠ 0 → i ≠ 2 → i ≠ 3 → i ≠ 6 → τ' i = τ i) ∧ ∀ j, j ≠ 7 → τ' 0 j = τ 0 j
theorem OthT.toA {τ τ' : ss_S} (h : OthT τ τ') : OthA τ τ' := ⟨fun i a b c _ => h.1 i a b c, h.2⟩
theorem OthA.trans {τ τ' τ'' : ss_S} (h : OthA τ τ') (h' : OthA τ' τ'') : OthA τ τ'' := ⟨fun i a b c d => (h'.1 i a b c d).trans (h.1 i a b c d), fun j hj => (h'.2 j hj).trans (h.2 j hj)⟩
theorem OthA.aside {τ : ss_S} (f : Nat → Int32) : OthA τ (sA τ 6 f) := ⟨fun i _ _ _ d => sA_ne _ _ d, fun j _ => by rw [sA_ne _ _ (by omega)]⟩
theorem OthA.kp {t : Nat} {τ τ' : ss_S} (h : OthA τ τ') : KpM t τ τ' :=
  ⟨h.1 1 (by omega) (by omega) (by omega) (by omega), h.1 8 (by omega) (by omega) (by omega) (by omega), h.1 9 (by omega) (by omega) (by omega) (by omega), h.2, fun k _ _ => ⟨by rw [h.1 4 (by omega) (by omega) (by omega) (by omega)], fun j _ => by rw [h.1 5 (by omega) (by omega) (by omega) (by omega)]⟩⟩
theorem OthA.Fr {τ τ' : ss_S} {q n : Nat} (h : OthA τ τ') (hF : FrM τ q n) : FrM τ' q n := (h.kp (t := 12)).Fr hF
theorem SlM.othA {τ τ' : ss_S} {q n k : Nat} {pv : Nat → Bool} {M : Nat → la_W} (hS : SlM τ q n k pv M) (h : OthA τ τ') : SlM τ' q n k pv M := ⟨by rw [h.1 4 (by omega) (by omega) (by omega) (by omega)]; exact hS.1, fun p hp => by rw [h.1 5 (by omega) (by omega) (by omega) (by omega)]; exact hS.2 p hp⟩
theorem la_un_comm {q : Nat} (G K : la_W → Prop) (v : la_W) : la_Sp q (la_un G K) v ↔ la_Sp q (la_un K G) v := la_Sp.congr (fun w => ⟨Or.symm, Or.symm⟩) v
theorem la_G_cong {pv : Nat → Bool} {M M' : Nat → la_W} (h : ∀ p, pv p = true → M p = M' p) (w : la_W) : la_G pv M w ↔ la_G pv M' w :=
  ⟨fun ⟨p, a, b⟩ => ⟨p, a, by rw [← h p a]; exact b⟩, fun ⟨p, a, b⟩ => ⟨p, a, by rw [h p a]; exact b⟩⟩
theorem sim_meet {σ τ : ss_S} (hI : Inv σ τ) (x1 x2 x3 : Int32) : wX4_meet x1 x2 x3 σ (fun r σ1 => wX5_meet x1 x2 x3 τ (fun r' τ1 => r = r' ∧ Inv σ1 τ1)) := by
  obtain ⟨q, n, h, g, r, I⟩ := id hI
  have hC := I.1
  have hM := I.2.1
  have h6 := hC.1.n6
  rcases sl_cases x1 with ⟨a, ha, rfl⟩ | hx
  · refine cSlY ha (br1 ?_)
    rcases sl_cases x2 with ⟨b, hb, rfl⟩ | hx
    · refine cSlY hb (br1 ?_)
      rcases sl_cases x3 with ⟨t, ht, rfl⟩ | hx
      · refine cSlY ht (rb1 ?_)
        obtain ⟨pva, Ma, hSa, hTa⟩ := I.2.2.2.2.2.1 a ha
        obtain ⟨pvb, Mb, hSb, hTb⟩ := I.2.2.2.2.2.1 b hb
        rw [ncl ha, ncl hb]
        refine And.intro (vin ha) (pX3_becomeDual hC isSp_168 (isSp_sl ha) (by omega) hSa (fun σ1 pc1 N1 hO1 hC1 hp1 => And.intro (vin hb) ?_))
        have k1 := hO1.kp0 isSp_168 (by omega)
        refine pX3_becomeDual (k1.Fr hC) isSp_171 (isSp_sl hb) (by omega) (k1.Sp (isSp_sl hb) (by omega) (by omega) hSb) (fun σ2 pc2 N2 hO2 hC2 hp2 => ?_)
        have k2 := k1.trans (hO2.kp0 isSp_171 (by omega))
        have hC1' := hO2.Sp isSp_171 isSp_168 (by omega) hC1
        refine pX3_joinSpace (k2.Fr hC) isSp_171 isSp_168 (by omega) hC2 hC1' (fun σ3 pc3 N3 hO3 hC3 hp3 => ?_)
        have k3 := k2.trans (hO3.kp0 isSp_171 (by omega))
        refine pX3_becomeDual (k3.Fr hC) isSp_168 isSp_171 (by omega) hC3 (fun σ4 pc4 N4 hO4 hC4 hp4 => ?_)
        have k4 := k3.trans (hO4.kp0 isSp_168 (by omega))
        refine cSettle (σ0 := σ) h6 ht isSp_168 (by omega) hC4 (fun σ5 k5 hS5 => ?_)
        refine mAreY ha hb ht (rb1 ?_)
        refine mLoad0 h6 ha hSa.1.1 hTa (fun τ1 hA1 h71 hW1 => ?_)
        refine mTurn (hA1.toT.Fr hM) hSa.1 h71 hW1 (fun τ2 pd1 P1 hA2 hR1 hS1 h72 hW2 => ?_)
        obtain ⟨e1, f1⟩ := la_uniqG hC.1.two hC1.1 hR1 hp1 hS1
        subst e1
        rw [h72]
        refine mAside h6 hR1.1 hW2 (fun f hf _ => ?_)
        have hA3 := (hA1.toT.trans hA2).toA.trans (OthA.aside f)
        refine mLoad0 h6 hb hSb.1.1 (hTb.othA hA3) (fun τ4 hA4 h74 hW4 => ?_)
        have hA4' := hA3.trans hA4.toT.toA
        refine mTurn (hA4'.Fr hM) hSb.1 h74 hW4 (fun τ5 pd2 P2 hA5 hR2 hS2 h75 hW5 => ?_)
        obtain ⟨e2, f2⟩ := la_uniqG hC.1.two hC2.1 hR2 hp2 hS2
        subst e2
        have hA5' := hA4'.trans hA5.toA
        have hlc := fb_ct_le pc2 n
        refine mUnaside (q := q) (M := P1) h6 hR1.1 (fun p hpp => ?_) (by omega) h75 (fun τ6 hA6 h76 hk6 hW6 _ => ?_)
        · rw [hA5.1 6 (by omega) (by omega) (by omega), hA4.1 6 (by omega) (by omega), sA_same]; exact hf p hpp
        · have hA6' := hA5'.trans hA6.toT.toA
          refine mSettle2 (hA6'.Fr hM) hR2 hR1 h76 (hW5.keep hR2.1 hk6) hW6 (fun τ7 pd3 P3 hA7 hR3 hS3 h77 hW7 => ?_)
          obtain ⟨e3, f3⟩ := la_uniqG hC.1.two hC3.1 hR3 (fun v => (hp3 v).trans (la_Sp.congr (fun w => or_congr (la_G_cong f2 w) (la_G_cong f1 w)) v)) hS3
          subst e3
          have hA7' := hA6'.trans hA7.toT.toA
          refine mTurn (hA7'.Fr hM) hR3 h77 hW7 (fun τ8 pd4 P4 hA8 hR4 hS4 h78 hW8 => ?_)
          obtain ⟨e4, f4⟩ := la_uniqG hC.1.two hC4.1 hR4 (fun v => (hp4 v).trans (la_Sp.congr (fun w => la_dG_cong f3 n w) v)) hS4
          subst e4
          exact mSave h6 ht hR4.1 h78 hW8 (fun τ9 hK hT => ⟨rfl, q, n, h, g, r, I.step (k4.any.trans k5) ((hA7'.trans hA8.toA).kp.trans hK) ht ⟨pc4, N4, hS5, hT.cong f4⟩⟩)
      · exact cSlN hx (rb0 (mAreN3 ha hb hx (rb0 ⟨rfl, hI⟩)))
    · exact cSlN hx (br0 (mAreN2 ha hx (rb0 ⟨rfl, hI⟩)))
  · exact cSlN hx (br0 (mAreN1 hx (rb0 ⟨rfl, hI⟩)))
theorem sim_empty {σ τ : ss_S} (hI : Inv σ τ) : wX4_empty σ (fun r σ1 => wX5_empty τ (fun r' τ1 => r = r' ∧ Inv σ1 τ1)) := by
  obtain ⟨q, n, h, g, r, a, b, c, d, e, f, i, T, T1, T2⟩ := hI
  unfold wX4_empty wX5_empty
  refine ⟨by rw [c.2.1, c.2.2], q, n, 0, g, r, ?_, b.u2 (by omega) 0, ⟨by omega, by rw [u2_at, pk_us]; rfl, by rw [u2_at, pk_us]; rfl⟩, ⟨d.1, by rw [u2_ne _ _ _ (by omega)]; exact d.2.1, by rw [u2_at, pk_un (by omega)]; exact d.2.2⟩, ⟨e.1, by rw [u2_ne _ _ _ (by omega)]; exact e.2.1, by rw [u2_at, pk_un (by omega)]; exact e.2.2⟩, fun k hk => ?_, fun k hk => absurd hk (Nat.not_lt_zero _), T, T1.eq (u2_ne _ _ _ (by omega)), fun p hp => ⟨(T2 p hp).1, by rw [u2_ne _ _ _ (by omega)]; exact (T2 p hp).2⟩⟩
  · obtain ⟨a1, a2, a3, a4⟩ := a
    exact ⟨a1, by rw [u2_ne _ _ _ (by omega)]; exact a2, by rw [u2_ne _ _ _ (by omega)]; exact a3, by rw [u2_ne _ _ _ (by omega)]; exact a4⟩
  · obtain ⟨pv, M, s1, s2⟩ := f k hk
    exact ⟨pv, M, s1.eq (by rw [u2_ne _ _ _ (by omega)]) (fun j => by rw [u2_ne _ _ _ (by omega)]), ⟨by rw [u2_ne _ _ _ (by omega)]; exact s2.1, fun p hp => by rw [u2_ne _ _ _ (by omega)]; exact s2.2 p hp⟩⟩
theorem InvQ.push {σ τ σ1 : ss_S} {τ1 : ss_S} {q n h g r : Nat} (I : InvQ σ τ q n h g r) (hh : h < 40) {c0 : Nat} (hc0 : c0 = 45 + 3 * h) (hC : KpC c0 σ σ1) (hM : KpM 12 τ τ1) {pv : Nat → Bool} {M : Nat → la_W} (hS : SpC σ1 (45 + 3 * h) q n pv M) {f g' : Nat → Int32} (h1 : ∀ k, k ≠ h → f k = τ1 8 k) (h2 : f h = nI (fb_ct pv n)) (h3 : ∀ p, pv p = true → g' (6 * h + fb_ct pv p) = nI (la_val q (M p) n)) (h4 : ∀ k j, k ≠ h → j < 6 → g' (6 * k + j) = τ1 9 (6 * k + j)) :
    InvQ (u2 σ1 3 2 (nI (h + 1))) (u2 (sA (sA τ1 8 f) 9 g') 0 13 (nI (h + 1))) q n (h + 1) g r := by
  obtain ⟨a, b, c, d, e, fs, i, T, T1, T2⟩ := I
  have h6 := a.1.n6
  have a' := hC.Fr a
  have b' := hM.Fr b
  refine ⟨?_, ((b'.sA (a := 8) (by omega) f).sA (a := 9) (by omega) g').u2 (by omega) _, ⟨by omega, by rw [u2_at, pk_us], by rw [u2_at, pk_us]⟩, ⟨d.1, by rw [u2_ne _ _ _ (by omega), hC.1]; exact d.2.1, by rw [u2_at, pk_un (by omega), sA_ne _ _ (by omega), sA_ne _ _ (by omega), hM.2.2.2.1 4 (by omega)]; exact d.2.2⟩, ⟨e.1, by rw [u2_ne _ _ _ (by omega), hC.1]; exact e.2.1, by rw [u2_at, pk_un (by omega), sA_ne _ _ (by omega), sA_ne _ _ (by omega), hM.2.2.2.1 5 (by omega)]; exact e.2.2⟩, fun k hk => ?_, fun k hk => ?_, T, T1.eq (by rw [u2_ne _ _ _ (by omega), hC.2.2.2.1]), fun p hp => ⟨(T2 p hp).1, by rw [u2_ne _ _ _ (by omega), sA_ne _ _ (by omega), sA_ne _ _ (by omega), hM.1]; exact (T2 p hp).2⟩⟩
  · obtain ⟨a1, a2, a3, a4⟩ := a'
    exact ⟨a1, by rw [u2_ne _ _ _ (by omega)]; exact a2, by rw [u2_ne _ _ _ (by omega)]; exact a3, by rw [u2_ne _ _ _ (by omega)]; exact a4⟩
  · obtain ⟨pv', M', s1, s2⟩ := fs k hk
    have s1' := hC.Sp (isSp_sl hk) (by omega) (by omega) s1
    have s2' := hM.Sl h6 hk (by omega) s1.1.1 s2
    exact ⟨pv', M', s1'.eq (by rw [u2_ne _ _ _ (by omega)]) (fun j => by rw [u2_ne _ _ _ (by omega)]), ⟨by rw [u2_ne _ _ _ (by omega), sA_ne _ _ (by omega), sA_ne _ _ (by omega)]; exact s2'.1, fun p hp => by rw [u2_ne _ _ _ (by omega), sA_ne _ _ (by omega), sA_ne _ _ (by omega)]; exact s2'.2 p hp⟩⟩
  · by_cases ek : k = h
    · subst ek
      refine ⟨pv, M, hS.eq (by rw [u2_ne _ _ _ (by omega)]) (fun j => by rw [u2_ne _ _ _ (by omega)]), ?_, fun p hp => ?_⟩
      · rw [u2_ne _ _ _ (by omega), sA_ne _ _ (by omega), sA_same]; exact h2
      · rw [u2_ne _ _ _ (by omega), sA_same]; exact h3 p hp
    · obtain ⟨pv', M', s1, s2⟩ := i k (by omega)
      have s1' := hC.Sp (isSp_hp (by omega)) (by omega) (by omega) s1
      have s2' := hM.Hp s2
      refine ⟨pv', M', s1'.eq (by rw [u2_ne _ _ _ (by omega)]) (fun j => by rw [u2_ne _ _ _ (by omega)]), ?_, fun p hp => ?_⟩
      · rw [u2_ne _ _ _ (by omega), sA_ne _ _ (by omega), sA_same, h1 k ek]; exact s2'.1
      · have := la_ct_lt hp (s1.1.1 p hp)
        have := fb_ct_le pv' n
        rw [u2_ne _ _ _ (by omega), sA_same, h4 k _ ek (by omega)]; exact s2'.2 p hp
theorem accept_push {σ τ : ss_S} {q n h g r s : Nat} (I : InvQ σ τ q n h g r) (hh : h < 40) (hs : isSp s) (hne : s ≠ 45 + 3 * h) {pv : Nat → Bool} {M : Nat → la_W} (hS : SpC σ s q n pv M) {post : ss_S → Prop}
    (hp : ∀ σ1 : ss_S, Oth (45 + 3 * h) σ σ1 → SpC σ1 (45 + 3 * h) q n pv M → post (u2 σ1 3 2 (nI (h + 1)))) : wX1_accept s σ post := by
  have h6 := I.1.1.n6
  have h32 := I.2.2.1.2.1
  unfold wX1_accept
  rw [h32]
  refine And.intro (fun hc => absurd hc (nI_ge (b := 40) hh (by omega))) (fun _ => And.intro (vp_in_nI hh (by omega)) ?_)
  rw [nI_clamp (by omega)]
  refine pX3_copyFrom h6 (isSp_hp hh) hs (Ne.symm hne) hS (fun σ1 hO hS1 => ?_)
  rw [(hO.kp (isSp_hp hh)).2.2.1, h32, nI_1]
  exact hp σ1 hO hS1
theorem toHeap_push {τ : ss_S} {q n h : Nat} (hh : h < 40) {pv : Nat → Bool} {M : Nat → la_W} (hn : n ≤ 6) (hpv : ∀ p, pv p = true → p < n) (h13 : τ 0 13 = nI h) (h7 : τ 0 7 = nI (fb_ct pv n)) (hW : Wk τ q n 0 pv M) {post : ss_S → Prop}
    (hp : ∀ f g' : Nat → Int32, (∀ k, k ≠ h → f k = τ 8 k) → f h = nI (fb_ct pv n) → (∀ p, pv p = true → g' (6 * h + fb_ct pv p) = nI (la_val q (M p) n)) → (∀ k j, k ≠ h → j < 6 → g' (6 * k + j) = τ 9 (6 * k + j)) → post (u2 (sA (sA τ 8 f) 9 g') 0 13 (nI (h + 1)))) : wX5_toHeap τ post := by
  have hd := fb_ct_le pv n
  refine pX5_toHeap hh (by omega) h13 h7 (fun f g' h1 h2 h3 h4 => hp f g' h1 h2 (fun p hpp => ?_) h4)
  rw [h3 _ (la_ct_lt hpp (hpv p hpp))]
  have := hW p hpp
  rwa [Nat.zero_add] at this
theorem sim_put {σ τ : ss_S} (hI : Inv σ τ) (x1 : Int32) : wX4_put x1 σ (fun r σ1 => wX5_put x1 τ (fun r' τ1 => r = r' ∧ Inv σ1 τ1)) := by
  obtain ⟨q, n, h, g, r, I⟩ := id hI
  have hC := I.1
  have hM := I.2.1
  have h6 := hC.1.n6
  have hh := I.2.2.1
  rcases sl_cases x1 with ⟨k, hk, rfl⟩ | hx
  · refine cSlY hk (rb1 ?_)
    obtain ⟨pv, M, hS, hT⟩ := I.2.2.2.2.2.1 k hk
    rw [hh.2.1]
    rcases Nat.lt_or_ge h 40 with hlt | hge
    · refine And.intro (fun _ => And.intro (vin hk) ?_) (fun hc => absurd (nI_lt (b := 40) hlt (by omega)) hc)
      rw [ncl hk]
      refine accept_push I hlt (isSp_sl hk) (by omega) hS (fun σ1 hO hS1 => ?_)
      rw [u2_at, pk_us]
      show wX5_put (nI k) τ _
      unfold wX5_put
      refine mSlY hk (rb1 ?_)
      rw [hh.2.2]
      refine And.intro (fun _ => ?_) (fun hc => absurd ((nI_eq (b := 40) (by omega) (by omega)).mp hc) (by omega))
      refine mLoad0 h6 hk hS.1.1 hT (fun τ1 hA h7 hW => ?_)
      refine toHeap_push hlt h6 hS.1.1 (by rw [hA.2 13 (by omega)]; exact hh.2.2) h7 hW (fun f g' a1 a2 a3 a4 => ?_)
      rw [u2_at, pk_us]
      exact ⟨rfl, q, n, h + 1, g, r, I.push hlt rfl (hO.kp (isSp_hp hlt)) hA.kp hS1 a1 a2 a3 a4⟩
    · have e : h = 40 := by omega
      subst e
      refine And.intro (fun hc => absurd hc (nI_nlt (a := 40) (b := 40) (Nat.le_refl _) (by omega))) (fun _ => ?_)
      refine mSlY hk (rb1 ?_)
      rw [hh.2.2]
      exact And.intro (fun hc => absurd rfl hc) (fun _ => ⟨rfl, hI⟩)
  · exact cSlN hx (rb0 (mSlN hx (rb0 ⟨rfl, hI⟩)))
theorem sim_take {σ τ : ss_S} (hI : Inv σ τ) (x1 x2 : Int32) : wX4_take x1 x2 σ (fun r σ1 => wX5_take x1 x2 τ (fun r' τ1 => r = r' ∧ Inv σ1 τ1)) := by
  obtain ⟨q, n, h, g, r, I⟩ := id hI
  have hC := I.1
  have hM := I.2.1
  have h6 := hC.1.n6
  have hh := I.2.2.1
  rcases sl_cases x1 with ⟨t, ht, rfl⟩ | hx
  · refine cSlY ht (br1 ?_)
    rw [hh.2.1]
    have hm : ∀ (P : Int32 → ss_S → Prop), wX5_in (Int32.toInt64 x2) 0 (Int32.toInt64 (nI h - 1)) τ (fun r4 σ3 => ((¬ r4 = 0 → wX5_loadHeap x2 (u2 σ3 0 7 0) (fun σ5 => wX5_save (nI t) σ5 (fun r7 σ6 => P r7 σ6))) ∧ (r4 = 0 → P ((-101)) σ3))) → wX5_take (nI t) x2 τ P := fun P hP => mSlY ht (br1 (by rw [hh.2.2]; exact hP))
    rcases n_cases h x2 with ⟨i, hi, rfl⟩ | hx
    · obtain ⟨pv, M, hS, hT⟩ := I.2.2.2.2.2.2.1 i hi
      refine And.intro (fun hc => absurd hc (nI_pos (by omega))) (fun _ => And.intro (fun _ => And.intro (vp_in_nI (by omega) (by omega)) ?_) (fun hc => absurd (nI_lt hi (by omega)) hc))
      rw [nI_clamp (by omega)]
      refine cSettle (σ0 := σ) h6 ht (isSp_hp (by omega)) (by omega) hS (fun σ1 k1 hS1 => hm _ ?_)
      refine pX5_inN (b := h) (by omega) (nI_m1_toInt (by omega)) (fun _ _ _ => rb1 ?_) (fun hx => absurd rfl (hx i hi))
      refine mLoadH0 h6 (by omega) hS.1.1 hT (fun τ1 hA h7 hW => ?_)
      exact mSave h6 ht hS.1.1 h7 hW (fun τ2 hK hT2 => ⟨rfl, q, n, h, g, r, I.step k1 (hA.kp.trans hK) ht ⟨pv, M, hS1, hT2⟩⟩)
    · have hend : wX5_take (nI t) x2 τ (fun r' τ1 => (-101) = r' ∧ Inv σ τ1) := hm _ (pX5_inN (b := h) (by omega) (nI_m1_toInt (by omega)) (fun v hv e => absurd e (hx v hv)) (fun _ => rb0 ⟨rfl, hI⟩))
      exact And.intro (fun _ => hend) (fun h0 => And.intro (fun hc => absurd hc (nlt_of_le (neq_lt (by omega) hx h0))) (fun _ => hend))
  · exact cSlN hx (br0 (mSlN hx (br0 ⟨rfl, hI⟩)))
theorem sim_told {σ τ : ss_S} (hI : Inv σ τ) (x1 : Int32) : wX4_told x1 σ (fun r σ1 => wX5_told x1 τ (fun r' τ1 => r = r' ∧ Inv σ1 τ1)) := by
  obtain ⟨q, n, h, g, r, I⟩ := id hI
  obtain ⟨a, b, c, d, e, f, i, T⟩ := I
  unfold wX4_told wX5_told
  refine ⟨fun h0 => ⟨fun _ => ⟨by rw [a.2.1, b.2.1], hI⟩, fun hc => absurd h0 hc⟩, fun n0 => ⟨fun h1 => ⟨fun hc => absurd hc n0, fun _ => ⟨fun _ => ⟨by rw [a.2.2.1, b.2.2.1], hI⟩, fun hc => absurd h1 hc⟩⟩, fun n1 => ⟨fun h2 => ⟨fun hc => absurd hc n0, fun _ => ⟨fun hc => absurd hc n1, fun _ => ⟨fun _ => ⟨by rw [a.2.2.2, b.2.2.2], hI⟩, fun hc => absurd h2 hc⟩⟩⟩, fun n2 => ⟨fun h3 => ⟨fun hc => absurd hc n0, fun _ => ⟨fun hc => absurd hc n1, fun _ => ⟨fun hc => absurd hc n2, fun _ => ⟨fun _ => ⟨by rw [c.2.1, c.2.2], hI⟩, fun hc => absurd h3 hc⟩⟩⟩⟩, fun n3 => ⟨fun h4 => ⟨fun hc => absurd hc n0, fun _ => ⟨fun hc => absurd hc n1, fun _ => ⟨fun hc => absurd hc n2, fun _ => ⟨fun hc => absurd hc n3, fun _ => ⟨fun _ => ⟨by rw [d.2.1, d.2.2], hI⟩, fun hc => absurd h4 hc⟩⟩⟩⟩⟩, fun n4 => ⟨fun h5 => ⟨fun hc => absurd hc n0, fun _ => ⟨fun hc => absurd hc n1, fun _ => ⟨fun hc => absurd hc n2, fun _ => ⟨fun hc => absurd hc n3, fun _ => ⟨fun hc => absurd hc n4, fun _ => ⟨fun _ => ⟨by rw [e.2.1, e.2.2], hI⟩, fun hc => absurd h5 hc⟩⟩⟩⟩⟩⟩, fun n5 => ⟨fun hc => absurd hc n0, fun _ => ⟨fun hc => absurd hc n1, fun _ => ⟨fun hc => absurd hc n2, fun _ => ⟨fun hc => absurd hc n3, fun _ => ⟨fun hc => absurd hc n4, fun _ => ⟨fun hc => absurd hc n5, fun _ => ⟨rfl, hI⟩⟩⟩⟩⟩⟩⟩⟩⟩⟩⟩⟩⟩
theorem sim_mapped {σ τ : ss_S} (hI : Inv σ τ) (x1 : Int32) : wX4_mapped x1 σ (fun r σ1 => wX5_mapped x1 τ (fun r' τ1 => r = r' ∧ Inv σ1 τ1)) := by
  obtain ⟨q, n, h, g, r, I⟩ := id hI
  have hC := I.1
  have hM := I.2.1
  have h6 := hC.1.n6
  obtain ⟨T, T1, T2⟩ := I.2.2.2.2.2.2.2
  rcases vc_cases hC.1 x1 with ⟨u, hu, rfl⟩ | hx
  · refine cVY hC (vl hu) (rb1 ?_)
    refine pX0_spell (o := 0) hC (by omega) (vl hu) (by rw [len6]; omega) ?_
    rw [la_dig_val hu]
    have k1 := KpC.fig (σ := σ) (fb_put (σ 6) (fun c => nI (u c)) 0 n)
    refine pX2_apply (k1.Fr hC) (T1.eq k1.2.2.2.1) (by omega) (by rw [len6]; omega) hu (fun c hc => by rw [sA_same, fb_put_in (by omega) (by omega), Nat.sub_zero]) (fun h' => ?_)
    exact mVY hM (vl hu) (br1 (pX5_mappedOf hM T2 hu ⟨rfl, q, n, h, g, r, I.keep (k1.trans (KpC.res h')) KpM.rf⟩))
  · exact cVN hC hx (rb0 (mVN hM hx (br0 ⟨rfl, hI⟩)))
theorem sim_map {σ τ : ss_S} (hI : Inv σ τ) (x1 x2 : Int32) : wX4_map x1 x2 σ (fun r σ1 => wX5_map x1 x2 τ (fun r' τ1 => r = r' ∧ Inv σ1 τ1)) := by
  obtain ⟨q, n, h, g, r, I⟩ := id hI
  have hC := I.1
  have hM := I.2.1
  have h6 := hC.1.n6
  obtain ⟨T, T1, T2⟩ := I.2.2.2.2.2.2.2
  rcases sl_cases x1 with ⟨a, ha, rfl⟩ | hx
  · refine cSlY ha (br1 ?_)
    rcases sl_cases x2 with ⟨t, ht, rfl⟩ | hx
    · refine cSlY ht (rb1 ?_)
      obtain ⟨pva, Ma, hSa, hTa⟩ := I.2.2.2.2.2.1 a ha
      rw [ncl ha]
      refine And.intro (vin ha) (pX2_applyToSpace hC T1 isSp_168 (isSp_sl ha) (by omega) hSa (fun σ1 pv' M' hO1 hS1 hsp => ?_))
      have k1 := hO1.kp0 isSp_168 (by omega)
      refine cSettle (σ0 := σ) h6 ht isSp_168 (by omega) hS1 (fun σ3 k3 hS3 => ?_)
      refine mAreY ha ha ht (rb1 ?_)
      refine mLoad0 h6 ha hSa.1.1 hTa (fun τ1 hO h71 hW1 => ?_)
      have hct := fb_ct_le pva n
      obtain ⟨pt, hpt⟩ := la_pt (n := n) pva
      refine pX5_step (hO.toT.Fr hM) (fun p hp => ⟨(T2 p hp).1, by rw [hO.1 1 (by omega) (by omega)]; exact (T2 p hp).2⟩) (by omega) h71 (g := fun i => Ma (pt i)) (fun i hi => (hSa.1.2 _ (hpt i hi).2.1).1) (fun i hi => ?_) (fun τ2 pv2 M2 hO2 hR2 hS2 _ h72 hr2 => ?_)
      · have := hW1 _ (hpt i hi).2.1
        rwa [(hpt i hi).2.2, Nat.zero_add] at this
      · have hG : ∀ w, la_hG (fun i => la_ap q T (Ma (pt i)) n) (fb_ct pva n) w ↔ la_mG q n T pva Ma n w := by
          intro w
          constructor
          · rintro ⟨i, hi, rfl⟩
            exact ⟨pt i, (hpt i hi).1, (hpt i hi).2.1, rfl⟩
          · rintro ⟨p, h1, h2, rfl⟩
            have hl := la_ct_lt h2 h1
            refine ⟨fb_ct pva p, hl, ?_⟩
            dsimp only
            rw [fb_ct_kth_one (hpt _ hl).2.1 h2 (hpt _ hl).2.2]
        obtain ⟨e1, e2⟩ := la_uniqG hC.1.two hS1.1 hR2 hsp (fun v => (hS2 v).trans (la_Sp.congr hG v))
        subst e1
        exact mSave h6 ht hR2.1 h72 (fun p hpp => by rw [Nat.zero_add]; exact hr2 p hpp) (fun τ3 hK hT => ⟨rfl, q, n, h, g, r, I.step (k1.any.trans k3) ((hO.trans hO2).kp.trans hK) ht ⟨pv', M', hS3, hT.cong e2⟩⟩)
    · exact cSlN hx (rb0 (mAreN3 ha ha hx (rb0 ⟨rfl, hI⟩)))
  · exact cSlN hx (br0 (mAreN1 hx (rb0 ⟨rfl, hI⟩)))
