def Sti (q n : Nat) (T : Nat → la_W) (pv0 : Nat → Bool) (M0 : Nat → la_W) (i : Nat) (x : la_W) : Prop := ∃ y, la_S q pv0 M0 y ∧ x = la_it q n T i y
def Ret (q n : Nat) (T : Nat → la_W) (pv0 : Nat → Bool) (M0 : Nat → la_W) (i : Nat) : Prop := ∀ x, la_S q pv0 M0 x ↔ Sti q n T pv0 M0 i x
theorem la_S_V {q n : Nat} (hq : 0 < q) {pv : Nat → Bool} {M : Nat → la_W} (hR : la_R q n pv M) {x : la_W} (hx : la_S q pv M x) : la_V q n x := hx.V hq (fun y hy => by obtain ⟨p, hp, rfl⟩ := hy; exact (hR.2 p hp).1)
theorem Ret_small {q n : Nat} (hq : la_q q n) {T : Nat → la_W} (hT : ∀ p, p < n → la_V q n (T p)) {pv0 : Nat → Bool} {M0 : Nat → la_W} (hR0 : la_R q n pv0 M0) {t : Nat} (ht : 1 ≤ t) (hr : Ret q n T pv0 M0 t) : ∃ m, 1 ≤ m ∧ m ≤ q ^ n ∧ Ret q n T pv0 M0 m := by
  obtain ⟨i, m, hm1, hm2, he⟩ := la_again hq hT
  have hs : ∀ s x, la_S q pv0 M0 x → ∃ y, la_S q pv0 M0 y ∧ x = la_it q n T (s * t) y := by
    intro s
    induction s with
    | zero => intro x hx; exact ⟨x, hx, by rw [Nat.zero_mul]; rfl⟩
    | succ s ih =>
      intro x hx
      obtain ⟨y, hy, e⟩ := ih x hx
      obtain ⟨z, hz, e'⟩ := (hr y).mp hy
      refine ⟨z, hz, ?_⟩
      rw [e, e', Nat.add_mul, Nat.one_mul, la_it_add]
  have hle : i ≤ i * t := Nat.le_mul_of_pos_right i ht
  have hfix : ∀ x, la_S q pv0 M0 x → la_it q n T m x = x := by
    intro x hx
    obtain ⟨y, hy, e⟩ := hs i x hx
    have hyV := la_S_V hq.pos hR0 hy
    obtain ⟨l, hl⟩ : ∃ l, i * t = l + i := ⟨i * t - i, by omega⟩
    have e1 : la_it q n T m x = la_it q n T (l + (i + m)) y := by
      rw [e, ← la_it_add, hl]
      congr 1
      omega
    rw [e1, la_it_add, he y hyV, ← la_it_add, ← hl, ← e]
  refine ⟨m, hm1, hm2, fun x => ⟨fun hx => ⟨x, hx, (hfix x hx).symm⟩, ?_⟩⟩
  rintro ⟨y, hy, rfl⟩
  rw [hfix y hy]; exact hy
theorem la_img {q n : Nat} {T : Nat → la_W} {G : la_W → Prop} (j : Nat) (x : la_W) : la_Sp q (fun w => ∃ y, G y ∧ w = la_it q n T j y) x ↔ ∃ y, la_Sp q G y ∧ x = la_it q n T j y := by
  constructor
  · intro h
    refine h (fun x => ∃ y, la_Sp q G y ∧ x = la_it q n T j y) ⟨⟨la_z, la_Sp.zero, (la_it_z j).symm⟩, fun a b k ha hb => ?_⟩ (fun w hw => ?_)
    · obtain ⟨y1, h1, rfl⟩ := ha
      obtain ⟨y2, h2, rfl⟩ := hb
      exact ⟨la_ad q y1 y2 k, h1.ad h2 k, (la_it_ad y1 y2 k j).symm⟩
    · obtain ⟨y, hy, rfl⟩ := hw
      exact ⟨y, la_Sp.gen hy, rfl⟩
  · rintro ⟨y, hy, rfl⟩
    refine hy (fun y => la_Sp q (fun w => ∃ y, G y ∧ w = la_it q n T j y) (la_it q n T j y)) ⟨by dsimp only; rw [la_it_z]; exact la_Sp.zero, fun a b k ha hb => by dsimp only; rw [la_it_ad]; exact la_Sp.ad ha hb k⟩ (fun w hw => la_Sp.gen ⟨w, hw, rfl⟩)
theorem Sti_step {q n : Nat} {T : Nat → la_W} {pv0 pv pv' : Nat → Bool} {M0 M M' : Nat → la_W} {i : Nat} (hR : la_R q n pv M) (h : ∀ x, la_S q pv M x ↔ Sti q n T pv0 M0 i x) (h' : ∀ x, la_S q pv' M' x ↔ la_Sp q (la_mG q n T pv M n) x) (x : la_W) : la_S q pv' M' x ↔ Sti q n T pv0 M0 (i + 1) x := by
  refine (h' x).trans ((la_Sp.congr (K := fun w => ∃ y, la_G pv M y ∧ w = la_it q n T 1 y) (fun w => ⟨?_, ?_⟩) x).trans ((la_img 1 x).trans ⟨?_, ?_⟩))
  · rintro ⟨p, h1, h2, rfl⟩; exact ⟨M p, ⟨p, h2, rfl⟩, rfl⟩
  · rintro ⟨y, ⟨p, h2, rfl⟩, rfl⟩; exact ⟨p, hR.1 p h2, h2, rfl⟩
  · rintro ⟨y, hy, rfl⟩
    obtain ⟨z, hz, rfl⟩ := (h y).mp hy
    exact ⟨z, hz, rfl⟩
  · rintro ⟨z, hz, rfl⟩
    exact ⟨la_it q n T i z, (h _).mpr ⟨z, hz, rfl⟩, rfl⟩
theorem la_rank {q n : Nat} (hq : la_q q n) {g : Nat → la_W} : ∀ m, (∀ i, i < m → la_V q n (g i)) → ∃ (pv : Nat → Bool) (M : Nat → la_W), la_R q n pv M ∧ (∀ x, la_S q pv M x ↔ la_Sp q (la_hG g m) x) ∧ fb_ct pv n ≤ m := by
  intro m
  induction m with
  | zero =>
    intro _
    refine ⟨la_no, fun _ => la_z, la_R_no q n _, la_S_no (fun w hw => by obtain ⟨i, hi, _⟩ := hw; exact absurd hi (Nat.not_lt_zero _)), ?_⟩
    have : ∀ m, fb_ct la_no m = 0 := by
      intro m
      induction m with
      | zero => rfl
      | succ m ih => rw [fb_ct_succ, ih]; rfl
    rw [this n]; exact Nat.le_refl _
  | succ m ih =>
    intro hg
    obtain ⟨pv, M, hR, hS, hc⟩ := ih (fun i hi => hg i (by omega))
    have ex : ∀ y, la_hG g (m + 1) y ↔ la_up (la_hG g m) (g m) y := fun y => by
      constructor
      · rintro ⟨i, hi, rfl⟩
        rcases Nat.lt_or_ge i m with h | h
        · exact Or.inl ⟨i, h, rfl⟩
        · exact Or.inr (by rw [show i = m by omega])
      · rintro (⟨i, hi, rfl⟩ | rfl)
        · exact ⟨i, by omega, rfl⟩
        · exact ⟨m, by omega, rfl⟩
    by_cases hin : la_S q pv M (g m)
    · refine ⟨pv, M, hR, fun x => ?_, by omega⟩
      refine (hS x).trans (la_Sp.iff (fun y hy => la_Sp.gen ((ex y).mpr (Or.inl hy))) (fun y hy => ?_) x)
      rcases (ex y).mp hy with h | rfl
      · exact la_Sp.gen h
      · exact (hS _).mp hin
    · obtain ⟨pv', M', h1, h2, h3⟩ := la_ext hq hR (hg m (by omega)) hin
      exact ⟨pv', M', h1, fun x => (h2 x).trans ((la_up_cong hS (g m) x).trans (la_Sp.congr (fun y => (ex y).symm) x)), by omega⟩
theorem Sti_drop {q n : Nat} (hq : la_q q n) {T : Nat → la_W} (hT : ∀ p, p < n → la_V q n (T p)) {pv0 pv : Nat → Bool} {M0 M : Nat → la_W} (hR0 : la_R q n pv0 M0) (hR : la_R q n pv M) {i : Nat} (h : ∀ x, la_S q pv M x ↔ Sti q n T pv0 M0 i x) (hc : fb_ct pv n < fb_ct pv0 n) {t : Nat} (ht : i ≤ t) : ¬ Ret q n T pv0 M0 t := by
  intro hr
  obtain ⟨l, rfl⟩ : ∃ l, t = l + i := ⟨t - i, by omega⟩
  obtain ⟨pt, hpt⟩ := la_pt (n := n) pv
  obtain ⟨pv', M', h1, h2, h3⟩ := la_rank hq (g := fun j => la_it q n T l (M (pt j))) (fb_ct pv n) (fun j hj => la_it_V hq.pos hT (hR.2 _ (hpt j hj).2.1).1 l)
  have e : ∀ x, la_S q pv' M' x ↔ la_S q pv0 M0 x := fun x => by
    refine (h2 x).trans ((la_Sp.congr (K := fun w => ∃ y, la_G pv M y ∧ w = la_it q n T l y) (fun w => ⟨?_, ?_⟩) x).trans ((la_img l x).trans ⟨?_, ?_⟩))
    · rintro ⟨j, hj, rfl⟩; exact ⟨_, ⟨_, (hpt j hj).2.1, rfl⟩, rfl⟩
    · rintro ⟨y, ⟨p, h2, rfl⟩, rfl⟩
      have hl := la_ct_lt h2 (hR.1 p h2)
      refine ⟨fb_ct pv p, hl, ?_⟩
      dsimp only
      rw [fb_ct_kth_one (hpt _ hl).2.1 h2 (hpt _ hl).2.2]
    · rintro ⟨y, hy, rfl⟩
      obtain ⟨z, hz, rfl⟩ := (h y).mp hy
      exact (hr _).mpr ⟨z, hz, (la_it_add i z l).symm⟩
    · intro hx
      obtain ⟨z, hz, rfl⟩ := (hr x).mp hx
      exact ⟨la_it q n T i z, (h _).mpr ⟨z, hz, rfl⟩, la_it_add i z l⟩
  obtain ⟨epv, _⟩ := la_uniq hq.two h1 hR0 e
  rw [epv] at h3
  omega
theorem cRound {σ : ss_S} {q n : Nat} (hF : FrC σ q n) {T : Nat → la_W} (hT : LnC σ q n T) {k : Nat} (hk : k < 12) {pv0 : Nat → Bool} {M0 : Nat → la_W} (hS0 : SpC σ (9 + 3 * k) q n pv0 M0) {post : Int32 → ss_S → Prop}
    (hY : ∀ i σ', 1 ≤ i → i ≤ 3000 → Ret q n T pv0 M0 i → (∀ j, 1 ≤ j → j < i → ¬ Ret q n T pv0 M0 j) → KpC 0 σ σ' → post (nI i) σ')
    (hN : ∀ σ', (∀ j, 1 ≤ j → j ≤ 3000 → ¬ Ret q n T pv0 M0 j) → KpC 0 σ σ' → post (-1) σ') : wX4_timesTillAgain (9 + 3 * k) σ post := by
  have hq := hF.1
  have h6 := hq.n6
  have hpw := la_pow_le hq
  have hTV : ∀ p, p < n → la_V q n (T p) := fun p hp => (hT p hp).1
  have ex2 : (if σ 1 2 < 3000 then σ 1 2 else 3000) = nI (if q ^ n < 3000 then q ^ n else 3000) := by
    rw [hF.2.2.2]
    have h : q ^ n < 3000 := by omega
    have e : (3000 : Int32) = nI 3000 := rfl
    rw [e, if_pos h, if_pos (nI_lt h (by omega))]
  unfold wX4_timesTillAgain
  rw [ex2]
  obtain ⟨B, hB⟩ : ∃ B, (if q ^ n < 3000 then q ^ n else 3000) = B := ⟨_, rfl⟩
  rw [hB]
  have hB3 : B ≤ 3000 ∧ (B = 3000 ∨ B = q ^ n) := by
    rw [← hB]
    by_cases h : q ^ n < 3000
    · rw [if_pos h]; omega
    · rw [if_neg h]; omega
  refine pX3_copyFrom h6 isSp_171 (isSp_sl hk) (by omega) hS0 (fun σ1 hO1 hS1 => ?_)
  have key : ∀ d i, i + d = B + 1 → 1 ≤ i → ∀ (σ' : ss_S) (pv : Nat → Bool) (M : Nat → la_W), KpC 0 σ σ' → SpC σ' 171 q n pv M → (∀ x, la_S q pv M x ↔ Sti q n T pv0 M0 (i - 1) x) → (∀ j, 1 ≤ j → j < i → ¬ Ret q n T pv0 M0 j) → lX4_timesTillAgain_24 (9 + 3 * k) (nI B) post (fun x3_10 σ_10 => post ((-1)) σ_10) (d + 1) (nI i) σ' := by
    intro d
    induction d with
    | zero =>
      intro i hi h1 σ' pv M hK hS hSt hno
      refine And.intro (fun _ => hN σ' (fun j hj1 hj2 hr => ?_) hK) (fun hc => absurd (nI_lt (by omega) (by omega)) hc)
      rcases hB3.2 with e | e
      · exact hno j hj1 (by omega) hr
      · obtain ⟨m, m1, m2, m3⟩ := Ret_small hq hTV hS0.1 hj1 hr
        exact hno m m1 (by omega) m3
    | succ d ih =>
      intro i hi h1 σ' pv M hK hS hSt hno
      refine And.intro (fun hc => absurd hc (nI_nlt (by omega) (by omega))) (fun _ => ?_)
      refine pX2_applyToSpace (hK.Fr hF) (hT.eq hK.2.2.2.1) isSp_168 isSp_171 (by omega) hS (fun σ2 pv' M' hO2 hS2 hsp => ?_)
      have k2 := hK.trans (hO2.kp0 isSp_168 (by omega))
      have hS0' := k2.Sp (isSp_sl hk) (by omega) (by omega) hS0
      have hSt2 := Sti_step hS.1 hSt hsp
      rw [show i - 1 + 1 = i by omega] at hSt2
      have hc1 := fb_ct_le pv' n
      have hc0 := fb_ct_le pv0 n
      refine pX3_rank h6 hS2.2.1 (pX3_rank h6 hS0'.2.1 ?_)
      refine And.intro (fun hc => ?_) (fun hc => ?_)
      · refine pX3_sameAs (k2.Fr hF) isSp_168 (isSp_sl hk) hS2 hS0' (fun e1 e2 => br1 ?_) (fun hne => br0 ?_)
        · refine hY i σ2 h1 (by omega) (fun x => ?_) hno k2
          subst e1
          exact (la_Sp.congr (fun w => la_G_cong (fun p hp => (e2 p hp).symm) w) x).trans (hSt2 x)
        · refine pX3_copyFrom h6 isSp_171 isSp_168 (by omega) hS2 (fun σ3 hO3 hS3 => ?_)
          rw [nI_1]
          refine ih (i + 1) (by omega) (by omega) σ3 pv' M' (k2.trans (hO3.kp0 isSp_171 (by omega))) hS3 (by rw [Nat.add_sub_cancel]; exact hSt2) (fun j hj1 hj2 hr => ?_)
          rcases Nat.lt_or_ge j i with y | y
          · exact hno j hj1 y hr
          · have ej : j = i := by omega
            subst ej
            exact hne (la_uniq hq.two hS2.1 hS0.1 (fun x => (hSt2 x).trans (hr x).symm))
      · have hlt : fb_ct pv' n < fb_ct pv0 n := by
          rcases Nat.lt_or_ge (fb_ct pv' n) (fb_ct pv0 n) with y | y
          · exact y
          · exact absurd (nI_le y (by omega)) hc
        refine hN σ2 (fun j hj1 _ hr => ?_) k2
        rcases Nat.lt_or_ge j i with y | y
        · exact hno j hj1 y hr
        · exact Sti_drop hq hTV hS0.1 hS2.1 hSt2 hlt y hr
  exact ⟨_, key B 1 (by omega) (Nat.le_refl _) σ1 pv0 M0 (hO1.kp0 isSp_171 (by omega)) hS1 (fun x => ⟨fun h => ⟨x, h, rfl⟩, fun ⟨y, hy, e⟩ => by rw [e]; exact hy⟩) (fun j _ _ => by omega)⟩
theorem mStep {τ : ss_S} {q n : Nat} (hF : FrM τ q n) {T : Nat → la_W} (hT : LnM τ q n T) {pv : Nat → Bool} {M : Nat → la_W} (hR : la_R q n pv M) (h7 : τ 0 7 = nI (fb_ct pv n)) (hW : Wk τ q n 0 pv M) {post : ss_S → Prop}
    (hp : ∀ (τ' : ss_S) (pv' : Nat → Bool) (M' : Nat → la_W), OthM τ τ' → la_R q n pv' M' → (∀ x, la_S q pv' M' x ↔ la_Sp q (la_mG q n T pv M n) x) → τ' 0 7 = nI (fb_ct pv' n) → Wk τ' q n 0 pv' M' → post τ') : wX5_step τ post := by
  have h6 := hF.1.n6
  have hct := fb_ct_le pv n
  obtain ⟨pt, hpt⟩ := la_pt (n := n) pv
  refine pX5_step hF hT (m := fb_ct pv n) (by omega) h7 (g := fun i => M (pt i)) (fun i hi => (hR.2 _ (hpt i hi).2.1).1) (fun i hi => ?_) (fun τ2 pv2 M2 hO2 hR2 hS2 _ h72 hr2 => ?_)
  · have := hW _ (hpt i hi).2.1
    rwa [(hpt i hi).2.2, Nat.zero_add] at this
  · have hG : ∀ w, la_hG (fun i => la_ap q T (M (pt i)) n) (fb_ct pv n) w ↔ la_mG q n T pv M n w := by
      intro w
      constructor
      · rintro ⟨i, hi, rfl⟩
        exact ⟨pt i, (hpt i hi).1, (hpt i hi).2.1, rfl⟩
      · rintro ⟨p, h1, h2, rfl⟩
        have hl := la_ct_lt h2 h1
        refine ⟨fb_ct pv p, hl, ?_⟩
        dsimp only
        rw [fb_ct_kth_one (hpt _ hl).2.1 h2 (hpt _ hl).2.2]
    exact hp τ2 pv2 M2 hO2 hR2 (fun x => (hS2 x).trans (la_Sp.congr hG x)) h72 (fun p hpp => by rw [Nat.zero_add]; exact hr2 p hpp)
theorem mCmp {τ : ss_S} {q n k : Nat} (hq : la_q q n) (hk : k < 12) {pv pv0 : Nat → Bool} {M M0 : Nat → la_W} (hR : la_R q n pv M) (hR0 : la_R q n pv0 M0) (h7 : τ 0 7 = nI (fb_ct pv n)) (hW : Wk τ q n 0 pv M) (hS : SlM τ q n k pv0 M0) {x2 : Int32} {post : Int32 → ss_S → Prop} (C : Int32 → Int32 → ss_S → Prop) (h1 : (∀ x, la_S q pv0 M0 x ↔ la_S q pv M x) → ∀ y, C 1 y τ) (h0 : ¬ (∀ x, la_S q pv0 M0 x ↔ la_S q pv M x) → ∀ y, C 0 y τ) :
    (¬ nI (fb_ct pv n) = nI (fb_ct pv0 n) → ∃ f, lX5_round_77 (nI k) x2 post C f 0 0 τ) ∧ (nI (fb_ct pv n) = nI (fb_ct pv0 n) → ∃ f, lX5_round_77 (nI k) x2 post C f 1 0 τ) := by
  have h6 := hq.n6
  have hpw := la_pow_le hq
  have hct := fb_ct_le pv n
  have hct0 := fb_ct_le pv0 n
  refine ⟨fun hne => ⟨1, ?_⟩, fun heq => ?_⟩
  · have hno : ¬ (∀ x, la_S q pv0 M0 x ↔ la_S q pv M x) := fun h => by
      obtain ⟨e, _⟩ := la_uniq hq.two hR0 hR h
      rw [e] at hne
      exact hne rfl
    exact And.intro (fun _ => h0 hno _) (fun _ => br0 (h0 hno _))
  · have hee : fb_ct pv n = fb_ct pv0 n := (nI_eq (by omega) (by omega)).mp heq
    have key : ∀ d i, i + d = fb_ct pv n → ∀ t : Int32, (t = 1 ∧ ∀ j, j < i → τ 2 j = τ 5 (6 * k + j)) ∨ (t = 0 ∧ ¬ (∀ x, la_S q pv0 M0 x ↔ la_S q pv M x)) → lX5_round_77 (nI k) x2 post C (d + 1) t (nI i) τ := by
      intro d
      induction d with
      | zero =>
        intro i hi t ht
        refine And.intro (fun _ => ?_) (fun hc => absurd (by rw [h7]; exact nI_le (by omega) (by omega)) hc)
        rcases ht with ⟨rfl, hall⟩ | ⟨rfl, hno⟩
        · have row : ∀ p p0, pv p = true → pv0 p0 = true → fb_ct pv p = fb_ct pv0 p0 → M p = M0 p0 := by
            intro p p0 hp hp0 e
            have a := hW p hp
            have b := hS.2 p0 hp0
            have hl := la_ct_lt hp (hR.1 p hp)
            have c := hall (fb_ct pv p) (by omega)
            rw [Nat.zero_add] at a
            rw [a, e, b] at c
            have v1 := vl (hR.2 p hp).1
            have v2 := vl (hR0.2 p0 hp0).1
            exact la_val_inj (hR.2 p hp).1 (hR0.2 p0 hp0).1 ((nI_eq (by omega) (by omega)).mp c)
          refine h1 (fun x => la_Sp.congr (fun w => ⟨?_, ?_⟩) x) _
          · rintro ⟨p0, hp0, rfl⟩
            have hl := la_ct_lt hp0 (hR0.1 p0 hp0)
            obtain ⟨p, _, hp, hpe⟩ := fb_ct_kth (show fb_ct pv0 p0 < fb_ct pv n by omega)
            exact ⟨p, hp, (row p p0 hp hp0 hpe).symm⟩
          · rintro ⟨p, hp, rfl⟩
            have hl := la_ct_lt hp (hR.1 p hp)
            obtain ⟨p0, _, hp0, hpe⟩ := fb_ct_kth (show fb_ct pv p < fb_ct pv0 n by omega)
            exact ⟨p0, hp0, row p p0 hp hp0 hpe.symm⟩
        · exact h0 hno _
      | succ d ih =>
        intro i hi t ht
        refine And.intro (fun hc => absurd hc (by rw [h7]; exact nI_ge (by omega) (by omega))) (fun _ => ?_)
        rcases ht with ⟨rfl, hall⟩ | ⟨rfl, hno⟩
        · rw [nI_6m, nI_add, nI_1]
          refine br1 (And.intro (vp_in_nI (by omega) (by omega)) (And.intro (vp_in_nI (by omega) (by omega)) ?_))
          rw [nI_clamp (by omega), nI_clamp (by omega)]
          refine And.intro (fun hc => ih (i + 1) (by omega) 0 (Or.inr ⟨rfl, fun h => hc ?_⟩)) (fun hc => ih (i + 1) (by omega) 1 (Or.inl ⟨rfl, fun j hj => ?_⟩))
          · obtain ⟨e, e2⟩ := la_uniq hq.two hR0 hR h
            subst e
            obtain ⟨p, _, hp, hpe⟩ := fb_ct_kth (show i < fb_ct pv0 n by omega)
            have a := hW p hp
            have b := hS.2 p hp
            rw [Nat.zero_add, hpe] at a
            rw [hpe] at b
            rw [a, b, e2 p hp]
          · rcases Nat.lt_or_ge j i with y | y
            · exact hall j y
            · rw [show j = i by omega]; exact hc
        · exact br0 (h0 hno _)
    exact ⟨_, key (fb_ct pv n) 0 (by omega) 1 (Or.inl ⟨rfl, fun j hj => absurd hj (Nat.not_lt_zero _)⟩)⟩
theorem mRound {τ τ1 : ss_S} {q n : Nat} (hF : FrM τ q n) {T : Nat → la_W} (hT : LnM τ q n T) {k : Nat} (hk : k < 12) {pv0 : Nat → Bool} {M0 : Nat → la_W} (hR0 : la_R q n pv0 M0) (hS0 : SlM τ q n k pv0 M0) (hO : OthM τ τ1) (h71 : τ1 0 7 = nI (fb_ct pv0 n)) (hW1 : Wk τ1 q n 0 pv0 M0) {post : Int32 → ss_S → Prop}
    (hY : ∀ i τ', 1 ≤ i → i ≤ 3000 → Ret q n T pv0 M0 i → (∀ j, 1 ≤ j → j < i → ¬ Ret q n T pv0 M0 j) → OthM τ τ' → post (nI i) τ')
    (K : Int32 → ss_S → Prop) (hN : ∀ τ', (∀ j, 1 ≤ j → j ≤ 3000 → ¬ Ret q n T pv0 M0 j) → OthM τ τ' → ∀ y, K y τ') : ∃ f, lX5_round_44 (nI k) post K f 1 τ1 := by
  have hq := hF.1
  have h6 := hq.n6
  have key : ∀ d i, i + d = 3001 → 1 ≤ i → ∀ (τ' : ss_S) (pv : Nat → Bool) (M : Nat → la_W), OthM τ τ' → la_R q n pv M → τ' 0 7 = nI (fb_ct pv n) → Wk τ' q n 0 pv M → (∀ x, la_S q pv M x ↔ Sti q n T pv0 M0 (i - 1) x) → (∀ j, 1 ≤ j → j < i → ¬ Ret q n T pv0 M0 j) → lX5_round_44 (nI k) post K (d + 1) (nI i) τ' := by
    intro d
    induction d with
    | zero =>
      intro i hi h1 τ' pv M hO hR h7 hW hSt hno
      exact And.intro (fun _ => hN τ' (fun j hj1 hj2 => hno j hj1 (by omega)) hO _) (fun hc => absurd (nI_lt (a := 3000) (by omega) (by omega)) hc)
    | succ d ih =>
      intro i hi h1 τ' pv M hO hR h7 hW hSt hno
      refine And.intro (fun hc => absurd hc (nI_nlt (a := 3000) (b := i) (by omega) (by omega))) (fun _ => ?_)
      refine mStep (hO.toT.Fr hF) (fun p hp => ⟨(hT p hp).1, by rw [hO.1 1 (by omega) (by omega)]; exact (hT p hp).2⟩) hR h7 hW (fun τ2 pv' M' hO2 hR2 hsp h72 hW2 => ?_)
      have hO2' := hO.trans hO2
      have hS2 := hS0.oth hO2'.toT
      have hSt2 := Sti_step hR hSt hsp
      rw [show i - 1 + 1 = i by omega] at hSt2
      refine And.intro (vin hk) ?_
      rw [ncl hk, h72, hS2.1, nI_1]
      refine mCmp hq hk hR2 hR0 h72 hW2 hS2 _ (fun he y => br1 ?_) (fun hne y => br0 ?_)
      · exact hY i τ2 h1 (by omega) (fun x => (he x).trans (hSt2 x)) hno hO2'
      · refine ih (i + 1) (by omega) (by omega) τ2 pv' M' hO2' hR2 h72 hW2 (by rw [Nat.add_sub_cancel]; exact hSt2) (fun j hj1 hj2 hr => ?_)
        rcases Nat.lt_or_ge j i with y | y
        · exact hno j hj1 y hr
        · have ej : j = i := by omega
          subst ej
          exact hne (fun x => (hr x).trans (hSt2 x).symm)
  exact ⟨_, key 3000 1 (by omega) (Nat.le_refl _) τ1 pv0 M0 hO hR0 h71 hW1 (fun x => ⟨fun h => ⟨x, h, rfl⟩, fun ⟨y, hy, e⟩ => by rw [e]; exact hy⟩) (fun j _ _ => by omega)⟩
theorem sim_round {σ τ : ss_S} (hI : Inv σ τ) (x1 : Int32) : wX4_round x1 σ (fun r σ1 => wX5_round x1 τ (fun r' τ1 => r = r' ∧ Inv σ1 τ1)) := by
  obtain ⟨q, n, h, g, r, I⟩ := id hI
  have hC := I.1
  have hM := I.2.1
  have h6 := hC.1.n6
  obtain ⟨hr, hr1, hr2⟩ := I.2.2.2.2.1
  rcases sl_cases x1 with ⟨k, hk, rfl⟩ | hx
  · refine cSlY hk (rb1 ?_)
    rw [hr1]
    rcases Nat.lt_or_ge r 60 with hlt | hge
    · refine And.intro (fun _ => And.intro (vin hk) ?_) (fun hc => absurd (nI_lt (b := 60) hlt (by omega)) hc)
      rw [ncl hk, nI_1]
      have I1 : InvQ (u2 σ 0 8 (nI (r + 1))) (u2 τ 0 5 (nI (r + 1))) q n h g (r + 1) := by
        obtain ⟨a, b, c, d, e, f, i, T, T1, T2⟩ := I
        refine ⟨?_, b.u2 (by omega) _, ⟨c.1, by rw [u2_ne _ _ _ (by omega)]; exact c.2.1, by rw [u2_at, pk_un (by omega)]; exact c.2.2⟩, ⟨d.1, by rw [u2_at, pk_un (by omega)]; exact d.2.1, by rw [u2_at, pk_un (by omega)]; exact d.2.2⟩, ⟨by omega, by rw [u2_at, pk_us], by rw [u2_at, pk_us]⟩, fun k hk => ?_, fun k hk => ?_, T, T1.eq (by rw [u2_ne _ _ _ (by omega)]), fun p hp => ⟨(T2 p hp).1, by rw [u2_ne _ _ _ (by omega)]; exact (T2 p hp).2⟩⟩
        · obtain ⟨a1, a2, a3, a4⟩ := a
          exact ⟨a1, by rw [u2_ne _ _ _ (by omega)]; exact a2, by rw [u2_ne _ _ _ (by omega)]; exact a3, by rw [u2_ne _ _ _ (by omega)]; exact a4⟩
        · obtain ⟨pv, M, s1, s2⟩ := f k hk
          exact ⟨pv, M, s1.eq (by rw [u2_ne _ _ _ (by omega)]) (fun j => by rw [u2_ne _ _ _ (by omega)]), ⟨by rw [u2_ne _ _ _ (by omega)]; exact s2.1, fun p hp => by rw [u2_ne _ _ _ (by omega)]; exact s2.2 p hp⟩⟩
        · obtain ⟨pv, M, s1, s2⟩ := i k hk
          exact ⟨pv, M, s1.eq (by rw [u2_ne _ _ _ (by omega)]) (fun j => by rw [u2_ne _ _ _ (by omega)]), ⟨by rw [u2_ne _ _ _ (by omega)]; exact s2.1, fun p hp => by rw [u2_ne _ _ _ (by omega)]; exact s2.2 p hp⟩⟩
      obtain ⟨pv, M, hS, hT⟩ := I1.2.2.2.2.2.1 k hk
      obtain ⟨T, T1, T2⟩ := I1.2.2.2.2.2.2.2
      have hm : ∀ (P : Int32 → ss_S → Prop), (∀ τ1, OthM (u2 τ 0 5 (nI (r + 1))) τ1 → τ1 0 7 = nI (fb_ct pv n) → Wk τ1 q n 0 pv M → ∃ f_44, lX5_round_44 (nI k) P (fun x2_7 σ_7 => P ((-1)) σ_7) f_44 1 τ1) → wX5_round (nI k) τ P := fun P hP => by
        refine mSlY hk (rb1 ?_)
        rw [hr2, nI_1]
        exact And.intro (fun _ => mLoad0 h6 hk hS.1.1 hT hP) (fun hc => absurd ((nI_eq (b := 60) (by omega) (by omega)).mp hc) (by omega))
      refine cRound I1.1 T1 hk hS (fun i σ' i1 i2 i3 i4 kC => ?_) (fun σ' hno kC => ?_)
      · refine hm _ (fun τ1 hO h7 hW => mRound I1.2.1 T2 hk hS.1 hT hO h7 hW (fun i' τ' j1 j2 j3 j4 hO' => ?_) _ (fun τ' hno _ _ => absurd i3 (hno i i1 i2)))
        have ei : i = i' := by
          rcases Nat.lt_trichotomy i i' with y | y | y
          · exact absurd i3 (j4 i i1 y)
          · exact y
          · exact absurd j3 (i4 i' j1 y)
        subst ei
        exact ⟨rfl, q, n, h, g, r + 1, I1.keep kC hO'.kp⟩
      · exact hm _ (fun τ1 hO h7 hW => mRound I1.2.1 T2 hk hS.1 hT hO h7 hW (fun i' τ' j1 j2 j3 j4 hO' => absurd j3 (hno i' j1 j2)) _ (fun τ' _ hO' _ => ⟨rfl, q, n, h, g, r + 1, I1.keep kC hO'.kp⟩))
    · have er : r = 60 := by omega
      subst er
      refine And.intro (fun hc => absurd hc (nI_nlt (a := 60) (b := 60) (Nat.le_refl _) (by omega))) (fun _ => ?_)
      refine mSlY hk (rb1 ?_)
      rw [hr2]
      exact And.intro (fun hc => absurd rfl hc) (fun _ => ⟨rfl, hI⟩)
  · exact cSlN hx (rb0 (mSlN hx (rb0 ⟨rfl, hI⟩)))
