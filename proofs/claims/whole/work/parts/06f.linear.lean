def LnC (σ : ss_S) (q n : Nat) (T : Nat → la_W) : Prop := ∀ p, p < n → la_V q n (T p) ∧ ∀ c, c < n → σ 7 (p * 6 + c) = nI (T p c)
theorem LnC.eq {σ σ' : ss_S} {q n : Nat} {T : Nat → la_W} (h : LnC σ q n T) (e : σ' 7 = σ 7) : LnC σ' q n T := fun p hp => ⟨(h p hp).1, fun c hc => by rw [e]; exact (h p hp).2 c hc⟩
def la_ap (q : Nat) (T : Nat → la_W) (v : la_W) : Nat → la_W
  | 0 => la_z
  | k + 1 => la_ad q (la_ap q T v k) (T k) (v k)
theorem la_ap_V {q n : Nat} (hq : 0 < q) {T : Nat → la_W} (hT : ∀ p, p < n → la_V q n (T p)) (v : la_W) : ∀ k, k ≤ n → la_V q n (la_ap q T v k) := by
  intro k
  induction k with
  | zero => intro _; exact la_V.z hq
  | succ k ih => intro hk; exact (ih (by omega)).ad hq (hT k (by omega)) _
theorem len7 : lenC 7 = 36 := rfl
theorem len8 : lenC 8 = 6 := rfl
theorem len6 : lenC 6 = 6 := rfl
theorem pX2_applyInto {σ : ss_S} {q n : Nat} (hF : FrC σ q n) {T : Nat → la_W} (hT : LnC σ q n T) {a o : Nat} (ha : a ≠ 8) (hlen : o + n ≤ lenC a) {v : la_W} (hv : la_V q n v) (hvσ : ∀ c, c < n → σ a (o + c) = nI (v c)) {post : ss_S → Prop}
    (hp : ∀ h : Nat → Int32, (∀ c, c < n → h c = nI (la_ap q T v n c)) → post (sA σ 8 h)) : wX2_applyInto a (nI o) σ post := by
  have hq := hF.1
  have h6 := hq.n6
  have h5 := hq.five
  have hq0 := hq.pos
  have hl : lenC a ≤ 36 := by unfold lenC; split <;> omega
  have key : ∀ d i, i + d = n → ∀ h : Nat → Int32, (∀ c, c < n → h c = nI (la_ap q T v i c)) → lX2_applyInto_10 a (nI o) post (fun _ σ => post σ) (d + 1) (nI i) (sA σ 8 h) := by
    intro d
    induction d with
    | zero =>
      intro i hi h hh
      refine And.intro (fun _ => ?_) (fun hc => absurd (by rw [sA_ne _ _ (by omega), hF.2.2.1]; exact nI_le (by omega) (by omega)) hc)
      rw [show i = n by omega] at hh
      exact hp h hh
    | succ d ih =>
      intro i hi h hh
      have hVi := (hT i (by omega)).1
      have hVa := la_ap_V hq0 (fun p hp => (hT p hp).1) v i (by omega)
      have hvi := hv.1 i
      refine And.intro (fun hc => absurd hc (by rw [sA_ne _ _ (by omega), hF.2.2.1]; exact nI_ge (by omega) (by omega))) (fun _ => ?_)
      rw [nI_add]
      refine And.intro (vp_in_nI (by omega) (by omega)) ?_
      rw [nI_clamp (by omega), sA_ne σ h ha, hvσ i (by omega), nI_1, nI_m6]
      refine And.intro (fun hc => ?_) (fun hc => And.intro (vp_in_nI (by omega) (by omega)) ?_)
      · have h0 : v i = 0 := by
          rcases Nat.eq_zero_or_pos (v i) with x | x
          · exact x
          · exact absurd hc (nI_ne0 x (by omega))
        refine ih (i + 1) (by omega) h (fun c hc => ?_)
        rw [hh c hc]
        show _ = nI (la_ad q (la_ap q T v i) (T i) (v i) c)
        rw [h0, la_ad_0 hVa.1]
      · have hF1 : FrC (sA σ 8 h) q n := hF.sA (by omega) h
        refine pX0_addMultiple (o := 0) (v := la_ap q T v i) (w := T i) hF1 (by omega) (by rw [len8]; omega) (by rw [len7]; omega) (fun c hc => by rw [sA_same, Nat.zero_add]; exact hh c hc) (fun c hc => by rw [sA_ne _ _ (by omega)]; exact (hT i (by omega)).2 c hc) hVa.1 hVi.1 (by omega) (Or.inl (by omega)) ?_
        rw [sA_sA, sA_same]
        refine ih (i + 1) (by omega) _ (fun c hc => ?_)
        rw [fb_put_in (by omega) (by omega), Nat.sub_zero]; rfl
  refine pJ7_fill ?_
  refine ⟨n + 1, key n 0 (by omega) _ (fun c hc => ?_)⟩
  rw [len8, fb_put_in (by omega) (by omega)]; rfl
theorem pX2_apply {σ : ss_S} {q n : Nat} (hF : FrC σ q n) {T : Nat → la_W} (hT : LnC σ q n T) {a : Nat} (ha : a ≠ 8) (hlen : n ≤ lenC a) {v : la_W} (hv : la_V q n v) (hvσ : ∀ c, c < n → σ a c = nI (v c)) {post : Int32 → ss_S → Prop}
    (hp : ∀ h : Nat → Int32, post (nI (la_val q (la_ap q T v n) n)) (sA σ 8 h)) : wX2_apply a σ post := by
  have h6 := hF.1.n6
  refine pX2_applyInto (o := 0) hF hT ha (by omega) hv (fun c hc => by rw [Nat.zero_add]; exact hvσ c hc) (fun h hh => ?_)
  refine pX0_vectorNumber (o := 0) (v := la_ap q T v n) (hF.sA (by omega) h) (fun c hc => ?_) (by rw [len8]; omega) (hp h)
  rw [sA_same, Nat.zero_add]; exact hh c hc
def Oth8 (s : Nat) (σ σ' : ss_S) : Prop := ∀ i, i ≠ 8 → i ≠ s → i ≠ s + 1 → i ≠ s + 2 → σ' i = σ i
theorem Oth.to8 {s : Nat} {σ σ' : ss_S} (h : Oth s σ σ') : Oth8 s σ σ' := fun i _ a b c => h i a b c
theorem Oth8.trans {s : Nat} {σ σ' σ'' : ss_S} (h : Oth8 s σ σ') (h' : Oth8 s σ' σ'') : Oth8 s σ σ'' := fun i e a b c => (h' i e a b c).trans (h i e a b c)
theorem Oth8.res {s : Nat} {σ : ss_S} (h : Nat → Int32) : Oth8 s σ (sA σ 8 h) := fun i e _ _ _ => sA_ne _ _ e
theorem Oth8.Fr {s q n : Nat} {σ σ' : ss_S} (hs : isSp s) (h : Oth8 s σ σ') (hF : FrC σ q n) : FrC σ' q n := by
  have := hs.1
  have e := h 1 (by omega) (by omega) (by omega) (by omega)
  obtain ⟨a, b, c, d⟩ := hF
  exact ⟨a, by rw [e]; exact b, by rw [e]; exact c, by rw [e]; exact d⟩
theorem Oth8.Ln {s q n : Nat} {σ σ' : ss_S} {T : Nat → la_W} (hs : isSp s) (h : Oth8 s σ σ') (hT : LnC σ q n T) : LnC σ' q n T := by
  have := hs.1
  exact hT.eq (h 7 (by omega) (by omega) (by omega) (by omega))
theorem Oth8.Sp {s s' q n : Nat} {σ σ' : ss_S} {pv : Nat → Bool} {M : Nat → la_W} (hs : isSp s) (hs' : isSp s') (hne : s' ≠ s) (h : Oth8 s σ σ') (hS : SpC σ s' q n pv M) : SpC σ' s' q n pv M := by
  obtain ⟨a1, a2, a3⟩ := hs
  obtain ⟨b1, b2, b3⟩ := hs'
  exact hS.eq (by rw [h s' (by omega) (by omega) (by omega) (by omega)]) (fun k => by rw [h (s' + 1) (by omega) (by omega) (by omega) (by omega)])
def la_mG (q n : Nat) (T : Nat → la_W) (pv : Nat → Bool) (M : Nat → la_W) (i : Nat) (w : la_W) : Prop := ∃ p, p < i ∧ pv p = true ∧ w = la_ap q T (M p) n
theorem pX2_applyToSpace {σ : ss_S} {q n : Nat} (hF : FrC σ q n) {T : Nat → la_W} (hT : LnC σ q n T) {s s1 : Nat} (hs : isSp s) (hs1 : isSp s1) (hne : s1 ≠ s) {pv1 : Nat → Bool} {M1 : Nat → la_W} (hS1 : SpC σ s1 q n pv1 M1) {post : ss_S → Prop}
    (hp : ∀ (σ' : ss_S) (pv' : Nat → Bool) (M' : Nat → la_W), Oth8 s σ σ' → SpC σ' s q n pv' M' → (∀ v, la_S q pv' M' v ↔ la_Sp q (la_mG q n T pv1 M1 n) v) → post σ') : wX2_applyToSpace s1 s σ post := by
  have hq := hF.1
  have h6 := hq.n6
  have h5 := hq.five
  have hq0 := hq.pos
  have hs9 := hs.1
  have far := sp_far hs hs1 (Ne.symm hne)
  have hs19 := hs1.1
  have key : ∀ d i, i + d = n → ∀ (σ1 : ss_S) (pv' : Nat → Bool) (M' : Nat → la_W), Oth8 s σ σ1 → SpC σ1 s q n pv' M' → (∀ v, la_S q pv' M' v ↔ la_Sp q (la_mG q n T pv1 M1 i) v) → lX2_applyToSpace_6 s1 s post (fun _ σ => post σ) (d + 1) (nI i) σ1 := by
    intro d
    induction d with
    | zero =>
      intro i hi σ1 pv' M' hO hS' hsp
      have hFx := hO.Fr hs hF
      refine And.intro (fun _ => ?_) (fun hc => absurd (by rw [hFx.2.2.1]; exact nI_le (by omega) (by omega)) hc)
      rw [show i = n by omega] at hsp
      exact hp σ1 pv' M' hO hS' hsp
    | succ d ih =>
      intro i hi σ1 pv' M' hO hS' hsp
      have hFx := hO.Fr hs hF
      have hTx := hO.Ln hs hT
      have hS1x := hO.Sp hs hs1 hne hS1
      refine And.intro (fun hc => absurd hc (by rw [hFx.2.2.1]; exact nI_ge (by omega) (by omega))) (fun _ => ?_)
      refine pX3_isPivot hFx hS1x.2.1 (by omega) ?_
      by_cases hpi : pv1 i = true
      · have hVi := (hS1.1.2 i hpi).1
        rw [la_b_t hpi, nI_1, nI_m6]
        refine And.intro (fun hc => absurd hc i1_0) (fun _ => ?_)
        refine pX2_applyInto hFx hTx (by omega) (by rw [hs1.lenCells]; omega) hVi (hS1x.2.2 i hpi) (fun h hh => ?_)
        have hVa := la_ap_V hq0 (fun p hp => (hT p hp).1) (M1 i) n (Nat.le_refl n)
        refine pX3_joinVector (o := 0) (hFx.sA (by omega) h) hs (hS'.eq (by rw [sA_ne _ _ (by omega)]) (fun k => by rw [sA_ne _ _ (by omega)])) hVa (by rw [len8]; omega) (fun c hc => by rw [sA_same, Nat.zero_add]; exact hh c hc) (fun σ2 pv2 M2 hO2 hS2 hsp2 => ?_)
        refine ih (i + 1) (by omega) σ2 pv2 M2 (hO.trans ((Oth8.res h).trans hO2.to8)) hS2 (fun v => (hsp2 v).trans ((la_up_cong hsp _ v).trans (la_Sp.congr (fun w => ?_) v)))
        constructor
        · rintro (⟨p, h1, h2, h3⟩ | rfl)
          · exact ⟨p, by omega, h2, h3⟩
          · exact ⟨i, by omega, hpi, rfl⟩
        · rintro ⟨p, h1, h2, h3⟩
          rcases Nat.lt_or_ge p i with x | x
          · exact Or.inl ⟨p, x, h2, h3⟩
          · rw [show p = i by omega] at h3; exact Or.inr h3
      · rw [la_b_f hpi, nI_1]
        refine And.intro (fun _ => ?_) (fun hc => absurd rfl hc)
        refine ih (i + 1) (by omega) σ1 pv' M' hO hS' (fun v => (hsp v).trans (la_Sp.congr (fun w => ⟨fun ⟨p, h1, h2⟩ => ⟨p, by omega, h2⟩, fun ⟨p, h1, h2, h3⟩ => ?_⟩) v))
        rcases Nat.lt_or_ge p i with x | x
        · exact ⟨p, x, h2, h3⟩
        · rw [show p = i by omega] at h2; exact absurd h2 hpi
  refine ⟨n + 1, key n 0 (by omega) _ la_no (fun _ => la_z) Oth.zero.to8 (SpC.zero _) (la_S_no (fun w ⟨fr, h, _⟩ => absurd h (Nat.not_lt_zero _)))⟩
def la_tr (n : Nat) (T : Nat → la_W) (c : Nat) : la_W := fun p => if p < n then T p c else 0
theorem la_tr_V {q n : Nat} (hq : 0 < q) {T : Nat → la_W} (hT : ∀ p, p < n → la_V q n (T p)) (c : Nat) : la_V q n (la_tr n T c) := by
  refine ⟨fun p => ?_, fun p hp => ?_⟩
  · unfold la_tr
    by_cases h : p < n
    · rw [if_pos h]; exact (hT p h).1 c
    · rw [if_neg h]; exact hq
  · unfold la_tr; rw [if_neg (by omega)]
def la_cG (n : Nat) (T : Nat → la_W) (i : Nat) (w : la_W) : Prop := ∃ c, c < i ∧ w = la_tr n T c
theorem pX2_columnSpace {σ : ss_S} {q n : Nat} (hF : FrC σ q n) {T : Nat → la_W} (hT : LnC σ q n T) {s : Nat} (hs : isSp s) {post : ss_S → Prop}
    (hp : ∀ (σ' : ss_S) (pv' : Nat → Bool) (M' : Nat → la_W), Oth8 s σ σ' → SpC σ' s q n pv' M' → (∀ v, la_S q pv' M' v ↔ la_Sp q (la_cG n T n) v) → post σ') : wX2_columnSpace s σ post := by
  have hq := hF.1
  have h6 := hq.n6
  have h5 := hq.five
  have hq0 := hq.pos
  have hs9 := hs.1
  have key : ∀ d i, i + d = n → ∀ (σ1 : ss_S) (pv' : Nat → Bool) (M' : Nat → la_W), Oth8 s σ σ1 → SpC σ1 s q n pv' M' → (∀ v, la_S q pv' M' v ↔ la_Sp q (la_cG n T i) v) → lX2_columnSpace_6 s post (fun _ σ => post σ) (d + 1) (nI i) σ1 := by
    intro d
    induction d with
    | zero =>
      intro i hi σ1 pv' M' hO hS' hsp
      have hFx := hO.Fr hs hF
      refine And.intro (fun _ => ?_) (fun hc => absurd (by rw [hFx.2.2.1]; exact nI_le (by omega) (by omega)) hc)
      rw [show i = n by omega] at hsp
      exact hp σ1 pv' M' hO hS' hsp
    | succ d ih =>
      intro i hi σ1 pv' M' hO hS' hsp
      have hFx := hO.Fr hs hF
      have hTx := hO.Ln hs hT
      refine And.intro (fun hc => absurd hc (by rw [hFx.2.2.1]; exact nI_ge (by omega) (by omega))) (fun _ => ?_)
      have inner : ∀ e j, j + e = n → ∀ h : Nat → Int32, (∀ c, c < j → h c = nI (la_tr n T i c)) → lX2_columnSpace_19 s (nI i) post (fun _ σ_2 => wX3_joinVector s 8 0 σ_2 (fun σ3 => lX2_columnSpace_6 s post (fun _ σ => post σ) (d + 1) (nI i + 1) σ3)) (e + 1) (nI j) (sA σ1 8 h) := by
        intro e
        induction e with
        | zero =>
          intro j hj h hh
          have hF1 := hFx.sA (a := 8) (by omega) h
          refine And.intro (fun _ => ?_) (fun hc => absurd (by rw [hF1.2.2.1]; exact nI_le (by omega) (by omega)) hc)
          refine pX3_joinVector (o := 0) hF1 hs (hS'.eq (by rw [sA_ne _ _ (by omega)]) (fun k => by rw [sA_ne _ _ (by omega)])) (la_tr_V hq0 (fun p hp => (hT p hp).1) i) (by rw [len8]; omega) (fun c hc => by rw [sA_same, Nat.zero_add]; exact hh c (by omega)) (fun σ2 pv2 M2 hO2 hS2 hsp2 => ?_)
          rw [nI_1]
          refine ih (i + 1) (by omega) σ2 pv2 M2 (hO.trans ((Oth8.res h).trans hO2.to8)) hS2 (fun v => (hsp2 v).trans ((la_up_cong hsp _ v).trans (la_Sp.congr (fun w => ?_) v)))
          constructor
          · rintro (⟨p, h1, h3⟩ | rfl)
            · exact ⟨p, by omega, h3⟩
            · exact ⟨i, by omega, rfl⟩
          · rintro ⟨p, h1, h3⟩
            rcases Nat.lt_or_ge p i with x | x
            · exact Or.inl ⟨p, x, h3⟩
            · rw [show p = i by omega] at h3; exact Or.inr h3
        | succ e ihe =>
          intro j hj h hh
          have hF1 := hFx.sA (a := 8) (by omega) h
          refine And.intro (fun hc => absurd hc (by rw [hF1.2.2.1]; exact nI_ge (by omega) (by omega))) (fun _ => ?_)
          rw [nI_m6, nI_add, len7, len8, nI_clamp (by omega), nI_clamp (by omega), sA_ne σ1 h (show 7 ≠ 8 by omega), (hTx j (by omega)).2 i (by omega), u2_sA, nI_1 j]
          refine And.intro (vp_in_nI (by omega) (by omega)) (And.intro (vp_in_nI (by omega) (by omega)) ?_)
          refine ihe (j + 1) (by omega) _ (fun c hc => ?_)
          by_cases e2 : c = j
          · subst e2; rw [pk_us]; unfold la_tr; rw [if_pos (by omega)]
          · rw [pk_un e2]; exact hh c (by omega)
      have := inner n 0 (by omega) (σ1 8) (fun c hc => absurd hc (Nat.not_lt_zero _))
      rw [sA_id] at this
      exact ⟨n + 1, this⟩
  refine ⟨n + 1, key n 0 (by omega) _ la_no (fun _ => la_z) Oth.zero.to8 (SpC.zero _) (la_S_no (fun w ⟨fr, h, _⟩ => absurd h (Nat.not_lt_zero _)))⟩
def la_e : Nat → la_W := fun p c => if c = p then 1 else 0
theorem la_e_V {q n p : Nat} (hq : 1 < q) (hp : p < n) : la_V q n (la_e p) := ⟨fun c => by unfold la_e; split <;> omega, fun c hc => by unfold la_e; rw [if_neg (by omega)]⟩
theorem pX2_becomeIdentity {σ : ss_S} {q n : Nat} (hF : FrC σ q n) {post : ss_S → Prop} (hp : ∀ h : Nat → Int32, LnC (sA σ 7 h) q n la_e → post (sA σ 7 h)) : wX2_becomeIdentity σ post := by
  have hq := hF.1
  have h6 := hq.n6
  have key : ∀ d i, i + d = n → ∀ h : Nat → Int32, (∀ p, p < n → ∀ c, c < n → h (p * 6 + c) = nI (if c = p ∧ p < i then 1 else 0)) → lX2_becomeIdentity_10 post (fun _ σ => post σ) (d + 1) (nI i) (sA σ 7 h) := by
    intro d
    induction d with
    | zero =>
      intro i hi h hh
      refine And.intro (fun _ => ?_) (fun hc => absurd (by rw [sA_ne _ _ (by omega), hF.2.2.1]; exact nI_le (by omega) (by omega)) hc)
      refine hp h (fun p hp => ⟨la_e_V hq.two hp, fun c hc => ?_⟩)
      rw [sA_same, hh p hp c hc]
      unfold la_e
      by_cases e : c = p
      · rw [if_pos e, if_pos ⟨e, by omega⟩]
      · rw [if_neg e, if_neg (fun hx => e hx.1)]
    | succ d ih =>
      intro i hi h hh
      refine And.intro (fun hc => absurd hc (by rw [sA_ne _ _ (by omega), hF.2.2.1]; exact nI_ge (by omega) (by omega))) (fun _ => ?_)
      rw [nI_m6, nI_add, len7, nI_clamp (by omega), u2_sA, nI_1]
      refine And.intro (vp_in_nI (by omega) (by omega)) ?_
      refine ih (i + 1) (by omega) _ (fun p hp c hc => ?_)
      by_cases e : p * 6 + c = i * 6 + i
      · rw [e, pk_us, if_pos ⟨by omega, by omega⟩]; rfl
      · rw [pk_un e, hh p hp c hc]
        by_cases e2 : c = p ∧ p < i
        · rw [if_pos e2, if_pos ⟨e2.1, by omega⟩]
        · rw [if_neg e2, if_neg (fun hx => by
            obtain ⟨x1, x2⟩ := hx
            rcases Nat.lt_or_ge p i with y | y
            · exact e2 ⟨x1, y⟩
            · apply e; omega)]
  refine pJ7_fill ?_
  refine ⟨n + 1, key n 0 (by omega) _ (fun p hp c hc => ?_)⟩
  rw [len7, fb_put_in (by omega) (by omega), if_neg (fun hx => absurd hx.2 (Nat.not_lt_zero _))]; rfl
theorem pX2_imageNumber {σ : ss_S} {q n : Nat} (hF : FrC σ q n) {T : Nat → la_W} (hT : LnC σ q n T) {p : Nat} (hpn : p < n) {post : Int32 → ss_S → Prop} (hp : post (nI (la_val q (T p) n)) σ) : wX2_imageNumber (nI p) σ post := by
  have h6 := hF.1.n6
  unfold wX2_imageNumber
  rw [nI_m6]
  exact pX0_vectorNumber hF (hT p hpn).2 (by rw [len7]; omega) hp
theorem pX2_setImage {σ : ss_S} {q n : Nat} (hF : FrC σ q n) {T : Nat → la_W} (hT : LnC σ q n T) {p v : Nat} (hpn : p < n) (hv : v < q ^ n) {post : ss_S → Prop} (hp : ∀ h : Nat → Int32, LnC (sA σ 7 h) q n (fun j => if j = p then la_dig q n v else T j) → post (sA σ 7 h)) : wX2_setImage (nI p) (nI v) σ post := by
  have h6 := hF.1.n6
  unfold wX2_setImage
  rw [nI_m6]
  refine pX0_spell hF (by omega) hv (by rw [len7]; omega) (hp _ (fun j hj => ?_))
  dsimp only
  by_cases e : j = p
  · subst e
    rw [if_pos rfl]
    refine ⟨la_dig_V hF.1.pos, fun c hc => ?_⟩
    rw [sA_same, fb_put_in (by omega) (by omega), Nat.add_sub_cancel_left]
  · rw [if_neg e]
    refine ⟨(hT j hj).1, fun c hc => ?_⟩
    rw [sA_same, fb_put_out (by omega)]
    exact (hT j hj).2 c hc
