theorem mk_G : ∀ n, n < 7 → ∀ m, m < 2 ^ n → ∀ i, i < pc6 m → pvm n m (pl n m i) = true := by decide +kernel
def Ar7 (τ : ss_S) (n m : Nat) : Prop := ∀ i, i < pc6 m → τ 7 i = nI (pl n m i)
theorem pX5_firstPivots {τ : ss_S} {k : Nat} (hk : k ≤ 6) {post : ss_S → Prop} (hp : ∀ w : Nat → Int32, (∀ i, i < k → w i = nI i) → post (sA τ 7 w)) : wX5_firstPivots (nI k) τ post := by
  have key : ∀ d i, i + d = k → ∀ w : Nat → Int32, (∀ j, j < i → w j = nI j) → lX5_firstPivots_2 (nI k) post (fun _ σ => post σ) (d + 1) (nI i) (sA τ 7 w) := by
    intro d
    induction d with
    | zero =>
      intro i hi w hw
      have e : i = k := by omega
      subst e
      exact And.intro (fun _ => hp w hw) (fun hc => absurd (nI_le (Nat.le_refl _) (by omega)) hc)
    | succ d ih =>
      intro i hi w hw
      refine And.intro (fun hc => absurd hc (nI_ge (by omega) (by omega))) (fun _ => And.intro (vp_in_nI (by omega) (by omega)) ?_)
      rw [nI_clamp (by omega), u2_sA, nI_1]
      refine ih (i + 1) (by omega) _ (fun j hj => ?_)
      by_cases e : j = i
      · rw [e, pk_us]
      · rw [pk_un e]; exact hw j (by omega)
  have := key k 0 (by omega) (τ 7) (fun j hj => absurd hj (Nat.not_lt_zero _))
  rw [sA_id] at this
  exact ⟨_, this⟩
theorem pX5_free {τ : ss_S} {q n : Nat} (hF : FrM τ q n) {m : Nat} (hm : m < 2 ^ n) (hA : Ar7 τ n m) {post : Int32 → ss_S → Prop} (hp : post (nI (frC n m)) τ) : wX5_free (nI (pc6 m)) τ post := by
  have h6 := hF.1.n6
  have hAm := mk_A n (by omega) m hm
  have key : ∀ d i, i + d = pc6 m → lX5_free_4 (nI (pc6 m)) post (fun x2_1 _ σ_1 => post x2_1 σ_1) (d + 1) (nI (frM n (pc6 m) (pl n m) i)) (nI i) τ := by
    intro d
    induction d with
    | zero =>
      intro i hi
      have e : i = pc6 m := by omega
      refine And.intro (fun _ => ?_) (fun hc => absurd (nI_le (by omega) (by omega)) hc)
      rw [e, hAm.2.2.1]; exact hp
    | succ d ih =>
      intro i hi
      obtain ⟨a, b, _⟩ := mk_B n (by omega) m hm i (by omega)
      refine And.intro (fun hc => absurd hc (nI_ge (by omega) (by omega))) (fun _ => And.intro (vp_in_nI (by omega) (by omega)) ?_)
      rw [nI_clamp (by omega), hA i (by omega), hF.2.2.1, nI_sub1 a, nI_sub1 (show i < pc6 m by omega), pk_sub b, nI_add, nI_1]
      exact ih (i + 1) (by omega)
  exact ⟨_, key (pc6 m) 0 (by omega)⟩
theorem gI_le (n k : Nat) (P : Nat → Nat) : ∀ J, gI n k P J ≤ J := by
  intro J
  induction J with
  | zero => exact Nat.le_refl _
  | succ J ih => simp only [gI]; split <;> omega
theorem pX5_goOn {τ : ss_S} {q n : Nat} (hF : FrM τ q n) {m : Nat} (hm : m < 2 ^ n) (hA : Ar7 τ n m) (hx : ∃ j, j < m ∧ pc6 j = pc6 m) {post : Int32 → ss_S → Prop} (hp : ∀ w : Nat → Int32, Ar7 (sA τ 7 w) n (nxf (pc6 m) m) → post 1 (sA τ 7 w)) : wX5_goOn (nI (pc6 m)) τ post := by
  have h6 := hF.1.n6
  have hAm := mk_A n (by omega) m hm
  obtain ⟨n1, n2, n3⟩ := nxf_lt (pc6 m) m hx
  have hD1 : gI n (pc6 m) (pl n m) (pc6 m) ≠ 0 := by
    rcases mk_D1 n (by omega) m hm with (x | x) | x
    · exact absurd n2 x
    · exact absurd n1 x
    · exact x
  have hD2 : ∀ i, i < pc6 m → goP n (pc6 m) (pl n m) i = pl n (nxf (pc6 m) m) i := by
    intro i hi
    rcases mk_D2 n (by omega) m hm i hi with (x | x) | x
    · exact absurd n2 x
    · exact absurd n1 x
    · exact x
  have hgl := gI_le n (pc6 m) (pl n m) (pc6 m)
  have fin : ∀ w : Nat → Int32, (∀ i, i < pc6 m → w i = nI (goP n (pc6 m) (pl n m) i)) → post 1 (sA τ 7 w) := fun w hw => hp w (fun i hi => by
    rw [n2] at hi
    rw [sA_same, hw i hi, hD2 i hi])
  have find : ∀ (K : Int32 → ss_S → Prop), K (nI (gI n (pc6 m) (pl n m) (pc6 m)) - 1) τ → ∀ J, J ≤ pc6 m → gI n (pc6 m) (pl n m) J = gI n (pc6 m) (pl n m) (pc6 m) → lX5_goOn_4 (nI (pc6 m)) post K (J + 1) (nI J - 1) τ := by
    intro K hK J
    induction J with
    | zero => intro _ e; exact absurd e.symm hD1
    | succ J ih =>
      intro hJ e
      obtain ⟨a, b, c⟩ := mk_B n (by omega) m hm J (by omega)
      rw [nI_p1 (by omega), Nat.add_sub_cancel]
      refine And.intro (fun hc => absurd hc (nI_pos (by omega))) (fun _ => And.intro (vp_in_nI (by omega) (by omega)) ?_)
      rw [nI_clamp (by omega), hA J (by omega), hF.2.2.1, pk_sub (by omega), nI_add, dec1]
      simp only [gI] at e
      by_cases h : pl n m J = n - pc6 m + J
      · rw [if_pos h] at e
        refine And.intro (fun hc => absurd (by rw [h]) hc) (fun _ => ih (by omega) e)
      · rw [if_neg h] at e
        refine And.intro (fun _ => ?_) (fun hc => absurd ((nI_eq (by omega) (by omega)).mp hc) h)
        rw [← e, nI_p1 (by omega), Nat.add_sub_cancel] at hK
        exact hK
  have hk1 : nI (pc6 m) - 1 = nI (pc6 m) - 1 := rfl
  refine ⟨_, find _ ?_ (pc6 m) (Nat.le_refl _) rfl⟩
  generalize hs : gI n (pc6 m) (pl n m) (pc6 m) = s at hD1 hgl
  rw [nI_p1 (by omega)]
  obtain ⟨a, b, c⟩ := mk_B n (by omega) m hm (s - 1) (by omega)
  refine And.intro (fun _ => And.intro (vp_in_nI (by omega) (by omega)) (And.intro (vp_in_nI (by omega) (by omega)) ?_)) (fun hc => absurd (nI_pos' (by omega)) hc)
  rw [nI_clamp (by omega), hA (s - 1) (by omega), nI_1, nI_1, show s - 1 + 1 = s by omega]
  have loop : ∀ d j, j + d = pc6 m → s ≤ j → ∀ w : Nat → Int32, (∀ i, i < j → w i = nI (goP n (pc6 m) (pl n m) i)) → lX5_goOn_51 (nI (pc6 m)) post (fun _ σ_2 => post 1 σ_2) (d + 1) (nI j) (sA τ 7 w) := by
    intro d
    induction d with
    | zero =>
      intro j hj hsj w hw
      have e : j = pc6 m := by omega
      subst e
      exact And.intro (fun _ => fin w hw) (fun hc => absurd (nI_le (Nat.le_refl _) (by omega)) hc)
    | succ d ih =>
      intro j hj hsj w hw
      refine And.intro (fun hc => absurd hc (nI_ge (by omega) (by omega))) (fun _ => ?_)
      rw [nI_p1 (by omega)]
      refine And.intro (vp_in_nI (by omega) (by omega)) (And.intro (vp_in_nI (by omega) (by omega)) ?_)
      rw [nI_clamp (by omega), nI_clamp (by omega), sA_same, u2_sA, hw (j - 1) (by omega), nI_1, nI_1]
      refine ih (j + 1) (by omega) (by omega) _ (fun i hi => ?_)
      by_cases e : i = j
      · rw [e, pk_us]
        congr 1
        unfold goP
        rw [hs, if_neg (by omega), if_neg (by omega)]
        omega
      · rw [pk_un e]; exact hw i (by omega)
  refine ⟨_, loop (pc6 m - s) s (by omega) (Nat.le_refl _) (upd (τ 7) (s - 1) (nI (pl n m (s - 1) + 1))) (fun i hi => ?_)⟩
  by_cases e : i = s - 1
  · rw [e, pk_us]
    congr 1
    unfold goP
    rw [hs, if_neg (by omega)]
    omega
  · rw [pk_un e, hA i (by omega)]
    congr 1
    unfold goP
    rw [hs, if_pos (by omega)]
theorem Ar7.pv {τ : ss_S} {n m : Nat} (hn : n ≤ 6) (hm : m < 2 ^ n) (hA : Ar7 τ n m) {p : Nat} (hp : pvm n m p = true) : τ 7 (fb_ct (pvm n m) p) = nI p := by
  have hpn := pvm_lt hp
  have hl := la_ct_lt hp hpn
  rw [(mk_A n (by omega) m hm).2.2.2.1] at hl
  rw [hA _ hl, mk_C n (by omega) m hm p hpn hp]
theorem pX5_isFree {τ : ss_S} {q n : Nat} (hF : FrM τ q n) {m : Nat} (hm : m < 2 ^ n) (hA : Ar7 τ n m) {p col : Nat} (hp : pvm n m p = true) (hcol : col < n) {post : Int32 → ss_S → Prop} (h1 : p < col → pvm n m col = false → post 1 τ) (h0 : ¬ (p < col ∧ pvm n m col = false) → post 0 τ) : wX5_isFree (nI (pc6 m)) (nI (fb_ct (pvm n m) p)) (nI col) τ post := by
  have h6 := hF.1.n6
  have hAm := mk_A n (by omega) m hm
  have hpn := pvm_lt hp
  have hl := la_ct_lt hp hpn
  rw [hAm.2.2.2.1] at hl
  have zero : (¬ (p < col ∧ pvm n m col = false)) → ∀ d i, i + d = pc6 m → lX5_isFree_20 (nI (pc6 m)) (nI col) post (fun x4_1 _ σ_1 => (narrow .boolean (.int x4_1) = .int x4_1 ∧ post x4_1 σ_1)) (d + 1) 0 (nI i) τ := by
    intro hno d
    induction d with
    | zero =>
      intro i hi
      exact And.intro (fun _ => ⟨nar0, h0 hno⟩) (fun hc => absurd (nI_le (by omega) (by omega)) hc)
    | succ d ih =>
      intro i hi
      refine And.intro (fun hc => absurd hc (nI_ge (by omega) (by omega))) (fun _ => br0 ?_)
      rw [nI_1]
      exact ih (i + 1) (by omega)
  have one : p < col → ∀ d i, i + d = pc6 m → (∀ j, j < i → pl n m j ≠ col) → lX5_isFree_20 (nI (pc6 m)) (nI col) post (fun x4_1 _ σ_1 => (narrow .boolean (.int x4_1) = .int x4_1 ∧ post x4_1 σ_1)) (d + 1) 1 (nI i) τ := by
    intro hpc d
    induction d with
    | zero =>
      intro i hi hall
      refine And.intro (fun _ => ⟨nar1, h1 hpc (pvf (fun hc => ?_))⟩) (fun hc => absurd (nI_le (by omega) (by omega)) hc)
      have hl2 := la_ct_lt hc hcol
      rw [hAm.2.2.2.1] at hl2
      exact hall _ (by omega) (mk_C n (by omega) m hm col hcol hc)
    | succ d ih =>
      intro i hi hall
      obtain ⟨a, b, c⟩ := mk_B n (by omega) m hm i (by omega)
      refine And.intro (fun hc => absurd hc (nI_ge (by omega) (by omega))) (fun _ => br1 (And.intro (vp_in_nI (by omega) (by omega)) ?_))
      rw [nI_clamp (by omega), hA i (by omega), nI_1]
      refine And.intro (fun hc => ?_) (fun hc => ?_)
      · have e := (nI_eq (by omega) (by omega)).mp hc
        refine zero (fun hx => ?_) d (i + 1) (by omega)
        have := mk_G n (by omega) m hm i (by omega)
        rw [e, hx.2] at this
        cases this
      · refine ih (i + 1) (by omega) (fun j hj => ?_)
        rcases Nat.lt_or_ge j i with y | y
        · exact hall j y
        · rw [show j = i by omega]
          intro e
          exact hc (by rw [e])
  refine And.intro (vp_in_nI (by omega) (by omega)) ?_
  rw [nI_clamp (by omega), hA.pv h6 hm hp]
  refine And.intro (fun hc => ?_) (fun hc => ?_)
  · have hle := (nI_leI (by omega) (by omega)).mp hc
    exact ⟨_, zero (fun hx => by omega) (pc6 m) 0 (by omega)⟩
  · have hlt : p < col := by
      rcases Nat.lt_or_ge p col with y | y
      · exact y
      · exact absurd (nI_le y (by omega)) hc
    exact ⟨_, one hlt (pc6 m) 0 (by omega) (fun j hj => absurd hj (Nat.not_lt_zero _))⟩
theorem pX5_free' {τ : ss_S} {q n : Nat} (hF : FrM τ q n) {m k : Nat} (hm : m < 2 ^ n) (hk : pc6 m = k) (hA : Ar7 τ n m) {post : Int32 → ss_S → Prop} (hp : post (nI (frC n m)) τ) : wX5_free (nI k) τ post := by
  subst hk
  exact pX5_free hF hm hA hp
theorem pX5_goOn' {τ : ss_S} {q n : Nat} (hF : FrM τ q n) {m k : Nat} (hm : m < 2 ^ n) (hk : pc6 m = k) (hA : Ar7 τ n m) (hx : ∃ j, j < m ∧ pc6 j = k) {post : Int32 → ss_S → Prop} (hp : ∀ w : Nat → Int32, Ar7 (sA τ 7 w) n (nxf k m) → post 1 (sA τ 7 w)) : wX5_goOn (nI k) τ post := by
  subst hk
  exact pX5_goOn hF hm hA hx hp
theorem pX5_isFree' {τ : ss_S} {q n : Nat} (hF : FrM τ q n) {m k : Nat} {pv : Nat → Bool} (hm : m < 2 ^ n) (hk : pc6 m = k) (hpv : pvm n m = pv) (hA : Ar7 τ n m) {p col : Nat} (hp : pv p = true) (hcol : col < n) {post : Int32 → ss_S → Prop} (h1 : p < col → pv col = false → post 1 τ) (h0 : ¬ (p < col ∧ pv col = false) → post 0 τ) : wX5_isFree (nI k) (nI (fb_ct pv p)) (nI col) τ post := by
  subst hk
  subst hpv
  exact pX5_isFree hF hm hA hp hcol h1 h0
theorem mask_eq {n m m' : Nat} (hn : n ≤ 6) (hm : m < 2 ^ n) (hm' : m' < 2 ^ n) (hk : pc6 m = pc6 m') (h : ∀ i, i < pc6 m → pl n m i = pl n m' i) : m = m' := by
  have aux : ∀ a b, a < 2 ^ n → b < 2 ^ n → pc6 a = pc6 b → (∀ i, i < pc6 a → pl n a i = pl n b i) → ∀ p, pvm n a p = true → pvm n b p = true := by
    intro a b ha hb hk h p hp
    have hpn := pvm_lt hp
    have hl := la_ct_lt hp hpn
    rw [(mk_A n (by omega) a ha).2.2.2.1] at hl
    have e1 := mk_C n (by omega) a ha p hpn hp
    have e2 := mk_G n (by omega) b hb (fb_ct (pvm n a) p) (by omega)
    rw [← h _ hl, e1] at e2
    exact e2
  have e : pvm n m = pvm n m' := by
    funext p
    cases h1 : pvm n m p with
    | true => exact (aux m m' hm hm' hk h p h1).symm
    | false =>
      cases h2 : pvm n m' p with
      | false => rfl
      | true =>
        have := aux m' m hm' hm hk.symm (fun i hi => (h i (by omega)).symm) p h2
        rw [this] at h1; cases h1
  rw [← mk_pvm hm, e, mk_pvm hm']
theorem cvo_same {q n : Nat} {pv : Nat → Bool} {M : Nat → la_W} : ∀ d p, fb_ct pv p = fb_ct pv (p + d) → cvo q n pv M (p + d) = cvo q n pv M p := by
  intro d
  induction d with
  | zero => intro p _; rfl
  | succ d ih =>
    intro p h
    have h1 := fb_ct_mono pv (show p ≤ p + d by omega)
    have h2 := fb_ct_succ pv (p + d)
    have h3 : fb_ct pv (p + (d + 1)) = fb_ct pv (p + d + 1) := rfl
    have hno : ¬ pv (p + d) = true := fun hc => by rw [if_pos hc] at h2; omega
    show cvo q n pv M (p + d + 1) = _
    simp only [cvo]
    rw [if_neg hno]
    rw [if_neg hno] at h2
    exact ih p (by omega)
theorem OthM.piv {τ : ss_S} (w : Nat → Int32) : KpM 12 τ (sA τ 7 w) := ⟨sA_ne _ _ (by omega), sA_ne _ _ (by omega), sA_ne _ _ (by omega), fun j _ => by rw [sA_ne _ _ (by omega)], fun k _ _ => ⟨by rw [sA_ne _ _ (by omega)], fun j _ => by rw [sA_ne _ _ (by omega)]⟩⟩
theorem pX5_number {τ : ss_S} {q n : Nat} (hF : FrM τ q n) {k : Nat} (hk : k < 12) {pv : Nat → Bool} {M : Nat → la_W} (hR : la_R q n pv M) (hS : SlM τ q n k pv M) {post : Int32 → ss_S → Prop}
    (hp : ∀ w : Nat → Int32, post (nI (Bt q n (fb_ct pv n) (2 ^ n - 1 - la_mk n pv) + cvo q n pv M n)) (sA τ 7 w)) : wX5_number (nI k) τ post := by
  have hq := hF.1
  have h6 := hq.n6
  have h5 := hq.five
  have hpw := la_pow_le hq
  have h64 := pow_n6 h6
  have hmk := la_mk_lt n pv
  have hct := fb_ct_le pv n
  have epv := pvm_mk hR
  have hpc : pc6 (la_mk n pv) = fb_ct pv n := (ct_pc h6 pv).symm
  have hbv : ∀ v : la_W, la_V q n v → la_val q v n < 2 ^ 31 := fun v hv => by have := la_val_lt (n := n) (fun c _ => hv.1 c); omega
  have hF7 : ∀ w, FrM (sA τ 7 w) q n := fun w => hF.sA (by omega) w
  have hrow : ∀ i, i < fb_ct pv n → ∃ p, p < n ∧ pv p = true ∧ fb_ct pv p = i ∧ pl n (la_mk n pv) i = p ∧ τ 5 (6 * k + i) = nI (la_val q (M p) n) := by
    intro i hi
    obtain ⟨p, h1, h2, h3⟩ := fb_ct_kth hi
    have hc := mk_C n (by omega) (la_mk n pv) hmk p h1 (by rw [epv]; exact h2)
    rw [epv, h3] at hc
    exact ⟨p, h1, h2, h3, hc, by rw [← h3]; exact hS.2 p h2⟩
  refine mSlY hk (rb1 (And.intro (vin hk) ?_))
  rw [ncl hk, hS.1]
  refine pX5_firstPivots (by omega) (fun w0 hw0 => ?_)
  have cmp : ∀ (K : Int32 → Int32 → ss_S → Prop) (x : Int32) (m : Nat) (w : Nat → Int32), m < 2 ^ n → pc6 m = fb_ct pv n → Ar7 (sA τ 7 w) n m → (∀ y, K (if m = la_mk n pv then 1 else 0) y (sA τ 7 w)) → ∃ f, lX5_number_38 (nI k) (nI (fb_ct pv n)) x post K f 1 0 (sA τ 7 w) := by
    intro K x m w hm hmk2 hA hK
    have key : ∀ d i, i + d = fb_ct pv n → ∀ t : Int32, (t = 1 ∧ ∀ j, j < i → pl n m j = pl n (la_mk n pv) j) ∨ (t = 0 ∧ m ≠ la_mk n pv) → lX5_number_38 (nI k) (nI (fb_ct pv n)) x post K (d + 1) t (nI i) (sA τ 7 w) := by
      intro d
      induction d with
      | zero =>
        intro i hi t ht
        refine And.intro (fun _ => ?_) (fun hc => absurd (nI_le (by omega) (by omega)) hc)
        have hy := hK (nI i)
        rcases ht with ⟨rfl, hall⟩ | ⟨rfl, hne⟩
        · have e : m = la_mk n pv := mask_eq h6 hm hmk (by omega) (fun j hj => hall j (by omega))
          rwa [if_pos e] at hy
        · rwa [if_neg hne] at hy
      | succ d ih =>
        intro i hi t ht
        refine And.intro (fun hc => absurd hc (nI_ge (by omega) (by omega))) (fun _ => ?_)
        rw [nI_6m, nI_add, nI_1]
        rcases ht with ⟨rfl, hall⟩ | ⟨rfl, hne⟩
        · obtain ⟨p, h1, h2, h3, h4, h5'⟩ := hrow i (by omega)
          obtain ⟨a, b, c, e⟩ := hR.2 p h2
          obtain ⟨a', b', c'⟩ := mk_B n (by omega) m hm i (by omega)
          refine br1 (And.intro (vp_in_nI (by omega) (by omega)) (And.intro (vp_in_nI (by omega) (by omega)) ?_))
          rw [nI_clamp (by omega), nI_clamp (by omega), hA i (by omega), sA_ne _ _ (show 5 ≠ 7 by omega), h5']
          refine pX5_pivot (hF7 w) a h1 c (by rw [b]; omega) ?_
          refine And.intro (fun hc => ih (i + 1) (by omega) 0 (Or.inr ⟨rfl, fun e => hc ?_⟩)) (fun hc => ih (i + 1) (by omega) 1 (Or.inl ⟨rfl, fun j hj => ?_⟩))
          · rw [e, h4]
          · rcases Nat.lt_or_ge j i with y | y
            · exact hall j y
            · rw [show j = i by omega, h4]
              exact (nI_eq (by omega) (by omega)).mp hc
        · exact br0 (ih (i + 1) (by omega) 0 (Or.inr ⟨rfl, hne⟩))
    exact ⟨_, key (fb_ct pv n) 0 (by omega) 1 (Or.inl ⟨rfl, fun j hj => absurd hj (Nat.not_lt_zero _)⟩)⟩
  have walk : ∀ (K : Int32 → Int32 → ss_S → Prop), (∀ w : Nat → Int32, Ar7 (sA τ 7 w) n (la_mk n pv) → ∀ y, K (nI (Bt q n (fb_ct pv n) (2 ^ n - 1 - la_mk n pv))) y (sA τ 7 w)) → ∀ d m, m ≤ la_mk n pv + d → la_mk n pv ≤ m → m < 2 ^ n → pc6 m = fb_ct pv n → ∀ w : Nat → Int32, Ar7 (sA τ 7 w) n m → lX5_number_27 (nI k) (nI (fb_ct pv n)) post K (d + 1 + 1) (nI (Bt q n (fb_ct pv n) (2 ^ n - 1 - m))) 0 (sA τ 7 w) := by
    intro K hK d
    induction d with
    | zero =>
      intro m hm1 hm2 hm3 hm4 w hA
      have e : m = la_mk n pv := by omega
      subst e
      refine rb0 (cmp _ _ _ w hm3 hm4 hA (fun y => ?_))
      rw [if_pos rfl]
      refine rb1 ?_
      exact rb1 (hK w hA _)
    | succ d ih =>
      intro m hm1 hm2 hm3 hm4 w hA
      refine rb0 (cmp _ _ _ w hm3 hm4 hA (fun y => ?_))
      by_cases e : m = la_mk n pv
      · rw [if_pos e]
        subst e
        refine rb1 ?_
        exact rb1 (hK w hA _)
      · rw [if_neg e]
        refine rb0 ?_
        have hx : ∃ j, j < m ∧ pc6 j = fb_ct pv n := ⟨la_mk n pv, by omega, hpc⟩
        obtain ⟨n1, n2, n3⟩ := nxf_lt (fb_ct pv n) m hx
        refine pX5_free' (hF7 w) hm3 hm4 hA ?_
        rw [(hF7 w).2.1]
        have hAm := mk_A n (by omega) m hm3
        refine pX5_power _ (by omega) ?_
        refine pX5_goOn' (hF7 w) hm3 hm4 hA hx (fun w' hA' => ?_)
        rw [sA_sA] at hA' ⊢
        rw [nI_add]
        have eB : Bt q n (fb_ct pv n) (2 ^ n - 1 - nxf (fb_ct pv n) m) = Bt q n (fb_ct pv n) (2 ^ n - 1 - m) + q ^ frC n m := by
          have := Bt_gap (q := q) hm3 n1 n3
          unfold tm at this
          rwa [if_pos hm4] at this
        rw [← eB]
        refine ih _ (by omega) ?_ (by omega) n2 w' hA'
        rcases Nat.lt_or_ge (nxf (fb_ct pv n) m) (la_mk n pv) with y | y
        · exact absurd hpc (n3 _ y (by omega))
        · exact y
  have inner : ∀ (K : Int32 → Int32 → ss_S → Prop) (w : Nat → Int32) (x : Int32) (p : Nat), Ar7 (sA τ 7 w) n (la_mk n pv) → pv p = true → p < n → (∀ y, K (nI (cvi q pv (M p) p (cvo q n pv M p) n)) y (sA τ 7 w)) → ∀ d c, c + d = n → lX5_number_132 (nI k) (nI (fb_ct pv n)) x (nI (fb_ct pv p)) post K (d + 1) (nI (cvi q pv (M p) p (cvo q n pv M p) c)) (nI c) (sA τ 7 w) := by
    intro K w x p hA hpp hpn hK d
    obtain ⟨hV, _, _, _⟩ := hR.2 p hpp
    have hl := la_ct_lt hpp hpn
    induction d with
    | zero =>
      intro c hc
      have e : c = n := by omega
      subst e
      exact And.intro (fun _ => hK _) (fun hc => absurd (by rw [(hF7 w).2.2.1]; exact nI_le (Nat.le_refl _) (by omega)) hc)
    | succ d ih =>
      intro c hc
      refine And.intro (fun hc => absurd hc (by rw [(hF7 w).2.2.1]; exact nI_ge (by omega) (by omega))) (fun _ => ?_)
      have hx := ih (c + 1) (by omega)
      simp only [cvi] at hx
      rw [nI_1]
      refine pX5_isFree' (hF7 w) hmk hpc epv hA hpp (by omega) (fun h1 h2 => ?_) (fun hno => ?_)
      · rw [if_pos ⟨h1, h2⟩] at hx
        rw [nI_6m, nI_add, nI_clamp (by omega), sA_ne _ _ (show 5 ≠ 7 by omega), hS.2 p hpp]
        refine br1 (And.intro (vp_in_nI (by omega) (by omega)) (pX5_figure (hF7 w) (hbv _ hV) (by omega) ?_))
        rw [la_dig_val hV, (hF7 w).2.1, pk_mul, nI_add]
        exact hx
      · rw [if_neg hno] at hx
        exact br0 hx
  have outer : ∀ (w : Nat → Int32) (x : Int32) (K : Int32 → Int32 → ss_S → Prop), Ar7 (sA τ 7 w) n (la_mk n pv) → (∀ y, K (nI (cvo q n pv M n)) y (sA τ 7 w)) → ∀ d i, i + d = fb_ct pv n → ∀ P, P ≤ n → fb_ct pv P = i → lX5_number_123 (nI k) (nI (fb_ct pv n)) x post K (d + 1) (nI (cvo q n pv M P)) (nI i) (sA τ 7 w) := by
    intro w x K hA hK d
    induction d with
    | zero =>
      intro i hi P hP hPi
      refine And.intro (fun _ => ?_) (fun hc => absurd (nI_le (by omega) (by omega)) hc)
      have := cvo_same (q := q) (n := n) (pv := pv) (M := M) (n - P) P (by rw [show P + (n - P) = n by omega]; omega)
      rw [show P + (n - P) = n by omega] at this
      rw [← this]
      exact hK _
    | succ d ih =>
      intro i hi P hP hPi
      refine And.intro (fun hc => absurd hc (nI_ge (by omega) (by omega))) (fun _ => ?_)
      obtain ⟨p, h1, h2, h3, h4, _⟩ := hrow i (by omega)
      have e : cvo q n pv M P = cvo q n pv M p := by
        rcases Nat.le_total P p with y | y
        · have := cvo_same (q := q) (n := n) (pv := pv) (M := M) (p - P) P (by rw [show P + (p - P) = p by omega]; omega)
          rw [show P + (p - P) = p by omega] at this
          exact this.symm
        · have := cvo_same (q := q) (n := n) (pv := pv) (M := M) (P - p) p (by rw [show p + (P - p) = P by omega]; omega)
          rwa [show p + (P - p) = P by omega] at this
      have hs := fb_ct_succ pv p
      rw [if_pos h2] at hs
      have hx := ih (i + 1) (by omega) (p + 1) (by omega) (by omega)
      simp only [cvo] at hx
      rw [if_pos h2] at hx
      rw [e, nI_1, ← h3]
      rw [← h3] at hx
      exact ⟨_, inner _ w x p hA h2 h1 (fun _ => hx) n 0 (by omega)⟩
  obtain ⟨e1, e2, e3⟩ := mk_E n (by omega) (fb_ct pv n) hct
  have hA0 : Ar7 (sA τ 7 w0) n (2 ^ n - 2 ^ (n - fb_ct pv n)) := fun i hi => by
    rw [e2] at hi
    rw [sA_same, hw0 i hi, e3 i hi]
  have hge : la_mk n pv ≤ 2 ^ n - 2 ^ (n - fb_ct pv n) := by
    rcases Nat.lt_or_ge (2 ^ n - 2 ^ (n - fb_ct pv n)) (la_mk n pv) with y | y
    · exact absurd hpc (mk_F n (by omega) _ hct _ hmk y)
    · exact y
  have hx := walk (fun x3_13 x4_13 σ_13 => (∃ f_123, lX5_number_123 (nI k) (nI (fb_ct pv n)) x3_13 post (fun x5_19 x6_19 σ_19 => post (x3_13 + x5_19) σ_19) f_123 0 0 σ_13)) (fun w hA y => ⟨_, outer w _ _ hA (fun y => by rw [nI_add]; exact hp w) (fb_ct pv n) 0 (by omega) 0 (Nat.zero_le _) rfl⟩) _ _ (Nat.le_add_left _ _) hge e1 e2 w0 hA0
  rw [Bt_zero (by omega) hct] at hx
  exact ⟨_, hx⟩
