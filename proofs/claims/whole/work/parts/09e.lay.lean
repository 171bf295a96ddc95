def OthL (τ τ' : ss_S) : Prop := (∀ i, i ≠ 0 → i ≠ 2 → i ≠ 7 → τ' i = τ i) ∧ ∀ j, j ≠ 7 → τ' 0 j = τ 0 j
theorem OthL.kp {t : Nat} {τ τ' : ss_S} (h : OthL τ τ') : KpM t τ τ' :=
  ⟨h.1 1 (by omega) (by omega) (by omega), h.1 8 (by omega) (by omega) (by omega), h.1 9 (by omega) (by omega) (by omega), h.2, fun k _ _ => ⟨by rw [h.1 4 (by omega) (by omega) (by omega)], fun j _ => by rw [h.1 5 (by omega) (by omega) (by omega)]⟩⟩
theorem Bt_last {q n k m : Nat} (hm : m < 2 ^ n) (h : ∀ j, j < m → pc6 j ≠ k) : Bt q n k (2 ^ n) = Bt q n k (2 ^ n - 1 - m) + tm q n k m := by
  have e : Bt q n k (2 ^ n) = Bt q n k (2 ^ n - 1) + tm q n k 0 := by
    have := fb_sm_succ (fun i => tm q n k (2 ^ n - 1 - i)) (2 ^ n - 1)
    rw [show 2 ^ n - 1 + 1 = 2 ^ n by omega, show 2 ^ n - 1 - (2 ^ n - 1) = 0 by omega] at this
    exact this
  rcases Nat.eq_zero_or_pos m with y | y
  · subst y; exact e
  · have := Bt_gap (q := q) (k := k) hm y (fun j h1 h2 => h j h2)
    rw [Nat.sub_zero] at this
    have h0 : tm q n k 0 = 0 := by unfold tm; rw [if_neg (h 0 y)]
    rw [e, this, h0, Nat.add_zero]
theorem Af_same {n : Nat} {pv : Nat → Bool} : ∀ d p, p + d ≤ n → fb_ct pv p = fb_ct pv (p + d) → Af n pv (p + d) = Af n pv p := by
  intro d
  induction d with
  | zero => intro p _ _; rfl
  | succ d ih =>
    intro p hn h
    have h1 := fb_ct_mono pv (show p ≤ p + d by omega)
    have h2 := fb_ct_succ pv (p + d)
    have h3 : fb_ct pv (p + (d + 1)) = fb_ct pv (p + d + 1) := rfl
    have hno : ¬ pv (p + d) = true := fun hc => by rw [if_pos hc] at h2; omega
    rw [if_neg hno] at h2
    have hA := Af_s pv (show p + d < n by omega)
    rw [if_neg hno, Nat.add_zero] at hA
    show Af n pv (p + d + 1) = _
    rw [← hA]
    exact ih p (by omega) (by omega)
theorem Af_le {n : Nat} {pv : Nat → Bool} {p : Nat} (hp : p ≤ n) : Af n pv p ≤ Af n pv 0 := by
  unfold Af
  have : fb_sm (fun j => if pv j = true then zf n pv (j + 1) else 0) 0 = 0 := rfl
  omega
def zq (n : Nat) (pv : Nat → Bool) (p c : Nat) : Nat := zf n pv (if c ≤ p then p + 1 else c)
def ps (q n p : Nat) (row : la_W) (c : Nat) : Nat := q ^ (n - 1 - p) + fb_sm (fun j => if j = p then 0 else row j * q ^ (n - 1 - j)) c
theorem ps_n {q n p : Nat} {row : la_W} (hp : p < n) (h1 : row p = 1) : ps q n p row n = la_val q row n := by
  unfold ps
  rw [la_val_sm]
  have := fb_sm_upd (fun j => row j * q ^ (n - 1 - j)) 0 hp
  simp only [h1, Nat.one_mul, Nat.add_zero] at this
  omega
theorem pX5_lay {τ : ss_S} {q n : Nat} (hF : FrM τ q n) {k r : Nat} (hk : k ≤ n) (hr : r < gsN q n k) {post : ss_S → Prop}
    (hp : ∀ m, isM q n k r m → ∀ τ' : ss_S, OthL τ τ' → τ' 0 7 = nI k → Wk τ' q n 0 (pvm n m) (Ms q n (pvm n m) (r - Bt q n k (2 ^ n - 1 - m))) → post τ') : wX5_lay (nI k) (nI r) τ post := by
  have hq := hF.1
  have h6 := hq.n6
  have h5 := hq.five
  have hq0 := hq.pos
  have hgs := (gs_all (okq.of hq (Nat.le_refl n)) hk).2.1
  rw [← Bt_all hq hk] at hr
  have hrb : r < 2 ^ 15 := by rw [Bt_all hq hk] at hr; omega
  have hF7 : ∀ w, FrM (sA τ 7 w) q n := fun w => hF.sA (by omega) w
  have h59 : (5 : Nat) ^ 9 < 2 ^ 31 := by decide
  have hpb : ∀ e, e ≤ 9 → q ^ e < 2 ^ 31 := fun e he => by
    have : q ^ e ≤ 5 ^ 9 := Nat.le_trans (Nat.pow_le_pow_left hq.five _) (Nat.pow_le_pow_right (by omega) he)
    omega
  have tail : ∀ m, isM q n k r m → ∀ w : Nat → Int32, Ar7 (sA τ 7 w) n m → ∃ f_69, lX5_lay_69 (nI k) (nI (r - Bt q n k (2 ^ n - 1 - m))) post (fun x4_24 x5_24 σ_24 => post σ_24) f_69 (nI (q ^ frC n m)) 0 (u2 (sA τ 7 w) 0 7 (nI k)) := by
    intro m hM w hA
    have hm := hM.1
    have hAm := mk_A n (by omega) m hm
    have hpc := hM.2.1
    have hR : r - Bt q n k (2 ^ n - 1 - m) < 2 ^ 31 := by omega
    have hp1 := hp m hM
    generalize r - Bt q n k (2 ^ n - 1 - m) = R at hR hp1 ⊢
    obtain ⟨pv, epv⟩ : ∃ pv, pvm n m = pv := ⟨_, rfl⟩
    rw [epv] at hp1 hAm
    rw [hpc] at hAm
    have hR1 := Ms_R hq.two (pv := pv) (fun p hp' => by rw [← epv] at hp'; exact pvm_lt hp') R
    have hdiv : ∀ e, R / q ^ e < 2 ^ 31 := fun e => Nat.lt_of_le_of_lt (Nat.div_le_self _ _) hR
    have hA1 : ∀ g, Ar7 (sA (u2 (sA τ 7 w) 0 7 (nI k)) 2 g) n m := fun g i hi => by
      rw [sA_ne _ _ (by omega), u2_ne _ _ _ (by omega)]; exact hA i hi
    have hF1 : ∀ g, FrM (sA (u2 (sA τ 7 w) 0 7 (nI k)) 2 g) q n := fun g => ((hF7 w).u2 (by omega) _).sA (by omega) g
    have inner : ∀ (K : Int32 → Int32 → Int32 → ss_S → Prop) (p : Nat) (g : Nat → Int32), pv p = true → p < n → (∀ y, K (nI (q ^ Af n pv (p + 1))) (nI (la_val q (Ms q n pv R p) n)) y (sA (u2 (sA τ 7 w) 0 7 (nI k)) 2 g)) → ∀ d c, c + d = n → lX5_lay_101 (nI k) (nI R) (nI (fb_ct pv p)) post K (d + 1) (nI (q ^ (Af n pv (p + 1) + zq n pv p c))) (nI (ps q n p (Ms q n pv R p) c)) (nI c) (sA (u2 (sA τ 7 w) 0 7 (nI k)) 2 g) := by
      intro K p g hpp hpn hK d
      have h1 : Ms q n pv R p p = 1 := (hR1.2 p hpp).2.1
      have hAp := Af_s pv hpn
      rw [if_pos hpp] at hAp
      have hAl := Af_le (n := n) (pv := pv) (p := p) (by omega)
      induction d with
      | zero =>
        intro c hc
        have e : c = n := by omega
        subst e
        have ez : zq c pv p c = 0 := by unfold zq; rw [if_neg (by omega)]; exact zf_n _ _
        rw [ez, Nat.add_zero, ps_n hpn h1]
        exact And.intro (fun _ => hK _) (fun hc => absurd (by rw [(hF1 g).2.2.1]; exact nI_le (Nat.le_refl _) (by omega)) hc)
      | succ d ih =>
        intro c hc
        refine And.intro (fun hc => absurd hc (by rw [(hF1 g).2.2.1]; exact nI_ge (by omega) (by omega))) (fun _ => ?_)
        have hx := ih (c + 1) (by omega)
        have eps : ps q n p (Ms q n pv R p) (c + 1) = ps q n p (Ms q n pv R p) c + (if c = p then 0 else Ms q n pv R p c * q ^ (n - 1 - c)) := by
          unfold ps; rw [fb_sm_succ, Nat.add_assoc]
        rw [eps] at hx
        rw [nI_1]
        refine pX5_isFree' (hF1 g) hm hpc epv (hA1 g) hpp (by omega) (fun h1' h2 => ?_) (fun hno => ?_)
        · have e1 : zq n pv p c = zf n pv c := by unfold zq; rw [if_neg (by omega)]
          have e2 : zq n pv p (c + 1) = zf n pv (c + 1) := by unfold zq; rw [if_neg (by omega)]
          have hz := zf_s pv (show c < n by omega)
          rw [if_neg (by rw [h2]; decide)] at hz
          have hzz : zf n pv c ≤ zf n pv (p + 1) := by
            unfold zf
            have := fb_ct_mono (fun j => !pv j) (show p + 1 ≤ c by omega)
            omega
          have hpw : q ^ (Af n pv (p + 1) + zf n pv c) / q = q ^ (Af n pv (p + 1) + zf n pv (c + 1)) := by
            rw [hz, ← Nat.add_assoc, Nat.pow_succ, Nat.mul_div_cancel _ hq0]
          have hpos : 0 < q ^ (Af n pv (p + 1) + zf n pv (c + 1)) := Nat.pow_pos hq0
          have eM : Ms q n pv R p c = Dg q n pv R p c := by
            unfold Ms; rw [if_neg (by omega), if_pos ⟨h1', by omega, h2⟩]
          rw [if_neg (by omega), e2, eM] at hx
          rw [(hF1 g).2.1, (hF1 g).2.2.1, e1, pk_div (hpb _ (by omega)) hq0 (by omega), hpw, pk_div hR hpos (hpb _ (by omega)), pk_rem (hdiv _) hq0 (by omega), nI_sub1 (show c < n by omega)]
          refine br1 (And.intro (nI_q0 hq0 (by omega)) (And.intro (nI_q0 hpos (hpb _ (by omega))) (And.intro (nI_q0 hq0 (by omega)) (pX5_power _ (by omega) ?_))))
          rw [pk_mul, nI_add]
          exact hx
        · have e1 : zq n pv p (c + 1) = zq n pv p c := by
            unfold zq
            by_cases hcp : c ≤ p
            · rw [if_pos hcp]
              by_cases h' : c + 1 ≤ p
              · rw [if_pos h']
              · rw [if_neg h', show c = p by omega]
            · rw [if_neg hcp, if_neg (by omega)]
              have hpc' : pv c = true := by
                cases e : pv c with
                | true => rfl
                | false => exact absurd ⟨by omega, e⟩ hno
              have hz := zf_s pv (show c < n by omega)
              rw [if_pos hpc', Nat.add_zero] at hz
              exact hz.symm
          have e2 : (if c = p then 0 else Ms q n pv R p c * q ^ (n - 1 - c)) = 0 := by
            by_cases hcp : c = p
            · rw [if_pos hcp]
            · rw [if_neg hcp]
              unfold Ms
              rw [if_neg hcp, if_neg (fun h => hno ⟨h.1, h.2.2⟩), Nat.zero_mul]
          rw [e1, e2, Nat.add_zero] at hx
          exact br0 hx
    have outer : ∀ d i, i + d = k → ∀ P, P ≤ n → fb_ct pv P = i → ∀ g : Nat → Int32, (∀ p, pv p = true → fb_ct pv p < i → g (fb_ct pv p) = nI (la_val q (Ms q n pv R p) n)) → lX5_lay_69 (nI k) (nI R) post (fun x4_24 x5_24 σ_24 => post σ_24) (d + 1) (nI (q ^ Af n pv P)) (nI i) (sA (u2 (sA τ 7 w) 0 7 (nI k)) 2 g) := by
      intro d
      induction d with
      | zero =>
        intro i hi P hP hPi g hg
        refine And.intro (fun _ => ?_) (fun hc => absurd (nI_le (by omega) (by omega)) hc)
        refine hp1 _ ⟨fun j a b c => ?_, fun j hj => ?_⟩ ?_ (fun p hpp => ?_)
        · rw [sA_ne _ _ b, u2_ne _ _ _ a, sA_ne _ _ c]
        · rw [sA_ne _ _ (by omega), u2_at, pk_un hj, sA_ne _ _ (by omega)]
        · rw [sA_ne _ _ (by omega), u2_at, pk_us]
        · rw [sA_same, Nat.zero_add]
          have := la_ct_lt hpp (hR1.1 p hpp)
          exact hg p hpp (by omega)
      | succ d ih =>
        intro i hi P hP hPi g hg
        refine And.intro (fun hc => absurd hc (nI_ge (by omega) (by omega))) (fun _ => And.intro (vp_in_nI (by omega) (by omega)) ?_)
        obtain ⟨p, h1, h2, h3⟩ := fb_ct_kth (show i < fb_ct pv n by omega)
        have e7 := (hA1 g).pv (p := p) h6 hm (by rw [epv]; exact h2)
        rw [epv, h3] at e7
        rw [nI_clamp (by omega), e7, (hF1 g).2.1, (hF1 g).2.2.1, nI_sub1 h1]
        refine pX5_power _ (by omega) ?_
        have eA : Af n pv P = Af n pv p := by
          rcases Nat.le_total P p with y | y
          · have := Af_same (n := n) (pv := pv) (p - P) P (by omega) (by rw [show P + (p - P) = p by omega]; omega)
            rw [show P + (p - P) = p by omega] at this
            exact this.symm
          · have := Af_same (n := n) (pv := pv) (P - p) p (by omega) (by rw [show p + (P - p) = P by omega]; omega)
            rwa [show p + (P - p) = P by omega] at this
        have hs := fb_ct_succ pv p
        rw [if_pos h2] at hs
        have hAp := Af_s pv h1
        rw [if_pos h2] at hAp
        have hi0 := inner (fun x4_23 x6_23 x7_23 σ_23 => (vp_in (nI i) 24 ∧ lX5_lay_69 (nI k) (nI R) post (fun x4_24 x5_24 σ_24 => post σ_24) (d + 1) x4_23 (nI i + 1) (u2 σ_23 2 i x6_23))) p g h2 h1 (fun y => ⟨vp_in_nI (by omega) (by omega), ?_⟩) n 0 (by omega)
        · have ez : zq n pv p 0 = zf n pv (p + 1) := by unfold zq; rw [if_pos (Nat.zero_le _)]
          have e0 : ps q n p (Ms q n pv R p) 0 = q ^ (n - 1 - p) := rfl
          rw [ez, ← hAp, e0, h3, ← eA] at hi0
          exact ⟨_, hi0⟩
        · rw [u2_sA, nI_1]
          refine ih (i + 1) (by omega) (p + 1) (by omega) (by omega) _ (fun p' hp' hlt => ?_)
          by_cases e : fb_ct pv p' = i
          · have epp : p' = p := fb_ct_kth_one hp' h2 (by omega)
            rw [e, pk_us, epp]
          · rw [pk_un e]; exact hg p' hp' (by omega)
    have hx := outer k 0 (by omega) 0 (Nat.zero_le _) rfl ((u2 (sA τ 7 w) 0 7 (nI k)) 2) (fun p _ h => absurd h (Nat.not_lt_zero _))
    rw [sA_id, hAm.2.1] at hx
    exact ⟨_, hx⟩
  refine pX5_firstPivots (by omega) (fun w0 hw0 => ?_)
  obtain ⟨e1, e2, e3⟩ := mk_E n (by omega) k hk
  have hA0 : Ar7 (sA τ 7 w0) n (2 ^ n - 2 ^ (n - k)) := fun i hi => by
    rw [e2] at hi
    rw [sA_same, hw0 i hi, e3 i hi]
  have walk : ∀ (K : Int32 → ss_S → Prop), (∀ m, isM q n k r m → ∀ w : Nat → Int32, Ar7 (sA τ 7 w) n m → K (nI (r - Bt q n k (2 ^ n - 1 - m))) (sA τ 7 w)) → ∀ d m, m < d → m < 2 ^ n → pc6 m = k → Bt q n k (2 ^ n - 1 - m) ≤ r → ∀ w : Nat → Int32, Ar7 (sA τ 7 w) n m → lX5_lay_7 (nI k) post K d (nI (r - Bt q n k (2 ^ n - 1 - m))) (sA τ 7 w) := by
    intro K hK d
    induction d with
    | zero => intro m hm; exact absurd hm (Nat.not_lt_zero _)
    | succ d ih =>
      intro m hmd hm hpc hB w hA
      have hAm := mk_A n (by omega) m hm
      have hpb' := hpb (frC n m) hAm.1
      refine pX5_free' (hF7 w) hm hpc hA ?_
      rw [(hF7 w).2.1]
      refine pX5_power _ (by omega) (And.intro (fun hc => ?_) (fun hc => ?_))
      · have hlt := (nI_ltI (by omega) hpb').mp hc
        exact hK m ⟨hm, hpc, hB, by omega⟩ w hA
      · have hge : q ^ frC n m ≤ r - Bt q n k (2 ^ n - 1 - m) := by
          rcases Nat.lt_or_ge (r - Bt q n k (2 ^ n - 1 - m)) (q ^ frC n m) with y | y
          · exact absurd ((nI_ltI (by omega) hpb').mpr y) hc
          · exact y
        have htm : tm q n k m = q ^ frC n m := by unfold tm; rw [if_pos hpc]
        have hx : ∃ j, j < m ∧ pc6 j = k := by
          apply Classical.byContradiction
          intro hno
          have := Bt_last (q := q) (k := k) hm (fun j hj e => hno ⟨j, hj, e⟩)
          omega
        obtain ⟨n1, n2, n3⟩ := nxf_lt k m hx
        have eB := Bt_gap (q := q) hm n1 n3
        refine pX5_free' (hF7 w) hm hpc hA ?_
        rw [(hF7 w).2.1]
        refine pX5_power _ (by omega) ?_
        refine pX5_goOn' (hF7 w) hm hpc hA hx (fun w' hA' => ?_)
        rw [sA_sA] at hA' ⊢
        rw [pk_sub hge, show r - Bt q n k (2 ^ n - 1 - m) - q ^ frC n m = r - Bt q n k (2 ^ n - 1 - nxf k m) by omega]
        exact ih _ (by omega) (by omega) n2 (by omega) w' hA'
  have hx := walk (fun x3_12 σ_12 => wX5_free (nI k) σ_12 (fun r14 σ13 => wX5_power (σ_12 0 0) r14 σ13 (fun r16 σ15 => (∃ f_69, lX5_lay_69 (nI k) x3_12 post (fun x4_24 x5_24 σ_24 => post σ_24) f_69 r16 0 (u2 σ15 0 7 (nI k)))))) (fun m hM w hA => by
    have hAm := mk_A n (by omega) m hM.1
    refine pX5_free' (hF7 w) hM.1 hM.2.1 hA ?_
    rw [(hF7 w).2.1]
    exact pX5_power _ (by omega) (tail m hM w hA)) (2 ^ n) (2 ^ n - 2 ^ (n - k)) e1 e1 e2 (by rw [Bt_zero (by omega) hk]; exact Nat.zero_le _) w0 hA0
  rw [Bt_zero (by omega) hk, Nat.sub_zero] at hx
  exact ⟨_, hx⟩
