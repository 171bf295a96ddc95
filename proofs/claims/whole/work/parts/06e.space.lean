theorem pX3_liesIn {σ : ss_S} {q n : Nat} (hF : FrC σ q n) {s s1 : Nat} (hs : isSp s) (hs1 : isSp s1) {pv pv1 : Nat → Bool} {M M1 : Nat → la_W} (hS : SpC σ s q n pv M) (hS1 : SpC σ s1 q n pv1 M1) {post : Int32 → ss_S → Prop}
    (h1 : (∀ p, pv p = true → la_S q pv1 M1 (M p)) → post 1 σ) (h0 : ¬ (∀ p, pv p = true → la_S q pv1 M1 (M p)) → post 0 σ) : wX3_liesIn s s1 σ post := by
  have h6 := hF.1.n6
  have key : ∀ d i, i + d = n → (∀ p, p < i → pv p = true → la_S q pv1 M1 (M p)) → lX3_liesIn_2 s s1 post (fun _ σ => post 1 σ) (d + 1) (nI i) σ := by
    intro d
    induction d with
    | zero =>
      intro i hi hall
      refine And.intro (fun _ => ?_) (fun hc => absurd (by rw [hF.2.2.1]; exact nI_le (by omega) (by omega)) hc)
      exact h1 (fun p hp => hall p (by have := hS.1.1 p hp; omega) hp)
    | succ d ih =>
      intro i hi hall
      refine And.intro (fun hc => absurd hc (by rw [hF.2.2.1]; exact nI_ge (by omega) (by omega))) (fun _ => ?_)
      refine pX3_isPivot hF hS.2.1 (by omega) ?_
      by_cases hpi : pv i = true
      · rw [la_b_t hpi, nI_1, nI_m6]
        refine And.intro (fun hc => absurd hc i1_0) (fun _ => ?_)
        refine pX3_holds hF hs1 hS1 (hS.1.2 i hpi).1 (by rw [hs.lenCells]; omega) (hS.2.2 i hpi) (fun hin => ?_) (fun hin => ?_)
        · refine And.intro (fun _ => ih (i + 1) (by omega) (fun p hpl hpp => ?_)) (fun hc => absurd hc i1_0)
          rcases Nat.lt_or_ge p i with x | x
          · exact hall p x hpp
          · rw [show p = i by omega]; exact hin
        · exact And.intro (fun hc => absurd rfl hc) (fun _ => h0 (fun hx => hin (hx i hpi)))
      · rw [la_b_f hpi, nI_1]
        refine And.intro (fun _ => ih (i + 1) (by omega) (fun p hpl hpp => ?_)) (fun hc => absurd rfl hc)
        rcases Nat.lt_or_ge p i with x | x
        · exact hall p x hpp
        · rw [show p = i by omega] at hpp; exact absurd hpp hpi
  exact ⟨n + 1, key n 0 (by omega) (fun p hp => absurd hp (Nat.not_lt_zero _))⟩
theorem la_mk_inj {n : Nat} {pv pv1 : Nat → Bool} (h : la_mk n pv = la_mk n pv1) {p : Nat} (hp : p < n) : pv p = pv1 p := by
  have e1 := la_mk_bit pv hp
  have e2 := la_mk_bit pv1 hp
  rw [h, e2] at e1
  unfold la_b at e1
  cases a : pv p <;> cases b : pv1 p <;> simp [a, b] at e1 <;> rfl
theorem la_R_pv {q n : Nat} {pv pv1 : Nat → Bool} {M M1 : Nat → la_W} (h : la_R q n pv M) (h1 : la_R q n pv1 M1) (he : la_mk n pv = la_mk n pv1) : pv = pv1 := by
  funext p
  rcases Nat.lt_or_ge p n with x | x
  · exact la_mk_inj he x
  · have a : pv p = false := by
      cases e : pv p with
      | false => rfl
      | true => have := h.1 p e; omega
    have b : pv1 p = false := by
      cases e : pv1 p with
      | false => rfl
      | true => have := h1.1 p e; omega
    rw [a, b]
theorem la_rows_eq {q n : Nat} (hq : 0 < q) {pv : Nat → Bool} {M M1 : Nat → la_W} (h : la_R q n pv M) (h1 : la_R q n pv M1) (hin : ∀ p, pv p = true → la_S q pv M1 (M p)) {p : Nat} (hp : pv p = true) : M p = M1 p := by
  have hH := (la_S.H hq h1 _).mp (hin p hp)
  obtain ⟨hV, h11, h10, h1d⟩ := h.2 p hp
  funext c
  by_cases hc : c < n
  · rw [hH.2 c hc]
    unfold la_cb
    rw [la_sm_one (p := p) (h.1 p hp) (fun j hj hne => by
      by_cases hj2 : pv j = true
      · simp only [if_pos hj2]; rw [h1d j hj2 hne, Nat.zero_mul]
      · simp only [if_neg hj2])]
    simp only [if_pos hp]
    rw [h11, Nat.one_mul, Nat.mod_eq_of_lt ((h1.2 p hp).1.1 c)]
  · rw [hV.2 c (by omega), (h1.2 p hp).1.2 c (by omega)]
theorem pX3_sameAs {σ : ss_S} {q n : Nat} (hF : FrC σ q n) {s s1 : Nat} (hs : isSp s) (hs1 : isSp s1) {pv pv1 : Nat → Bool} {M M1 : Nat → la_W} (hS : SpC σ s q n pv M) (hS1 : SpC σ s1 q n pv1 M1) {post : Int32 → ss_S → Prop}
    (h1 : pv = pv1 → (∀ p, pv p = true → M p = M1 p) → post 1 σ) (h0 : ¬ (pv = pv1 ∧ ∀ p, pv p = true → M p = M1 p) → post 0 σ) : wX3_sameAs s s1 σ post := by
  have h6 := hF.1.n6
  have b1 := la_mk_64 h6 pv
  have b2 := la_mk_64 h6 pv1
  unfold wX3_sameAs
  rw [hS.2.1, hS1.2.1, nI_eq (by omega) (by omega)]
  refine And.intro (fun hc => h0 (fun hx => hc (by rw [hx.1]))) (fun hc => ?_)
  have epv := la_R_pv hS.1 hS1.1 hc
  subst epv
  refine pX3_liesIn hF hs hs1 hS hS1 (fun hin => ?_) (fun hin => ?_)
  · exact And.intro (fun hc => absurd hc i1_0) (fun _ => h1 rfl (fun p hp => la_rows_eq hF.1.pos hS.1 hS1.1 hin hp))
  · refine And.intro (fun _ => h0 (fun hx => hin (fun p hp => ?_))) (fun hc => absurd rfl hc)
    rw [hx.2 p hp]; exact la_Sp.gen ⟨p, hp, rfl⟩
theorem pX3_rowNumber {σ : ss_S} {q n : Nat} (hF : FrC σ q n) {s : Nat} (hs : isSp s) {pv : Nat → Bool} {M : Nat → la_W} (hS : SpC σ s q n pv M) {x : Int32} {post : Int32 → ss_S → Prop}
    (h1 : ∀ p, pv p = true → x = nI (fb_ct pv p) → post (nI (la_val q (M p) n)) σ) (h0 : (∀ p, pv p = true → x ≠ nI (fb_ct pv p)) → post (-1) σ) : wX3_rowNumber s x σ post := by
  have h6 := hF.1.n6
  have key : ∀ d i, i + d = n → (∀ p, p < i → pv p = true → x ≠ nI (fb_ct pv p)) → lX3_rowNumber_4 s x post (fun _ _ σ => post ((-1)) σ) (d + 1) (nI (fb_ct pv i)) (nI i) σ := by
    intro d
    induction d with
    | zero =>
      intro i hi hall
      refine And.intro (fun _ => ?_) (fun hc => absurd (by rw [hF.2.2.1]; exact nI_le (by omega) (by omega)) hc)
      exact h0 (fun p hp => hall p (by have := hS.1.1 p hp; omega) hp)
    | succ d ih =>
      intro i hi hall
      refine And.intro (fun hc => absurd hc (by rw [hF.2.2.1]; exact nI_ge (by omega) (by omega))) (fun _ => ?_)
      refine pX3_isPivot hF hS.2.1 (by omega) ?_
      have hsucc := fb_ct_succ pv i
      by_cases hpi : pv i = true
      · rw [la_b_t hpi, nI_1, nI_1, nI_m6]
        rw [if_pos hpi] at hsucc
        refine And.intro (fun hc => absurd hc i1_0) (fun _ => And.intro (fun hne => ?_) (fun he => ?_))
        · rw [← hsucc]
          refine ih (i + 1) (by omega) (fun p hpl hpp => ?_)
          rcases Nat.lt_or_ge p i with y | y
          · exact hall p y hpp
          · rw [show p = i by omega]; exact Ne.symm hne
        · exact pX0_vectorNumber hF (hS.2.2 i hpi) (by rw [hs.lenCells]; omega) (h1 i hpi he.symm)
      · rw [la_b_f hpi, nI_1]
        rw [if_neg hpi] at hsucc
        refine And.intro (fun _ => ?_) (fun hc => absurd rfl hc)
        rw [show fb_ct pv i = fb_ct pv (i + 1) from hsucc.symm]
        refine ih (i + 1) (by omega) (fun p hpl hpp => ?_)
        rcases Nat.lt_or_ge p i with y | y
        · exact hall p y hpp
        · rw [show p = i by omega] at hpp; exact absurd hpp hpi
  exact ⟨n + 1, key n 0 (by omega) (fun p hp => absurd hp (Nat.not_lt_zero _))⟩
theorem pJ7_fill {σ : ss_S} {a : Nat} {x : Int32} {post : ss_S → Prop} (hp : post (sA σ a (fb_put (σ a) (fun _ => x) 0 (lenC a)))) : wJ7_fill_53178 a x σ post := by
  have hl : lenC a ≤ 36 := by unfold lenC; split <;> omega
  have key : ∀ d i, i + d = lenC a → lJ7_fill_53178_5 a x (Int32.ofNat (lenC a)) post (fun _ σ => post σ) (d + 1) (nI i) (sA σ a (fb_put (σ a) (fun _ => x) 0 i)) := by
    intro d
    induction d with
    | zero =>
      intro i hi
      refine And.intro (fun _ => ?_) (fun hc => absurd (nI_le (show lenC a ≤ i by omega) (by omega)) hc)
      rw [show i = lenC a by omega]; exact hp
    | succ d ih =>
      intro i hi
      refine And.intro (fun hc => absurd hc (nI_ge (show i < lenC a by omega) (by omega))) (fun _ => And.intro (vp_in_nI (by omega) (by omega)) ?_)
      rw [nI_clamp (by omega), u2_sA, nI_1]
      have e : upd (fb_put (σ a) (fun _ => x) 0 i) i x = fb_put (σ a) (fun _ => x) 0 (i + 1) := by
        have := fb_put_succ (σ a) (fun _ => x) 0 i
        rwa [Nat.zero_add] at this
      rw [e]
      exact ih (i + 1) (by omega)
  have := key (lenC a) 0 (by omega)
  rw [fb_put_0, sA_id] at this
  exact ⟨_, this⟩
def la_no : Nat → Bool := fun _ => false
theorem la_mk_no (n : Nat) : la_mk n la_no = 0 := by
  induction n with
  | zero => rfl
  | succ n ih => unfold la_mk at ih ⊢; simp only [la_val, ih]; rfl
theorem la_R_no (q n : Nat) (M : Nat → la_W) : la_R q n la_no M := ⟨fun p h => absurd h (by simp [la_no]), fun p h => absurd h (by simp [la_no])⟩
theorem la_S_no {q : Nat} {M : Nat → la_W} {K : la_W → Prop} (hK : ∀ w, ¬ K w) (v : la_W) : la_S q la_no M v ↔ la_Sp q K v := la_Sp.congr (fun w => ⟨fun ⟨p, h, _⟩ => absurd h (by simp [la_no]), fun h => absurd h (hK w)⟩) v
theorem SpC.zero {σ : ss_S} {s q n : Nat} (M : Nat → la_W) : SpC (u2 σ s 3 0) s q n la_no M := ⟨la_R_no q n M, by rw [u2_at, pk_us, la_mk_no]; rfl, fun p h => absurd h (by simp [la_no])⟩
theorem Oth.zero {σ : ss_S} {s : Nat} : Oth s σ (u2 σ s 3 0) := fun i a _ _ => u2_ne _ _ _ a
def la_dv (q n : Nat) (pv : Nat → Bool) (M : Nat → la_W) (fr : Nat) : la_W := fun c => if c = fr then 1 else if c < n ∧ pv c = true then (q - M c fr) % q else 0
theorem la_dv_V {q n : Nat} (hq : 1 < q) (pv : Nat → Bool) (M : Nat → la_W) {fr : Nat} (hfr : fr < n) : la_V q n (la_dv q n pv M fr) := by
  refine ⟨fun c => ?_, fun c hc => ?_⟩
  · unfold la_dv
    split
    · exact hq
    · split
      · exact Nat.mod_lt _ (by omega)
      · omega
  · unfold la_dv
    rw [if_neg (by omega), if_neg (by omega)]
def la_dG (q n : Nat) (pv : Nat → Bool) (M : Nat → la_W) (i : Nat) (w : la_W) : Prop := ∃ fr, fr < i ∧ pv fr = false ∧ w = la_dv q n pv M fr
theorem pX3_becomeDual {σ : ss_S} {q n : Nat} (hF : FrC σ q n) {s s1 : Nat} (hs : isSp s) (hs1 : isSp s1) (hne : s1 ≠ s) {pv1 : Nat → Bool} {M1 : Nat → la_W} (hS1 : SpC σ s1 q n pv1 M1) {post : ss_S → Prop}
    (hp : ∀ (σ' : ss_S) (pv' : Nat → Bool) (M' : Nat → la_W), Oth s σ σ' → SpC σ' s q n pv' M' → (∀ v, la_S q pv' M' v ↔ la_Sp q (la_dG q n pv1 M1 n) v) → post σ') : wX3_becomeDual s s1 σ post := by
  have hq := hF.1
  have h6 := hq.n6
  have h5 := hq.five
  have hq0 := hq.pos
  have hs9 := hs.1
  have far := sp_far hs hs1 (Ne.symm hne)
  have key : ∀ d i, i + d = n → ∀ (σ1 : ss_S) (pv' : Nat → Bool) (M' : Nat → la_W), Oth s σ σ1 → SpC σ1 s q n pv' M' → (∀ v, la_S q pv' M' v ↔ la_Sp q (la_dG q n pv1 M1 i) v) → lX3_becomeDual_6 s s1 post (fun _ σ => post σ) (d + 1) (nI i) σ1 := by
    intro d
    induction d with
    | zero =>
      intro i hi σ1 pv' M' hO hS' hsp
      have hFx := hO.Fr hs hF
      refine And.intro (fun _ => ?_) (fun hc => absurd (by rw [hFx.2.2.1]; exact nI_le (by omega) (by omega)) hc)
      rw [show i = n by omega] at hsp
      exact hp σ1 pv' M' hO hS' hsp
    | succ d ih =>
      intro i hi σ1 pv' M' hO hS' hsp
      have hFx := hO.Fr hs hF
      have hS1x := hO.Sp hs hs1 hne hS1
      refine And.intro (fun hc => absurd hc (by rw [hFx.2.2.1]; exact nI_ge (by omega) (by omega))) (fun _ => ?_)
      refine pX3_isPivot hFx hS1x.2.1 (by omega) ?_
      by_cases hpi : pv1 i = true
      · rw [la_b_t hpi, nI_1]
        refine And.intro (fun _ => ih (i + 1) (by omega) σ1 pv' M' hO hS' (fun v => (hsp v).trans (la_Sp.congr (fun w => ?_) v))) (fun hc => absurd hc i1_0)
        constructor
        · rintro ⟨fr, h1, h2, h3⟩; exact ⟨fr, by omega, h2, h3⟩
        · rintro ⟨fr, h1, h2, h3⟩
          refine ⟨fr, ?_, h2, h3⟩
          rcases Nat.lt_or_ge fr i with x | x
          · exact x
          · rw [show fr = i by omega, hpi] at h2; cases h2
      · have hpf : pv1 i = false := by cases e : pv1 i with
          | false => rfl
          | true => exact absurd e hpi
        rw [la_b_f hpi]
        refine And.intro (fun hc => absurd rfl hc) (fun _ => ?_)
        refine pJ7_fill ?_
        rw [hs.lenFresh]
        refine And.intro (vp_in_nI (by omega) (by omega)) ?_
        rw [nI_clamp (by omega), u2_sA]
        have inner : ∀ e j, j + e = i → ∀ h : Nat → Int32, (∀ c, c < n → h c = nI (if c = i then 1 else if c < j ∧ pv1 c = true then (q - M1 c i) % q else 0)) → lX3_becomeDual_42 s s1 (nI i) post (fun _ σ_7 => wX3_joinFresh s σ_7 (fun σ8 => lX3_becomeDual_6 s s1 post (fun _ σ => post σ) (d + 1) (nI i + 1) σ8)) (e + 1) (nI j) (sA σ1 (s + 2) h) := by
          intro e
          induction e with
          | zero =>
            intro j hj h hh
            have e1 : j = i := by omega
            subst e1
            refine And.intro (fun _ => ?_) (fun hc => absurd (nI_le (Nat.le_refl _) (by omega)) hc)
            have hF1 := hFx.sA (a := s + 2) (by omega) h
            refine pX3_joinFresh hF1 hs (hS'.eq (by rw [sA_ne _ _ (by omega)]) (fun k => by rw [sA_ne _ _ (by omega)])) (la_dv_V hq.two pv1 M1 (show j < n by omega)) (fun c hc => ?_) (fun σ2 pv2 M2 hO2 hS2 hsp2 => ?_)
            · rw [sA_same, hh c hc]
              unfold la_dv
              by_cases e2 : c = j
              · rw [if_pos e2, if_pos e2]
              · rw [if_neg e2, if_neg e2]
                by_cases e3 : pv1 c = true
                · rcases Nat.lt_or_ge c j with x | x
                  · rw [if_pos ⟨x, e3⟩, if_pos ⟨hc, e3⟩]
                  · rw [if_neg (fun hx => absurd hx.1 (by omega)), if_pos ⟨hc, e3⟩, (hS1.1.2 c e3).2.2.1 j (by omega), Nat.sub_zero, Nat.mod_self]
                · rw [if_neg (fun hx => e3 hx.2), if_neg (fun hx => e3 hx.2)]
            · rw [nI_1]
              refine ih (j + 1) (by omega) σ2 pv2 M2 (hO.trans ((Oth.fresh _).trans hO2)) hS2 (fun v => (hsp2 v).trans ((la_up_cong hsp _ v).trans (la_Sp.congr (fun w => ?_) v)))
              constructor
              · rintro (⟨fr, h1, h2, h3⟩ | rfl)
                · exact ⟨fr, by omega, h2, h3⟩
                · exact ⟨j, by omega, hpf, rfl⟩
              · rintro ⟨fr, h1, h2, h3⟩
                rcases Nat.lt_or_ge fr j with x | x
                · exact Or.inl ⟨fr, x, h2, h3⟩
                · rw [show fr = j by omega] at h3; exact Or.inr h3
          | succ e ihe =>
            intro j hj h hh
            have hF1 := hFx.sA (a := s + 2) (by omega) h
            refine And.intro (fun hc => absurd hc (nI_ge (by omega) (by omega))) (fun _ => ?_)
            refine pX3_isPivot (s := s1) (pv := pv1) hF1 (by rw [sA_ne _ _ (by omega)]; exact hS1x.2.1) (by omega) ?_
            by_cases hpj : pv1 j = true
            · rw [la_b_t hpj, nI_1 j]
              refine And.intro (fun hc => absurd hc i1_0) (fun _ => ?_)
              have hMj := (hS1.1.2 j hpj).1.1 i
              rw [nI_m6, nI_add, hs1.lenCells, hs.lenFresh, nI_clamp (by omega), nI_clamp (by omega), hF1.2.1, sA_ne σ1 h (show s1 + 1 ≠ s + 2 by omega), hS1x.2.2 j hpj i (by omega), pk_sub (by omega), pk_rem (by omega) hq0 (by omega), u2_sA]
              refine And.intro (vp_in_nI (by omega) (by omega)) (And.intro (nI_q0 hq0 (by omega)) (And.intro (vp_in_nI (by omega) (by omega)) ?_))
              refine ihe (j + 1) (by omega) _ (fun c hc => ?_)
              by_cases e2 : c = j
              · subst e2
                rw [pk_us, if_neg (by omega), if_pos ⟨by omega, hpj⟩]
              · rw [pk_un e2, hh c hc]
                by_cases e3 : c = i
                · rw [if_pos e3, if_pos e3]
                · rw [if_neg e3, if_neg e3]
                  by_cases e4 : c < j ∧ pv1 c = true
                  · rw [if_pos e4, if_pos ⟨by omega, e4.2⟩]
                  · rw [if_neg e4, if_neg (fun hx => e4 ⟨by omega, hx.2⟩)]
            · rw [la_b_f hpj, nI_1 j]
              refine And.intro (fun _ => ihe (j + 1) (by omega) h (fun c hc => ?_)) (fun hc => absurd rfl hc)
              rw [hh c hc]
              by_cases e3 : c = i
              · rw [if_pos e3, if_pos e3]
              · rw [if_neg e3, if_neg e3]
                by_cases e4 : c < j ∧ pv1 c = true
                · rw [if_pos e4, if_pos ⟨by omega, e4.2⟩]
                · rw [if_neg e4, if_neg (fun hx => by
                    rcases Nat.lt_or_ge c j with y | y
                    · exact e4 ⟨y, hx.2⟩
                    · rw [show c = j by omega] at hx; exact hpj hx.2)]
        refine ⟨i + 1, inner i 0 (by omega) _ (fun c hc => ?_)⟩
        by_cases e3 : c = i
        · subst e3; rw [pk_us, if_pos rfl]; rfl
        · rw [pk_un e3, if_neg e3, if_neg (fun hx => absurd hx.1 (Nat.not_lt_zero _)), fb_put_in (by omega) (by omega)]; rfl
  refine ⟨n + 1, key n 0 (by omega) _ la_no (fun _ => la_z) Oth.zero (SpC.zero _) (la_S_no (fun w ⟨fr, h, _⟩ => absurd h (Nat.not_lt_zero _)))⟩
