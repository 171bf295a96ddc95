theorem la_up_cong {q : Nat} {G K : la_W → Prop} (h : ∀ v, la_Sp q G v ↔ la_Sp q K v) (g v : la_W) : la_Sp q (la_up G g) v ↔ la_Sp q (la_up K g) v := by
  have aux : ∀ {G K : la_W → Prop}, (∀ v, la_Sp q G v → la_Sp q K v) → ∀ w, la_up G g w → la_Sp q (la_up K g) w := by
    intro G K h w hw
    rcases hw with hw | rfl
    · exact (h w (la_Sp.gen hw)).le (fun y hy => la_Sp.gen (Or.inl hy))
    · exact la_Sp.gen (Or.inr rfl)
  exact la_Sp.iff (aux (fun v => (h v).mp)) (aux (fun v => (h v).mpr)) v
theorem la_mk_tb {n i : Nat} (pv : Nat → Bool) : (la_mk n pv).testBit i = (decide (i < n) && pv (n - 1 - i)) := by
  by_cases hi : i < n
  · rw [Nat.testBit_eq_decide_div_mod_eq]
    have e := la_mk_bit (n := n) (p := n - 1 - i) pv (by omega)
    rw [show n - 1 - (n - 1 - i) = i by omega] at e
    rw [e]
    unfold la_b
    cases pv (n - 1 - i) <;> simp [hi]
  · rw [Nat.testBit_lt_two_pow (Nat.lt_of_lt_of_le (la_mk_lt n pv) (Nat.pow_le_pow_right (by omega) (by omega)))]
    simp [hi]
theorem la_mk_or {n a : Nat} (pv : Nat → Bool) (ha : a < n) : la_mk n pv ||| 2 ^ (n - 1 - a) = la_mk n (la_jp pv a) := by
  apply Nat.eq_of_testBit_eq
  intro i
  rw [fb_bit_set, la_mk_tb, la_mk_tb]
  unfold la_jp
  by_cases hi : i < n
  · by_cases e : i = n - 1 - a
    · rw [if_pos (by omega)]; simp [e]; omega
    · rw [if_neg (by omega)]; simp [e]
  · simp [hi]; omega
theorem la_mk_or32 {n a : Nat} (hn : n ≤ 6) (pv : Nat → Bool) (ha : a < n) : nI (la_mk n pv) ||| (1 <<< ((nI n - 1 - nI a) &&& 31)) = nI (la_mk n (la_jp pv a)) := by
  have hb : 2 ^ (n - 1 - a) ≤ 2 ^ 5 := Nat.pow_le_pow_right (by omega) (by omega)
  have e : (1 : Int32) <<< ((nI n - 1 - nI a) &&& 31) = nI (1 * 2 ^ (n - 1 - a)) := by
    rw [nI_sub1 ha]
    exact pk_shlN (n := 1) _ (n - 1 - a) (sh_l _ (by omega)) (by omega)
  rw [e, fa_or, Nat.one_mul, la_mk_or pv ha]
theorem pX3_takeRow {σ : ss_S} {q n : Nat} (hF : FrC σ q n) {s : Nat} (hs : isSp s) {pv : Nat → Bool} (hm : σ s 3 = nI (la_mk n pv)) {g : la_W} (hg : la_V q n g) (hgσ : ∀ c, c < n → σ (s + 2) c = nI (g c)) {a k : Nat} (ha : a < n) (hk : k < q) {post : ss_S → Prop}
    (hp : post (u2 (sA σ (s + 1) (fb_put (σ (s + 1)) (fun c => nI (la_sc q g k c)) (a * 6) n)) s 3 (nI (la_mk n (la_jp pv a))))) : wX3_takeRow s (nI a) (nI k) σ post := by
  have hq := hF.1
  have h6 := hq.n6
  have h5 := hq.five
  have hq0 := hq.pos
  have hs9 := hs.1
  have key : ∀ d i, i + d = n → ∃ f, lX3_takeRow_2 s (nI a) (nI k) post (fun _ σ_1 => post (u2 σ_1 s 3 ((σ_1 s 3) ||| (1 <<< ((((σ_1 1 1) - 1) - nI a) &&& 31))))) f (nI i) (sA σ (s + 1) (fb_put (σ (s + 1)) (fun c => nI (la_sc q g k c)) (a * 6) i)) := by
    intro d
    induction d with
    | zero =>
      intro i hi
      refine ⟨0 + 1, And.intro (fun _ => ?_) (fun hc => absurd (by rw [sA_ne _ _ (by omega), hF.2.2.1]; exact nI_le (by omega) (by omega)) hc)⟩
      dsimp only
      rw [show i = n by omega, sA_ne σ _ (show s ≠ s + 1 by omega), hm, sA_ne σ _ (show 1 ≠ s + 1 by omega), hF.2.2.1, la_mk_or32 h6 pv ha]
      exact hp
    | succ d ih =>
      intro i hi
      obtain ⟨f, hf⟩ := ih (i + 1) (by omega)
      refine ⟨f + 1, And.intro (fun hc => absurd hc (by rw [sA_ne _ _ (by omega), hF.2.2.1]; exact nI_ge (by omega) (by omega))) (fun _ => ?_)⟩
      refine And.intro (by rw [hs.lenFresh]; exact vp_in_nI (by omega) (by omega)) ?_
      rw [sA_ne _ _ (by omega), sA_ne _ _ (by omega), hF.2.1, nI_clamp (by omega), hgσ i (by omega)]
      refine And.intro (nI_q0 hq0 (by omega)) ?_
      rw [nI_m6, nI_add]
      refine And.intro (by rw [hs.lenCells]; exact vp_in_nI (by omega) (by omega)) ?_
      have hb1 : k * g i ≤ 5 * 5 := Nat.mul_le_mul (by omega) (by have := hg.1 i; omega)
      rw [nI_clamp (by omega), pk_mul, pk_rem (by omega) hq0 (by omega), u2_sA, nI_1]
      have e8 : upd (fb_put (σ (s + 1)) (fun c => nI (la_sc q g k c)) (a * 6) i) (a * 6 + i) (nI (la_sc q g k i)) = fb_put (σ (s + 1)) (fun c => nI (la_sc q g k c)) (a * 6) (i + 1) := fb_put_succ _ _ _ _
      rw [← la_sc_at, e8]
      exact hf
  have := key n 0 (by omega)
  rw [fb_put_0, sA_id] at this
  exact this
def Oth (s : Nat) (σ σ' : ss_S) : Prop := ∀ i, i ≠ s → i ≠ s + 1 → i ≠ s + 2 → σ' i = σ i
theorem Oth.rf {s : Nat} {σ : ss_S} : Oth s σ σ := fun _ _ _ _ => rfl
theorem Oth.trans {s : Nat} {σ σ' σ'' : ss_S} (h : Oth s σ σ') (h' : Oth s σ' σ'') : Oth s σ σ'' := fun i a b c => (h' i a b c).trans (h i a b c)
theorem Oth.fresh {s : Nat} {σ : ss_S} (h : Nat → Int32) : Oth s σ (sA σ (s + 2) h) := fun i _ _ c => sA_ne _ _ c
theorem Oth.Fr {s q n : Nat} {σ σ' : ss_S} (hs : isSp s) (h : Oth s σ σ') (hF : FrC σ q n) : FrC σ' q n := by
  have := hs.1
  have e := h 1 (by omega) (by omega) (by omega)
  obtain ⟨a, b, c, d⟩ := hF
  exact ⟨a, by rw [e]; exact b, by rw [e]; exact c, by rw [e]; exact d⟩
theorem Oth.Sp {s s' q n : Nat} {σ σ' : ss_S} {pv : Nat → Bool} {M : Nat → la_W} (hs : isSp s) (hs' : isSp s') (hne : s' ≠ s) (h : Oth s σ σ') (hS : SpC σ s' q n pv M) : SpC σ' s' q n pv M := by
  obtain ⟨a1, a2, a3⟩ := hs
  obtain ⟨b1, b2, b3⟩ := hs'
  exact hS.eq (by rw [h s' (by omega) (by omega) (by omega)]) (fun k => by rw [h (s' + 1) (by omega) (by omega) (by omega)])
theorem pX3_joinFresh {σ : ss_S} {q n : Nat} (hF : FrC σ q n) {s : Nat} (hs : isSp s) {pv : Nat → Bool} {M : Nat → la_W} (hS : SpC σ s q n pv M) {g : la_W} (hg : la_V q n g) (hgσ : ∀ c, c < n → σ (s + 2) c = nI (g c)) {post : ss_S → Prop}
    (hp : ∀ (σ' : ss_S) (pv' : Nat → Bool) (M' : Nat → la_W), Oth s σ σ' → SpC σ' s q n pv' M' → (∀ v, la_S q pv' M' v ↔ la_Sp q (la_up (la_G pv M) g) v) → post σ') : wX3_joinFresh s σ post := by
  have hq := hF.1
  have h6 := hq.n6
  have h5 := hq.five
  have hq0 := hq.pos
  have hs9 := hs.1
  unfold wX3_joinFresh
  refine pX3_reduceFresh hF hs hS hg hgσ (fun h g' hV hh hz hsp => ?_)
  have hF1 : FrC (sA σ (s + 2) h) q n := hF.sA (by omega) h
  obtain ⟨a, han, hza, hna⟩ : ∃ a, a ≤ n ∧ (∀ c, c < a → g' c = 0) ∧ (a < n → g' a ≠ 0) := by
    by_cases hex : ∃ i, i < n ∧ g' i ≠ 0
    · obtain ⟨i, hi, hne, hlt⟩ := fb_first (p := fun i => g' i ≠ 0) hex
      exact ⟨i, by omega, fun c hc => Classical.byContradiction fun hn => hlt c hc hn, fun _ => hne⟩
    · exact ⟨n, Nat.le_refl n, fun c hc => Classical.byContradiction fun hn => hex ⟨c, hc, hn⟩, fun hc => absurd hc (Nat.lt_irrefl n)⟩
  have key : ∀ (K : Int32 → ss_S → Prop), K (nI a) (sA σ (s + 2) h) → ∀ d i, i + d = a → ∃ f, lX3_joinFresh_6 s post K f (nI i) (sA σ (s + 2) h) := by
    intro K hK d
    induction d with
    | zero =>
      intro i hi
      have e : i = a := by omega
      subst e
      refine ⟨0 + 1, And.intro (fun _ => hK) (fun hc => ?_)⟩
      rw [hF1.2.2.1] at hc
      have hlt : i < n := by
        rcases Nat.lt_or_ge i n with x | x
        · exact x
        · exact absurd (nI_le x (by omega)) hc
      refine And.intro (by rw [hs.lenFresh]; exact vp_in_nI (by omega) (by omega)) ?_
      rw [sA_same, nI_clamp (by omega), hh i hlt]
      have := hna hlt
      have := hV.1 i
      exact And.intro (fun _ => hK) (fun hc => absurd hc (nI_ne0 (by omega) (by omega)))
    | succ d ih =>
      intro i hi
      obtain ⟨f, hf⟩ := ih (i + 1) (by omega)
      refine ⟨f + 1, And.intro (fun hc => absurd hc (by rw [hF1.2.2.1]; exact nI_ge (by omega) (by omega))) (fun _ => ?_)⟩
      refine And.intro (by rw [hs.lenFresh]; exact vp_in_nI (by omega) (by omega)) ?_
      rw [sA_same, nI_clamp (by omega), hh i (by omega), hza i (by omega), nI_1]
      exact And.intro (fun hc => absurd rfl hc) (fun _ => hf)
  refine key _ ?_ a 0 (by omega)
  rw [hF1.2.2.1]
  rcases Nat.lt_or_ge a n with hlt | hge
  · refine And.intro (fun _ => ?_) (fun hc => absurd ((nI_eq (by omega) (by omega)).mp hc) (by omega))
    have hna' := hna hlt
    have hgq := hV.1 a
    refine And.intro (by rw [hs.lenFresh]; exact vp_in_nI (by omega) (by omega)) ?_
    rw [sA_same, nI_clamp (by omega), hh a hlt]
    refine pX0_inverse hF1 hgq ?_
    have hkq : g' a * g' a * g' a % q < q := Nat.mod_lt _ hq0
    have hinv := la_inv hq (show 0 < g' a by omega) hgq
    generalize g' a * g' a * g' a % q = k at hkq hinv ⊢
    refine pX3_takeRow (pv := pv) hF1 hs (by rw [sA_ne _ _ (by omega)]; exact hS.2.1) hV (fun c hc => by rw [sA_same]; exact hh c hc) hlt hkq ?_
    have hNV : la_V q n (la_sc q g' k) := hV.sc hq0 k
    have hNa : la_sc q g' k a = 1 := by rw [la_sc_at, Nat.mul_comm]; exact hinv
    have hN0 : ∀ c, c < a → la_sc q g' k c = 0 := fun c hc => by rw [la_sc_at, hza c hc, Nat.mul_zero]; rfl
    have hNp : ∀ p, pv p = true → la_sc q g' k p = 0 := fun p hp => by rw [la_sc_at, hz p hp, Nat.mul_zero]; rfl
    have hR' := la_join_R hq.two hS.1 hlt hNV hNa hN0 hNp
    have hSp : ∀ v, la_S q (la_jp pv a) (la_jM q M (la_sc q g' k) a) v ↔ la_Sp q (la_up (la_G pv M) g) v := fun v => ((la_join_S hq.two hS.1 hNa hNp v).trans (la_up_sc hV.1 hinv v)).trans (hsp v)
    have hpa : ¬ pv a = true := fun hc => by rw [hNp a hc] at hNa; cases hNa
    generalize la_sc q g' k = N at hNV hNa hN0 hNp hR' hSp ⊢
    rw [sA_ne σ h (show s + 1 ≠ s + 2 by omega)]
    have loop : ∀ d i, i + d = a → ∀ σ1 : ss_S, Oth s σ σ1 → σ1 s 3 = nI (la_mk n (la_jp pv a)) → (∀ p, la_jp pv a p = true → p < i → ∀ c, c < n → σ1 (s + 1) (p * 6 + c) = nI (la_jM q M N a p c)) → (∀ p, pv p = true → i ≤ p → ∀ c, c < n → σ1 (s + 1) (p * 6 + c) = nI (M p c)) → (∀ c, c < n → σ1 (s + 1) (a * 6 + c) = nI (N c)) → ∃ f, lX3_joinFresh_64 s (nI a) post (fun _ σ => post σ) f (nI i) σ1 := by
      intro d
      induction d with
      | zero =>
        intro i hi σ1 hO hm1 hlo hhi hNr
        have e : i = a := by omega
        subst e
        refine ⟨0 + 1, And.intro (fun _ => ?_) (fun hc => absurd (nI_le (Nat.le_refl _) (by omega)) hc)⟩
        refine hp σ1 _ _ hO ⟨hR', hm1, fun p hpp c hc => ?_⟩ hSp
        rcases Nat.lt_trichotomy p i with x | x | x
        · exact hlo p hpp x c hc
        · subst x
          rw [hNr c hc]; simp [la_jM]
        · have hp0 : pv p = true := by unfold la_jp at hpp; rwa [if_neg (by omega)] at hpp
          rw [hhi p hp0 (by omega) c hc]
          simp only [la_jM]
          rw [if_neg (by omega), if_neg (by omega)]
      | succ d ih =>
        intro i hi σ1 hO hm1 hlo hhi hNr
        have hFx : FrC σ1 q n := hO.Fr hs hF
        have hin : vp_in (nI i * 6 + nI a) (lenC (s + 1)) := by rw [nI_m6, nI_add, hs.lenCells]; exact vp_in_nI (by omega) (by omega)
        by_cases hpi : pv i = true
        · obtain ⟨hVi, h1i, hzi, hdi⟩ := hS.1.2 i hpi
          have hia := hVi.1 a
          have ecell : σ1 (s + 1) (Int32.toNatClampNeg (nI i * 6 + nI a)) = nI (M i a) := by
            rw [nI_m6, nI_add, nI_clamp (by omega)]; exact hhi i hpi (Nat.le_refl _) a hlt
          have hjpi : la_jp pv a i = true := by unfold la_jp; rw [if_neg (by omega)]; exact hpi
          by_cases h0 : M i a = 0
          · obtain ⟨f, hf⟩ := ih (i + 1) (by omega) σ1 hO hm1 (fun p hpp hpl c hc => by
                rcases Nat.lt_or_ge p i with x | x
                · exact hlo p hpp x c hc
                · have e : p = i := by omega
                  subst e
                  rw [hhi p hpi (Nat.le_refl _) c hc]
                  simp only [la_jM]
                  rw [if_neg (by omega), if_pos (by omega), h0, Nat.sub_zero, la_ad_q hVi.1]) (fun p hpp hpl => hhi p hpp (by omega)) hNr
            refine ⟨f + 1, And.intro (fun hc => absurd hc (nI_ge (by omega) (by omega))) (fun _ => And.intro hin ?_)⟩
            refine pX3_isPivot (pv := la_jp pv a) hFx hm1 (by omega) ?_
            rw [la_b_t hjpi]
            refine And.intro (fun hc => absurd hc i1_0) (fun _ => ?_)
            rw [ecell, h0, nI_1]
            exact And.intro (fun _ => hf) (fun hc => absurd rfl hc)
          · obtain ⟨f, hf⟩ := ih (i + 1) (by omega) (sA σ1 (s + 1) (fb_put (σ1 (s + 1)) (fun c => nI (la_ad q (M i) N (q - M i a) c)) (i * 6) n)) (fun j j1 j2 j3 => by rw [sA_ne _ _ j2]; exact hO j j1 j2 j3) (by rw [sA_ne _ _ (by omega)]; exact hm1) (fun p hpp hpl c hc => by
                rw [sA_same]
                rcases Nat.lt_or_ge p i with x | x
                · rw [fb_put_out (by omega)]; exact hlo p hpp x c hc
                · have e : p = i := by omega
                  subst e
                  rw [fb_put_in (by omega) (by omega), Nat.add_sub_cancel_left]
                  simp only [la_jM]
                  rw [if_neg (by omega), if_pos (by omega)]) (fun p hpp hpl c hc => by
                rw [sA_same, fb_put_out (by omega)]; exact hhi p hpp (by omega) c hc) (fun c hc => by
                rw [sA_same, fb_put_out (by omega)]; exact hNr c hc)
            refine ⟨f + 1, And.intro (fun hc => absurd hc (nI_ge (by omega) (by omega))) (fun _ => And.intro hin ?_)⟩
            refine pX3_isPivot (pv := la_jp pv a) hFx hm1 (by omega) ?_
            rw [la_b_t hjpi]
            refine And.intro (fun hc => absurd hc i1_0) (fun _ => ?_)
            rw [ecell, nI_1, hFx.2.1, pk_sub (by omega), nI_m6, nI_m6]
            refine And.intro (fun hc => absurd hc (nI_ne0 (by omega) (by omega))) (fun _ => ?_)
            exact pX0_addMultiple (v := M i) (w := N) hFx (by omega) (by rw [hs.lenCells]; omega) (by rw [hs.lenCells]; omega) (fun c hc => hhi i hpi (Nat.le_refl _) c hc) hNr hVi.1 hNV.1 (Nat.sub_le _ _) (Or.inr (by omega)) hf
        · have hjpi : ¬ la_jp pv a i = true := by unfold la_jp; rw [if_neg (by omega)]; exact hpi
          obtain ⟨f, hf⟩ := ih (i + 1) (by omega) σ1 hO hm1 (fun p hpp hpl c hc => by
                rcases Nat.lt_or_ge p i with x | x
                · exact hlo p hpp x c hc
                · have e : p = i := by omega
                  subst e
                  exact absurd hpp hjpi) (fun p hpp hpl => hhi p hpp (by omega)) hNr
          refine ⟨f + 1, And.intro (fun hc => absurd hc (nI_ge (by omega) (by omega))) (fun _ => And.intro hin ?_)⟩
          refine pX3_isPivot (pv := la_jp pv a) hFx hm1 (by omega) ?_
          rw [la_b_f hjpi, nI_1]
          exact And.intro (fun _ => hf) (fun hc => absurd rfl hc)
    refine loop a 0 (by omega) _ (fun j j1 j2 j3 => ?_) ?_ (fun p hpp hpl => absurd hpl (Nat.not_lt_zero _)) (fun p hpp hpl c hc => ?_) (fun c hc => ?_)
    · rw [u2_ne _ _ _ j1, sA_ne _ _ j2, sA_ne _ _ j3]
    · rw [u2_at]; exact pk_us
    · have hpne : p ≠ a := fun e => hpa (e ▸ hpp)
      rw [u2_ne _ _ _ (by omega), sA_same, fb_put_out (by omega)]; exact hS.2.2 p hpp c hc
    · rw [u2_ne _ _ _ (by omega), sA_same, fb_put_in (by omega) (by omega), Nat.add_sub_cancel_left]
  · have e : a = n := by omega
    subst e
    refine And.intro (fun hc => absurd rfl hc) (fun _ => ?_)
    have hgz : g' = la_z := by
      funext c
      rcases Nat.lt_or_ge c a with x | x
      · exact hza c x
      · exact hV.2 c x
    refine hp _ pv M (Oth.fresh h) (hS.eq (by rw [sA_ne _ _ (by omega)]) (fun k => by rw [sA_ne _ _ (by omega)])) (fun v => ?_)
    rw [hgz] at hsp
    exact (la_up_z v).symm.trans (hsp v)
