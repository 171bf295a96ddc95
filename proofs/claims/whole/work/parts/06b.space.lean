def la_b (pv : Nat → Bool) : la_W := fun p => if pv p = true then 1 else 0
def la_mk (n : Nat) (pv : Nat → Bool) : Nat := la_val 2 (la_b pv) n
theorem la_b_lt (pv : Nat → Bool) (p : Nat) : la_b pv p < 2 := by unfold la_b; split <;> omega
theorem la_mk_lt (n : Nat) (pv : Nat → Bool) : la_mk n pv < 2 ^ n := la_val_lt (fun c _ => la_b_lt pv c)
theorem la_mk_64 {n : Nat} (hn : n ≤ 6) (pv : Nat → Bool) : la_mk n pv < 64 := Nat.lt_of_lt_of_le (la_mk_lt n pv) (Nat.pow_le_pow_right (by omega) hn : 2 ^ n ≤ 2 ^ 6)
theorem la_mk_bit {n p : Nat} (pv : Nat → Bool) (hp : p < n) : la_mk n pv / 2 ^ (n - 1 - p) % 2 = la_b pv p := by
  have e := la_val_pre (q := 2) (v := la_b pv) (n - 1 - p) (p + 1) (fun j _ => la_b_lt pv j)
  rw [show p + 1 + (n - 1 - p) = n by omega] at e
  unfold la_mk
  rw [e]
  show (la_val 2 (la_b pv) p * 2 + la_b pv p) % 2 = _
  have := la_b_lt pv p
  omega
theorem sh_l : ∀ k, k < 32 → ((nI k &&& 31).toBitVec.smod 32).toNat = k := by decide +kernel
theorem nI_m6 (i : Nat) : nI i * 6 = nI (i * 6) := pk_mul i 6
theorem nI_sub1 {n p : Nat} (h : p < n) : nI n - 1 - nI p = nI (n - 1 - p) := by
  rw [show nI n - 1 = nI (n - 1) from pk_sub (b := 1) (by omega), pk_sub (by omega)]
theorem pX3_bit {n p : Nat} (hn : n ≤ 6) (hp : p < n) (pv : Nat → Bool) : (nI (la_mk n pv) >>> ((nI n - 1 - nI p) &&& 31)) &&& 1 = nI (la_b pv p) := by
  have h64 := la_mk_64 hn pv
  rw [nI_sub1 hp, pk_shrN (by omega) _ (n - 1 - p) (sh_l _ (by omega)), pk_andN (Nat.lt_of_le_of_lt (Nat.div_le_self _ _) (by omega)) 1 (by rfl), la_mk_bit pv hp]
theorem pX3_isPivot {σ : ss_S} {q n : Nat} (hF : FrC σ q n) {s : Nat} {pv : Nat → Bool} (hm : σ s 3 = nI (la_mk n pv)) {p : Nat} (hp : p < n) {post : Int32 → ss_S → Prop} (h : post (nI (la_b pv p)) σ) : wX3_isPivot s (nI p) σ post := by
  unfold wX3_isPivot
  rw [hm, hF.2.2.1, pX3_bit hF.1.n6 hp]
  by_cases e : pv p = true
  · have e1 : la_b pv p = 1 := by unfold la_b; rw [if_pos e]
    rw [e1] at h ⊢
    exact And.intro (fun hc => absurd rfl hc) (fun _ => h)
  · have e1 : la_b pv p = 0 := by unfold la_b; rw [if_neg e]
    rw [e1] at h ⊢
    exact And.intro (fun _ => h) (fun hc => absurd hc (by decide))
theorem la_b_t {pv : Nat → Bool} {p : Nat} (e : pv p = true) : nI (la_b pv p) = 1 := by unfold la_b; rw [if_pos e]; rfl
theorem la_b_f {pv : Nat → Bool} {p : Nat} (e : ¬ pv p = true) : nI (la_b pv p) = 0 := by unfold la_b; rw [if_neg e]; rfl
theorem i1_0 : ¬ (1 : Int32) = 0 := by decide
def SpC (σ : ss_S) (s q n : Nat) (pv : Nat → Bool) (M : Nat → la_W) : Prop := la_R q n pv M ∧ σ s 3 = nI (la_mk n pv) ∧ ∀ p, pv p = true → ∀ c, c < n → σ (s + 1) (p * 6 + c) = nI (M p c)
theorem SpC.eq {σ σ' : ss_S} {s q n : Nat} {pv : Nat → Bool} {M : Nat → la_W} (h : SpC σ s q n pv M) (h1 : σ' s 3 = σ s 3) (h2 : ∀ k, σ' (s + 1) k = σ (s + 1) k) : SpC σ' s q n pv M := ⟨h.1, by rw [h1]; exact h.2.1, fun p hp c hc => by rw [h2]; exact h.2.2 p hp c hc⟩
theorem pX3_reduceFresh {σ : ss_S} {q n : Nat} (hF : FrC σ q n) {s : Nat} (hs : isSp s) {pv : Nat → Bool} {M : Nat → la_W} (hS : SpC σ s q n pv M) {g : la_W} (hg : la_V q n g) (hgσ : ∀ c, c < n → σ (s + 2) c = nI (g c)) {post : ss_S → Prop}
    (hp : ∀ (h : Nat → Int32) (g' : la_W), la_V q n g' → (∀ c, c < n → h c = nI (g' c)) → (∀ p, pv p = true → g' p = 0) → (∀ v, la_Sp q (la_up (la_G pv M) g') v ↔ la_Sp q (la_up (la_G pv M) g) v) → post (sA σ (s + 2) h)) : wX3_reduceFresh s σ post := by
  have hq := hF.1
  have h6 := hq.n6
  have h5 := hq.five
  have hq0 := hq.pos
  have hs9 := hs.1
  obtain ⟨hR, hm, hM⟩ := hS
  have key : ∀ d i, i + d = n → ∀ (h : Nat → Int32) (g' : la_W), la_V q n g' → (∀ c, c < n → h c = nI (g' c)) → (∀ p, p < i → pv p = true → g' p = 0) → (∀ v, la_Sp q (la_up (la_G pv M) g') v ↔ la_Sp q (la_up (la_G pv M) g) v) → ∃ f, lX3_reduceFresh_2 s post (fun _ σ => post σ) f (nI i) (sA σ (s + 2) h) := by
    intro d
    induction d with
    | zero =>
      intro i hi h g' hV hh hz hsp
      refine ⟨0 + 1, And.intro (fun _ => ?_) (fun hc => absurd (by rw [sA_ne _ _ (by omega), hF.2.2.1]; exact nI_le (by omega) (by omega)) hc)⟩
      exact hp h g' hV hh (fun p hpv => hz p (by have := hR.1 p hpv; omega) hpv) hsp
    | succ d ih =>
      intro i hi h g' hV hh hz hsp
      have hF1 : FrC (sA σ (s + 2) h) q n := hF.sA (by omega) h
      have hm1 : sA σ (s + 2) h s 3 = nI (la_mk n pv) := by rw [sA_ne _ _ (by omega)]; exact hm
      have hgi := hV.1 i
      by_cases h0 : g' i = 0
      · obtain ⟨f, hf⟩ := ih (i + 1) (by omega) h g' hV hh (fun p hpi hpv => by
          rcases Nat.lt_or_ge p i with a | a
          · exact hz p a hpv
          · rw [show p = i by omega]; exact h0) hsp
        refine ⟨f + 1, And.intro (fun hc => absurd hc (by rw [hF1.2.2.1]; exact nI_ge (by omega) (by omega))) (fun _ => ?_)⟩
        refine And.intro (by rw [hs.lenFresh]; exact vp_in_nI (by omega) (by omega)) ?_
        rw [sA_same, nI_clamp (by omega), hh i (by omega), h0, nI_1]
        exact And.intro (fun _ => hf) (fun hc => absurd rfl hc)
      · by_cases hpi : pv i = true
        · obtain ⟨hVi, h1i, hzi, hdi⟩ := hR.2 i hpi
          obtain ⟨f, hf⟩ := ih (i + 1) (by omega) (fb_put h (fun c => nI (la_ad q g' (M i) (q - g' i) c)) 0 n) (la_ad q g' (M i) (q - g' i)) (hV.ad hq0 hVi _) (fun c hc => by rw [fb_put_in (by omega) (by omega), Nat.sub_zero]) (fun p hpl hpv => by
              rcases Nat.lt_or_ge p i with a | a
              · simp only [la_ad]
                rw [hz p a hpv, hdi p hpv (by omega), Nat.mul_zero]; rfl
              · rw [show p = i by omega]
                simp only [la_ad]
                rw [h1i, Nat.mul_one, Nat.add_sub_cancel' (by omega), Nat.mod_self]) (fun v => (la_up_ad (n := n) hV.1 (la_Sp.gen ⟨i, hpi, rfl⟩) (Nat.sub_le _ _) v).trans (hsp v))
          refine ⟨f + 1, And.intro (fun hc => absurd hc (by rw [hF1.2.2.1]; exact nI_ge (by omega) (by omega))) (fun _ => ?_)⟩
          refine And.intro (by rw [hs.lenFresh]; exact vp_in_nI (by omega) (by omega)) ?_
          rw [sA_same, nI_clamp (by omega), hh i (by omega), nI_1]
          refine And.intro (fun hc => absurd hc (nI_ne0 (by omega) (by omega))) (fun _ => ?_)
          refine pX3_isPivot hF1 hm1 (by omega) ?_
          rw [la_b_t hpi]
          refine And.intro (fun hc => absurd hc i1_0) (fun _ => ?_)
          refine And.intro (by rw [hs.lenFresh]; exact vp_in_nI (by omega) (by omega)) ?_
          rw [sA_same, hh i (by omega), hF1.2.1, pk_sub (by omega), nI_m6]
          refine pX0_addMultiple (o := 0) (r := i * 6) (v := g') (w := M i) hF1 (by omega) (by rw [hs.lenFresh]; omega) (by rw [hs.lenCells]; omega) (fun c hc => by rw [sA_same, Nat.zero_add]; exact hh c hc) (fun c hc => by rw [sA_ne _ _ (by omega)]; exact hM i hpi c hc) hV.1 hVi.1 (Nat.sub_le _ _) (Or.inl (by omega)) ?_
          rw [sA_sA, sA_same]
          exact hf
        · obtain ⟨f, hf⟩ := ih (i + 1) (by omega) h g' hV hh (fun p hpl hpv => by
            rcases Nat.lt_or_ge p i with a | a
            · exact hz p a hpv
            · rw [show p = i by omega] at hpv; exact absurd hpv hpi) hsp
          refine ⟨f + 1, And.intro (fun hc => absurd hc (by rw [hF1.2.2.1]; exact nI_ge (by omega) (by omega))) (fun _ => ?_)⟩
          refine And.intro (by rw [hs.lenFresh]; exact vp_in_nI (by omega) (by omega)) ?_
          rw [sA_same, nI_clamp (by omega), hh i (by omega), nI_1]
          refine And.intro (fun hc => absurd hc (nI_ne0 (by omega) (by omega))) (fun _ => ?_)
          refine pX3_isPivot hF1 hm1 (by omega) ?_
          rw [la_b_f hpi]
          exact And.intro (fun _ => hf) (fun hc => absurd rfl hc)
  have := key n 0 (by omega) (σ (s + 2)) g hg hgσ (fun p hpl => absurd hpl (Nat.not_lt_zero _)) (fun v => Iff.rfl)
  rw [sA_id] at this
  exact this
