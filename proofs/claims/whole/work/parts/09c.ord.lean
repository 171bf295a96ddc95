theorem zf_n (n : Nat) (pv : Nat → Bool) : zf n pv n = 0 := Nat.sub_self _
theorem zf_s {n c : Nat} (pv : Nat → Bool) (hc : c < n) : zf n pv c = zf n pv (c + 1) + (if pv c = true then 0 else 1) := by
  unfold zf
  have h1 := fb_ct_succ (fun j => !pv j) c
  have h2 := fb_ct_mono (fun j => !pv j) (show c + 1 ≤ n by omega)
  by_cases e : pv c = true
  · simp only [e, Bool.not_true, if_pos] at h1 ⊢
    simp at h1
    omega
  · have e' := pvf e
    simp only [e', Bool.not_false, if_pos] at h1 ⊢
    simp at h1 ⊢
    omega
theorem Af_n (n : Nat) (pv : Nat → Bool) : Af n pv n = 0 := Nat.sub_self _
theorem Af_s {n p : Nat} (pv : Nat → Bool) (hp : p < n) : Af n pv p = Af n pv (p + 1) + (if pv p = true then zf n pv (p + 1) else 0) := by
  unfold Af
  have h1 := fb_sm_succ (fun j => if pv j = true then zf n pv (j + 1) else 0) p
  have h2 := fb_sm_mono (fun j => if pv j = true then zf n pv (j + 1) else 0) (p + 1) (n - (p + 1))
  rw [show p + 1 + (n - (p + 1)) = n by omega] at h2
  omega
def Dg (q n : Nat) (pv : Nat → Bool) (r p c : Nat) : Nat := r / q ^ (Af n pv (p + 1) + zf n pv (c + 1)) % q
def Ms (q n : Nat) (pv : Nat → Bool) (r : Nat) : Nat → la_W := fun p c => if c = p then 1 else if p < c ∧ c < n ∧ pv c = false then Dg q n pv r p c else 0
theorem Ms_R {q n : Nat} (hq : 1 < q) {pv : Nat → Bool} (hpv : ∀ p, pv p = true → p < n) (r : Nat) : la_R q n pv (Ms q n pv r) := by
  refine ⟨hpv, fun p hp => ⟨⟨fun c => ?_, fun c hc => ?_⟩, ?_, fun c hc => ?_, fun p' hp' hne => ?_⟩⟩
  · unfold Ms
    split
    · exact hq
    · split
      · exact Nat.mod_lt _ (by omega)
      · omega
  · have := hpv p hp
    unfold Ms
    rw [if_neg (by omega), if_neg (by omega)]
  · unfold Ms; rw [if_pos rfl]
  · unfold Ms; rw [if_neg (by omega), if_neg (by omega)]
  · unfold Ms; rw [if_neg hne, if_neg (fun h => by rw [hp'] at h; cases h.2.2)]
theorem nI_p1 {P : Nat} (h : 1 ≤ P) : nI P - 1 = nI (P - 1) := nI_m1 h
theorem dec1 (P : Nat) : nI P + (-1) = nI P - 1 := by rw [Int32.sub_eq_add_neg]
theorem m1lt : nI 0 - 1 < 0 := by decide
theorem pX3_fillCells {σ : ss_S} {q n : Nat} (hF : FrC σ q n) {s : Nat} (hs : isSp s) {pv : Nat → Bool} (hpv : ∀ p, pv p = true → p < n) (hm : σ s 3 = nI (la_mk n pv)) {r : Nat} (hr : r < 2 ^ 31) {post : ss_S → Prop} (hp : ∀ h : Nat → Int32, (∀ p, pv p = true → ∀ c, c < n → h (p * 6 + c) = nI (Ms q n pv r p c)) → post (sA σ (s + 1) h)) : wX3_fillCells s (nI r) σ post := by
  have hq := hF.1
  have h6 := hq.n6
  have h5 := hq.five
  have hq0 := hq.pos
  have hs9 := hs.1
  have hdiv : ∀ e, r / q ^ e < 2 ^ 31 := fun e => Nat.lt_of_le_of_lt (Nat.div_le_self _ _) hr
  refine pJ7_fill ?_
  rw [hs.lenCells]
  have hF1 : ∀ h, FrC (sA σ (s + 1) h) q n := fun h => hF.sA (by omega) h
  have hm1 : ∀ h, sA σ (s + 1) h s 3 = nI (la_mk n pv) := fun h => by rw [sA_ne _ _ (by omega)]; exact hm
  have inner : ∀ (K : Int32 → Int32 → ss_S → Prop) (p : Nat), pv p = true → p < n → ∀ h0 : Nat → Int32, (∀ h : Nat → Int32, (∀ j, (j < p * 6 ∨ p * 6 + n ≤ j) → h j = h0 j) → (∀ c, c < n → h (p * 6 + c) = nI (Ms q n pv r p c)) → ∀ y, K (nI (r / q ^ (Af n pv (p + 1) + zf n pv (p + 1)))) y (sA σ (s + 1) h)) → ∀ d C, C = p + 1 + d → C ≤ n → ∀ h : Nat → Int32, (∀ j, (j < p * 6 ∨ p * 6 + n ≤ j) → h j = h0 j) → (∀ c, c < n → h (p * 6 + c) = nI (if c = p ∨ C ≤ c then Ms q n pv r p c else 0)) → lX3_fillCells_55 s (nI p) post K (d + 1) (nI (r / q ^ (Af n pv (p + 1) + zf n pv C))) (nI C - 1) (sA σ (s + 1) h) := by
    intro K p hpp hpn h0 hK d
    induction d with
    | zero =>
      intro C hC hCn h hh1 hh2
      have eC : C = p + 1 := by omega
      subst eC
      rw [nI_p1 (by omega), Nat.add_sub_cancel]
      refine And.intro (fun _ => ?_) (fun hc => absurd (nI_le (Nat.le_refl _) (by omega)) hc)
      refine hK h hh1 (fun c hc => ?_) _
      rw [hh2 c hc]
      by_cases h1 : c = p ∨ p + 1 ≤ c
      · rw [if_pos h1]
      · rw [if_neg h1]
        unfold Ms
        rw [if_neg (by omega), if_neg (by omega)]
    | succ d ih =>
      intro C hC hCn h hh1 hh2
      obtain ⟨c, rfl⟩ : ∃ c, C = c + 1 := ⟨C - 1, by omega⟩
      rw [nI_p1 (by omega), Nat.add_sub_cancel]
      refine And.intro (fun hc => absurd hc (nI_ge (by omega) (by omega))) (fun _ => ?_)
      refine pX3_isPivot (hF1 h) (hm1 h) (by omega) ?_
      have hz := zf_s pv (show c < n by omega)
      rw [dec1]
      by_cases hpc : pv c = true
      · rw [if_pos hpc, Nat.add_zero] at hz
        rw [la_b_t hpc, ← hz]
        refine rb1 (ih c (by omega) (by omega) h hh1 (fun c' hc' => ?_))
        rw [hh2 c' hc']
        by_cases h1 : c' = p ∨ c + 1 ≤ c'
        · rw [if_pos h1, if_pos (by omega)]
        · rw [if_neg h1]
          by_cases h2 : c' = p ∨ c ≤ c'
          · rw [if_pos h2]
            have e : c' = c := by omega
            subst e
            unfold Ms
            rw [if_neg (by omega), if_neg (fun h => by rw [hpc] at h; cases h.2.2)]
          · rw [if_neg h2]
      · rw [if_neg hpc] at hz
        rw [la_b_f hpc, (hF1 h).2.1, nI_m6, nI_add, nI_clamp (by omega), u2_sA]
        refine rb0 (And.intro (nI_q0 hq0 (by omega)) (And.intro (by rw [hs.lenCells]; exact vp_in_nI (by omega) (by omega)) ?_))
        rw [(hF1 _).2.1, pk_rem (hdiv _) hq0 (by omega), pk_div (hdiv _) hq0 (by omega), Nat.div_div_eq_div_mul, ← Nat.pow_succ]
        refine And.intro (nI_q0 hq0 (by omega)) ?_
        rw [show (Af n pv (p + 1) + zf n pv (c + 1)).succ = Af n pv (p + 1) + zf n pv c by omega]
        refine ih c (by omega) (by omega) _ (fun j hj => by rw [pk_un (by omega)]; exact hh1 j hj) (fun c' hc' => ?_)
        by_cases e : c' = c
        · subst e
          rw [pk_us, if_pos (Or.inr (Nat.le_refl _))]
          unfold Ms
          rw [if_neg (by omega), if_pos ⟨by omega, hc', pvf hpc⟩]; rfl
        · rw [pk_un (by omega), hh2 c' hc']
          by_cases h1 : c' = p ∨ c + 1 ≤ c'
          · rw [if_pos h1, if_pos (by omega)]
          · rw [if_neg h1, if_neg (by omega)]
  have outer : ∀ P, P ≤ n → ∀ h : Nat → Int32, (∀ p, p < P → ∀ c, c < n → h (p * 6 + c) = 0) → (∀ p, P ≤ p → pv p = true → ∀ c, c < n → h (p * 6 + c) = nI (Ms q n pv r p c)) → lX3_fillCells_20 s post (fun _ _ σ_7 => post σ_7) (P + 1) (nI (r / q ^ Af n pv P)) (nI P - 1) (sA σ (s + 1) h) := by
    intro P
    induction P with
    | zero =>
      intro _ h h1 h2
      exact And.intro (fun _ => hp h (fun p hpp => h2 p (by omega) hpp)) (fun hc => absurd m1lt hc)
    | succ P ih =>
      intro hP h h1 h2
      rw [nI_p1 (by omega), Nat.add_sub_cancel]
      refine And.intro (fun hc => absurd hc (nI_pos (by omega))) (fun _ => ?_)
      refine pX3_isPivot (hF1 h) (hm1 h) (by omega) ?_
      have hA := Af_s pv (show P < n by omega)
      rw [dec1]
      by_cases hpp : pv P = true
      · rw [if_pos hpp] at hA
        rw [la_b_t hpp, nI_m6, nI_add, nI_clamp (by omega), u2_sA, (hF1 _).2.2.1]
        refine br1 (And.intro (by rw [hs.lenCells]; exact vp_in_nI (by omega) (by omega)) ?_)
        have hi := inner (fun x2_6 _ σ_6 => lX3_fillCells_20 s post (fun _ _ σ_7 => post σ_7) (P + 1) x2_6 (nI P - 1) σ_6) P hpp (by omega) (upd h (P * 6 + P) 1) (fun h' hh1 hh2 y => ?_) (n - (P + 1)) n (by omega) (Nat.le_refl _) (upd h (P * 6 + P) 1) (fun j _ => rfl) (fun c hc => ?_)
        · rw [zf_n, Nat.add_zero] at hi
          exact ⟨_, hi⟩
        · rw [← hA]
          refine ih (by omega) h' (fun p hp' c hc => ?_) (fun p hp' hpv' c hc => ?_)
          · rw [hh1 _ (by omega), pk_un (by omega)]; exact h1 p (by omega) c hc
          · by_cases e : p = P
            · subst e; exact hh2 c hc
            · have := hpv p hpv'
              rw [hh1 _ (by omega), pk_un (by omega)]; exact h2 p (by omega) hpv' c hc
        · by_cases e : c = P
          · subst e
            rw [pk_us, if_pos (Or.inl rfl)]
            unfold Ms
            rw [if_pos rfl]; rfl
          · rw [pk_un (by omega), if_neg (by omega)]; exact h1 P (by omega) c hc
      · rw [if_neg hpp, Nat.add_zero] at hA
        rw [la_b_f hpp, ← hA]
        refine br0 (ih (by omega) h (fun p hp' c hc => h1 p (by omega) c hc) (fun p hp' hpv' c hc => ?_))
        by_cases e : p = P
        · rw [e] at hpv'; exact absurd hpv' hpp
        · exact h2 p (by omega) hpv' c hc
  have hx := outer n (Nat.le_refl n) (fb_put (σ (s + 1)) (fun _ => 0) 0 36) (fun p hp' c hc => by rw [fb_put_in (by omega) (by omega)]) (fun p hp' hpv' => absurd (hpv p hpv') (by omega))
  rw [Af_n, Nat.pow_zero, Nat.div_one] at hx
  rw [(hF1 _).2.2.1]
  exact ⟨n + 1, hx⟩
def isM (q n k r m : Nat) : Prop := m < 2 ^ n ∧ pc6 m = k ∧ Bt q n k (2 ^ n - 1 - m) ≤ r ∧ r < Bt q n k (2 ^ n - 1 - m) + q ^ frC n m
theorem Bt_mono (q n k : Nat) {i j : Nat} (h : i ≤ j) : Bt q n k i ≤ Bt q n k j := by
  have := fb_sm_mono (fun i => tm q n k (2 ^ n - 1 - i)) i (j - i)
  rwa [show i + (j - i) = j by omega] at this
theorem isM_lt {q n k r m m' : Nat} (h : isM q n k r m) (h' : isM q n k r m') (hlt : m' < m) : False := by
  obtain ⟨a, b, c, d⟩ := h
  obtain ⟨a', b', c', d'⟩ := h'
  have e : Bt q n k (2 ^ n - 1 - m + 1) = Bt q n k (2 ^ n - 1 - m) + tm q n k m := by
    unfold Bt
    rw [fb_sm_succ, show 2 ^ n - 1 - (2 ^ n - 1 - m) = m by omega]
  have := Bt_mono q n k (show 2 ^ n - 1 - m + 1 ≤ 2 ^ n - 1 - m' by omega)
  unfold tm at e
  rw [if_pos b] at e
  omega
theorem isM_uniq {q n k r m m' : Nat} (h : isM q n k r m) (h' : isM q n k r m') : m = m' := by
  rcases Nat.lt_trichotomy m m' with x | x | x
  · exact (isM_lt h' h x).elim
  · exact x
  · exact (isM_lt h h' x).elim
theorem pvm_lt {n m p : Nat} (h : pvm n m p = true) : p < n := by
  unfold pvm at h
  simp at h
  exact h.1
theorem pX3_becomeOrdinal {σ : ss_S} {q n : Nat} (hF : FrC σ q n) {s : Nat} (hs : isSp s) {k r : Nat} (hk : k ≤ n) (hr : r < gsN q n k) {post : ss_S → Prop}
    (hp : ∀ m, isM q n k r m → ∀ σ', Oth s σ σ' → SpC σ' s q n (pvm n m) (Ms q n (pvm n m) (r - Bt q n k (2 ^ n - 1 - m))) → post σ') : wX3_becomeOrdinal s (nI k) (nI r) σ post := by
  have hq := hF.1
  have h6 := hq.n6
  have h64 := pow_n6 h6
  have hs9 := hs.1
  have hgs := (gs_all (okq.of hq (Nat.le_refl n)) hk).2.1
  rw [← Bt_all hq hk] at hr
  have hrb : r < 2 ^ 15 := by rw [Bt_all hq hk] at hr; omega
  unfold wX3_becomeOrdinal
  rw [hF.2.2.1, top_mask h6]
  have hp2 : 1 ≤ 2 ^ n := Nat.pow_pos (by omega)
  have key : ∀ P, P ≤ 2 ^ n → Bt q n k (2 ^ n - P) ≤ r → lX3_becomeOrdinal_15 s (nI k) post (fun _ _ σ_8 => post σ_8) (P + 1) (nI (r - Bt q n k (2 ^ n - P))) (nI P - 1) σ := by
    intro P
    induction P with
    | zero =>
      intro _ hB
      rw [Nat.sub_zero] at hB
      omega
    | succ m ih =>
      intro hP hB
      rw [nI_p1 (by omega), Nat.add_sub_cancel]
      refine And.intro (fun hc => absurd hc (nI_pos (by omega))) (fun _ => ?_)
      refine pJ6_bc (by omega) ?_
      rw [dec1]
      have eB : Bt q n k (2 ^ n - m) = Bt q n k (2 ^ n - (m + 1)) + tm q n k m := by
        unfold Bt
        rw [show 2 ^ n - m = (2 ^ n - (m + 1)) + 1 by omega, fb_sm_succ, show 2 ^ n - 1 - (2 ^ n - (m + 1)) = m by omega]
      unfold tm at eB
      have hAm := mk_A n (by omega) m (by omega)
      by_cases e : pc6 m = k
      · rw [if_pos e] at eB
        refine And.intro (fun hc => absurd (by rw [e]) hc) (fun _ => ?_)
        refine pX3_freeCells hF (by omega) (pX0_power hF.2.1 _ (by omega) ?_)
        have hpb : q ^ frC n m < 2 ^ 31 := by
          have : q ^ frC n m ≤ 5 ^ 9 := Nat.le_trans (Nat.pow_le_pow_left hq.five _) (Nat.pow_le_pow_right (by omega) hAm.1)
          have : (5 : Nat) ^ 9 < 2 ^ 31 := by decide
          omega
        refine And.intro (fun hc => ?_) (fun hc => ?_)
        · have hle := (nI_leI hpb (by omega)).mp hc
          rw [pk_sub hle, show r - Bt q n k (2 ^ n - (m + 1)) - q ^ frC n m = r - Bt q n k (2 ^ n - m) by omega]
          exact ih (by omega) (by omega)
        · have hlt : r - Bt q n k (2 ^ n - (m + 1)) < q ^ frC n m := by
            rcases Nat.lt_or_ge (r - Bt q n k (2 ^ n - (m + 1))) (q ^ frC n m) with y | y
            · exact y
            · exact absurd (nI_le y (by omega)) hc
          have hM : isM q n k r m := ⟨by omega, e, by rw [show 2 ^ n - 1 - m = 2 ^ n - (m + 1) by omega]; exact hB, by rw [show 2 ^ n - 1 - m = 2 ^ n - (m + 1) by omega]; omega⟩
          have hO1 : Oth s σ (u2 σ s 3 (nI m)) := fun i a _ _ => u2_ne _ _ _ a
          refine pX3_fillCells (pv := pvm n m) (hO1.Fr hs hF) hs (fun p hp' => pvm_lt hp') (by rw [u2_at, pk_us, mk_pvm (by omega)]) (by omega) (fun h hh => ?_)
          refine hp m hM _ (hO1.trans (fun i a b c => sA_ne _ _ b)) ⟨Ms_R hq.two (fun p hp' => pvm_lt hp') _, ?_, fun p hp' c hc => ?_⟩
          · rw [sA_ne _ _ (by omega), u2_at, pk_us, mk_pvm (by omega)]
          · rw [sA_same, hh p hp' c hc, show 2 ^ n - 1 - m = 2 ^ n - (m + 1) by omega]
      · rw [if_neg e, Nat.add_zero] at eB
        refine And.intro (fun _ => ?_) (fun hc => absurd ((nI_eq (by omega) (by omega)).mp hc) e)
        rw [← eB]
        exact ih (by omega) (by omega)
  have hx := key (2 ^ n) (Nat.le_refl _) (by rw [Nat.sub_self]; exact Nat.zero_le _)
  have e0 : Bt q n k 0 = 0 := rfl
  rw [Nat.sub_self, e0, Nat.sub_zero, nI_p1 hp2] at hx
  exact ⟨_, hx⟩
