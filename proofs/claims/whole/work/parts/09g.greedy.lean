def spG (q n k a m : Nat) : la_W → Prop := la_G (pvm n m) (Ms q n (pvm n m) (a - Bt q n k (2 ^ n - 1 - m)))
def Far (q n k d R a : Nat) : Prop := ∃ m m' pv M, isM q n k R m ∧ isM q n k a m' ∧ la_R q n pv M ∧ (∀ v, la_S q pv M v ↔ la_Sp q (la_un (spG q n k R m) (spG q n k a m')) v) ∧ d + 2 * k ≤ 2 * fb_ct pv n
theorem Far_iff {q n k d R a m m' : Nat} {pv : Nat → Bool} {M : Nat → la_W} (hq : 1 < q) (hm : isM q n k R m) (hm' : isM q n k a m') (hR : la_R q n pv M) (hS : ∀ v, la_S q pv M v ↔ la_Sp q (la_un (spG q n k R m) (spG q n k a m')) v) : Far q n k d R a ↔ d + 2 * k ≤ 2 * fb_ct pv n := by
  constructor
  · rintro ⟨m1, m2, pv1, M1, h1, h2, h3, h4, h5⟩
    have e1 := isM_uniq hm h1
    have e2 := isM_uniq hm' h2
    subst e1
    subst e2
    obtain ⟨e, _⟩ := la_uniqG hq hR h3 hS h4
    rw [e]; exact h5
  · intro h
    exact ⟨m, m', pv, M, hm, hm', hR, hS, h⟩
def Gd (q n k d : Nat) : Nat → List Nat → Prop
  | 0, L => L = []
  | R + 1, L => ∃ L', Gd q n k d R L' ∧ (((L'.length < 40 ∧ ∀ a, a ∈ L' → Far q n k d R a) ∧ L = L' ++ [R]) ∨ (¬ (L'.length < 40 ∧ ∀ a, a ∈ L' → Far q n k d R a) ∧ L = L'))
theorem Gd_uniq {q n k d : Nat} : ∀ {R : Nat} {L L' : List Nat}, Gd q n k d R L → Gd q n k d R L' → L = L' := by
  intro R
  induction R with
  | zero => intro L L' h h'; exact (show L = [] from h).trans (show L' = [] from h').symm
  | succ R ih =>
    rintro L L' ⟨A, hA, h⟩ ⟨B, hB, h'⟩
    have e := ih hA hB
    subst e
    rcases h with ⟨a, b⟩ | ⟨a, b⟩
    · rcases h' with ⟨a', b'⟩ | ⟨a', b'⟩
      · rw [b, b']
      · exact absurd a a'
    · rcases h' with ⟨a', b'⟩ | ⟨a', b'⟩
      · exact absurd a' a
      · rw [b, b']
theorem Gd_full {q n k d R : Nat} {L : List Nat} (h : Gd q n k d R L) (hl : 40 ≤ L.length) : ∀ e, Gd q n k d (R + e) L := by
  intro e
  induction e with
  | zero => exact h
  | succ e ih => exact ⟨L, ih, Or.inr ⟨fun hc => by omega, rfl⟩⟩
def HpC (σ : ss_S) (q n k : Nat) (L : List Nat) : Prop := σ 3 2 = nI L.length ∧ ∀ i (hi : i < L.length), ∃ m, isM q n k L[i] m ∧ SpC σ (45 + 3 * i) q n (pvm n m) (Ms q n (pvm n m) (L[i] - Bt q n k (2 ^ n - 1 - m)))
def HmM (τ : ss_S) (q n k : Nat) (L : List Nat) : Prop := τ 0 13 = nI L.length ∧ ∀ i (hi : i < L.length), ∃ m, isM q n k L[i] m ∧ HpM τ q n i (pvm n m) (Ms q n (pvm n m) (L[i] - Bt q n k (2 ^ n - 1 - m)))
def KgC (σ σ' : ss_S) : Prop := σ' 0 = σ 0 ∧ σ' 1 = σ 1 ∧ σ' 7 = σ 7 ∧ ∀ k, k < 12 → (σ' (9 + 3 * k) 3 = σ (9 + 3 * k) 3 ∧ ∀ j, σ' (9 + 3 * k + 1) j = σ (9 + 3 * k + 1) j)
def KgM (τ τ' : ss_S) : Prop := τ' 1 = τ 1 ∧ (∀ j, j ≠ 7 → j ≠ 13 → τ' 0 j = τ 0 j) ∧ ∀ k, k < 12 → (τ' 4 k = τ 4 k ∧ ∀ j, j < 6 → τ' 5 (6 * k + j) = τ 5 (6 * k + j))
theorem KgC.trans {a b c : ss_S} (h : KgC a b) (h' : KgC b c) : KgC a c := ⟨h'.1.trans h.1, h'.2.1.trans h.2.1, h'.2.2.1.trans h.2.2.1, fun k hk => ⟨(h'.2.2.2 k hk).1.trans (h.2.2.2 k hk).1, fun j => ((h'.2.2.2 k hk).2 j).trans ((h.2.2.2 k hk).2 j)⟩⟩
theorem KgM.trans {a b c : ss_S} (h : KgM a b) (h' : KgM b c) : KgM a c := ⟨h'.1.trans h.1, fun j x y => (h'.2.1 j x y).trans (h.2.1 j x y), fun k hk => ⟨(h'.2.2 k hk).1.trans (h.2.2 k hk).1, fun j hj => ((h'.2.2 k hk).2 j hj).trans ((h.2.2 k hk).2 j hj)⟩⟩
theorem KgC.Fr {q n : Nat} {σ σ' : ss_S} (h : KgC σ σ') (hF : FrC σ q n) : FrC σ' q n := by
  obtain ⟨a, b, c, d⟩ := hF
  exact ⟨a, by rw [h.2.1]; exact b, by rw [h.2.1]; exact c, by rw [h.2.1]; exact d⟩
theorem KgM.Fr {q n : Nat} {τ τ' : ss_S} (h : KgM τ τ') (hF : FrM τ q n) : FrM τ' q n := by
  obtain ⟨a, b, c, d⟩ := hF
  exact ⟨a, by rw [h.2.1 0 (by omega) (by omega)]; exact b, by rw [h.2.1 1 (by omega) (by omega)]; exact c, by rw [h.2.1 2 (by omega) (by omega)]; exact d⟩
theorem Oth.kg {s : Nat} {σ σ' : ss_S} (hs : isSp s) (h45 : 45 ≤ s) (h : Oth s σ σ') : KgC σ σ' :=
  ⟨h 0 (by omega) (by omega) (by omega), h 1 (by omega) (by omega) (by omega), h 7 (by omega) (by omega) (by omega), fun k hk => ⟨by rw [h _ (by omega) (by omega) (by omega)], fun j => by rw [h _ (by omega) (by omega) (by omega)]⟩⟩
theorem KpM.kg {τ τ' : ss_S} (h : KpM 12 τ τ') : KgM τ τ' := ⟨h.1, fun j hj _ => h.2.2.2.1 j hj, fun k hk => h.2.2.2.2 k hk (by omega)⟩
theorem Oth.hp {s : Nat} {σ σ' : ss_S} {q n k : Nat} {L : List Nat} (hs : isSp s) (h165 : 165 ≤ s) (hL : L.length ≤ 40) (h : Oth s σ σ') (hH : HpC σ q n k L) : HpC σ' q n k L := by
  refine ⟨by rw [h 3 (by omega) (by omega) (by omega)]; exact hH.1, fun i hi => ?_⟩
  obtain ⟨m, a, b⟩ := hH.2 i hi
  exact ⟨m, a, h.Sp hs (isSp_hp (by omega)) (by omega) b⟩
theorem KpM.hm {τ τ' : ss_S} {q n k : Nat} {L : List Nat} (h : KpM 12 τ τ') (hH : HmM τ q n k L) : HmM τ' q n k L := by
  refine ⟨by rw [h.2.2.2.1 13 (by omega)]; exact hH.1, fun i hi => ?_⟩
  obtain ⟨m, a, b⟩ := hH.2 i hi
  exact ⟨m, a, h.Hp b⟩
theorem dst2 (a b : Int32) : a - b - b = a - (b + b) := by
  rw [Int32.sub_eq_add_neg, Int32.sub_eq_add_neg, Int32.sub_eq_add_neg, Int32.neg_add, Int32.sub_eq_add_neg, Int32.add_assoc]
theorem dst_le {d k c : Nat} (hd : d < 2 ^ 20) (hk : k < 2 ^ 20) (hc : c < 2 ^ 20) : nI d ≤ nI 2 * nI c - nI k - nI k ↔ d + 2 * k ≤ 2 * c := by
  rw [dst2, pk_mul, nI_add, fa_le, pk_sub_toInt (by omega) (by omega), nI_toInt (by omega)]
  omega
theorem dst_lt {d k c : Nat} (hd : d < 2 ^ 20) (hk : k < 2 ^ 20) (hc : c < 2 ^ 20) : nI 2 * nI c - nI 2 * nI k < nI d ↔ ¬ d + 2 * k ≤ 2 * c := by
  rw [pk_mul, pk_mul, fa_lt, pk_sub_toInt (by omega) (by omega), nI_toInt (by omega)]
  omega
theorem pX1_allApart {σ : ss_S} {q n k d R m : Nat} {L : List Nat} (hF : FrC σ q n) (hk : k ≤ n) (hd : d ≤ 12) (hL : L.length ≤ 40) (hH : HpC σ q n k L) (hm : isM q n k R m) (hS : SpC σ 168 q n (pvm n m) (Ms q n (pvm n m) (R - Bt q n k (2 ^ n - 1 - m)))) {post : Int32 → ss_S → Prop}
    (h1 : ∀ σ', Oth 165 σ σ' → (∀ a, a ∈ L → Far q n k d R a) → post 1 σ') (h0 : ∀ σ', Oth 165 σ σ' → ¬ (∀ a, a ∈ L → Far q n k d R a) → post 0 σ') : wX1_allApart 168 (nI d) σ post := by
  have h6 := hF.1.n6
  have key : ∀ e i, i + e = L.length → ∀ σ', Oth 165 σ σ' → (∀ j (hj : j < L.length), j < i → Far q n k d R L[j]) → lX1_allApart_2 168 (nI d) post (fun x3_4 σ_4 => post 1 σ_4) (e + 1) (nI i) σ' := by
    intro e
    induction e with
    | zero =>
      intro i hi σ' hO hall
      have hH' := hO.hp isSp_165 (by omega) hL hH
      refine And.intro (fun _ => h1 σ' hO (fun a ha => ?_)) (fun hc => absurd (by rw [hH'.1]; exact nI_le (by omega) (by omega)) hc)
      obtain ⟨j, hj, rfl⟩ := List.mem_iff_getElem.mp ha
      exact hall j hj (by omega)
    | succ e ih =>
      intro i hi σ' hO hall
      have hH' := hO.hp isSp_165 (by omega) hL hH
      refine And.intro (fun hc => absurd hc (by rw [hH'.1]; exact nI_ge (by omega) (by omega))) (fun _ => And.intro (vp_in_nI (by omega) (by omega)) ?_)
      rw [nI_clamp (by omega)]
      obtain ⟨m', a, b⟩ := hH'.2 i (by omega)
      refine pX3_distance (hO.Fr isSp_165 hF) isSp_165 isSp_168 (isSp_hp (by omega)) (by omega) (by omega) (hO.Sp isSp_165 isSp_168 (by omega) hS) b (fun σ2 pv' M' hO2 hS2 hsp => ?_)
      have hiff := Far_iff (d := d) hF.1.two hm a hS2.1 hsp
      have hct := fb_ct_le pv' n
      rw [pvm_ct h6 hm.1, pvm_ct h6 a.1, hm.2.1, a.2.1, nI_1]
      refine And.intro (fun hc => ih (i + 1) (by omega) σ2 (hO.trans hO2) (fun j hj hji => ?_)) (fun hc => h0 σ2 (hO.trans hO2) (fun hx => hc ((dst_le (by omega) (by omega) (by omega)).mpr (hiff.mp (hx _ (List.getElem_mem _))))))
      rcases Nat.lt_or_ge j i with y | y
      · exact hall j hj y
      · have ej : j = i := by omega
        subst ej
        exact hiff.mpr ((dst_le (by omega) (by omega) (by omega)).mp hc)
  exact ⟨_, key L.length 0 (by omega) σ (fun _ _ _ _ => rfl) (fun j _ hj => absurd hj (Nat.not_lt_zero _))⟩
theorem acceptG {σ : ss_S} {q n h s : Nat} (h6 : n ≤ 6) (h32 : σ 3 2 = nI h) (hh : h < 40) (hs : isSp s) (hne : s ≠ 45 + 3 * h) {pv : Nat → Bool} {M : Nat → la_W} (hS : SpC σ s q n pv M) {post : ss_S → Prop}
    (hp : ∀ σ1 : ss_S, Oth (45 + 3 * h) σ σ1 → SpC σ1 (45 + 3 * h) q n pv M → post (u2 σ1 3 2 (nI (h + 1)))) : wX1_accept s σ post := by
  unfold wX1_accept
  rw [h32]
  refine And.intro (fun hc => absurd hc (nI_ge (b := 40) hh (by omega))) (fun _ => And.intro (vp_in_nI hh (by omega)) ?_)
  rw [nI_clamp (by omega)]
  refine pX3_copyFrom h6 (isSp_hp hh) hs (Ne.symm hne) hS (fun σ1 hO hS1 => ?_)
  rw [(hO.kp (isSp_hp hh)).2.2.1, h32, nI_1]
  exact hp σ1 hO hS1
theorem HpC.push {σ σ1 : ss_S} {q n k R m : Nat} {L : List Nat} (hL : L.length < 40) (hH : HpC σ q n k L) (hm : isM q n k R m) (hO : Oth (45 + 3 * L.length) σ σ1) (hS : SpC σ1 (45 + 3 * L.length) q n (pvm n m) (Ms q n (pvm n m) (R - Bt q n k (2 ^ n - 1 - m)))) : HpC (u2 σ1 3 2 (nI (L.length + 1))) q n k (L ++ [R]) := by
  refine ⟨by rw [u2_at, pk_us, List.length_append]; rfl, fun i hi => ?_⟩
  have hi' : i < L.length + 1 := by rw [List.length_append] at hi; exact hi
  by_cases e : i < L.length
  · obtain ⟨m', a, b⟩ := hH.2 i e
    rw [List.getElem_append_left e]
    exact ⟨m', a, (hO.Sp (isSp_hp hL) (isSp_hp (by omega)) (by omega) b).eq (by rw [u2_ne _ _ _ (by omega)]) (fun j => by rw [u2_ne _ _ _ (by omega)])⟩
  · have ei : i = L.length := by omega
    subst ei
    rw [List.getElem_concat_length rfl]
    exact ⟨m, hm, hS.eq (by rw [u2_ne _ _ _ (by omega)]) (fun j => by rw [u2_ne _ _ _ (by omega)])⟩
theorem HmM.push {τ : ss_S} {q n k R m : Nat} {L : List Nat} (h6 : n ≤ 6) (hL : L.length < 40) (hH : HmM τ q n k L) (hm : isM q n k R m) {f g' : Nat → Int32} (h1 : ∀ k, k ≠ L.length → f k = τ 8 k) (h2 : f L.length = nI (fb_ct (pvm n m) n)) (h3 : ∀ p, pvm n m p = true → g' (6 * L.length + fb_ct (pvm n m) p) = nI (la_val q (Ms q n (pvm n m) (R - Bt q n k (2 ^ n - 1 - m)) p) n)) (h4 : ∀ k j, k ≠ L.length → j < 6 → g' (6 * k + j) = τ 9 (6 * k + j)) : HmM (u2 (sA (sA τ 8 f) 9 g') 0 13 (nI (L.length + 1))) q n k (L ++ [R]) := by
  refine ⟨by rw [u2_at, pk_us, List.length_append]; rfl, fun i hi => ?_⟩
  have hi' : i < L.length + 1 := by rw [List.length_append] at hi; exact hi
  by_cases e : i < L.length
  · obtain ⟨m', a, b⟩ := hH.2 i e
    rw [List.getElem_append_left e]
    refine ⟨m', a, ?_, fun p hp => ?_⟩
    · rw [u2_ne _ _ _ (by omega), sA_ne _ _ (by omega), sA_same, h1 i (by omega)]; exact b.1
    · have := la_ct_lt hp (pvm_lt hp)
      have := fb_ct_le (pvm n m') n
      rw [u2_ne _ _ _ (by omega), sA_same, h4 i _ (by omega) (by omega)]; exact b.2 p hp
  · have ei : i = L.length := by omega
    subst ei
    rw [List.getElem_concat_length rfl]
    refine ⟨m, hm, ?_, fun p hp => ?_⟩
    · rw [u2_ne _ _ _ (by omega), sA_ne _ _ (by omega), sA_same]; exact h2
    · rw [u2_ne _ _ _ (by omega), sA_same]; exact h3 p hp
theorem InvQ.heap {σ τ σ' τ' : ss_S} {q n g r k : Nat} {L : List Nat} (I : InvQ σ τ q n 0 g r) (hL : L.length ≤ 40) (hC : KgC σ σ') (hM : KgM τ τ') (hH : HpC σ' q n k L) (hH' : HmM τ' q n k L) : InvQ σ' τ' q n L.length g r := by
  obtain ⟨a, b, c, d, e, f, i, T, T1, T2⟩ := I
  have h6 := a.1.n6
  refine ⟨hC.Fr a, hM.Fr b, ⟨hL, hH.1, hH'.1⟩, ⟨d.1, by rw [hC.1]; exact d.2.1, by rw [hM.2.1 4 (by omega) (by omega)]; exact d.2.2⟩, ⟨e.1, by rw [hC.1]; exact e.2.1, by rw [hM.2.1 5 (by omega) (by omega)]; exact e.2.2⟩, fun k hk => ?_, fun k hk => ?_, T, T1.eq hC.2.2.1, fun p hp => ⟨(T2 p hp).1, by rw [hM.1]; exact (T2 p hp).2⟩⟩
  · obtain ⟨pv, M, s1, s2⟩ := f k hk
    refine ⟨pv, M, s1.eq (hC.2.2.2 k hk).1 (hC.2.2.2 k hk).2, by rw [(hM.2.2 k hk).1]; exact s2.1, fun p hp => ?_⟩
    have := la_ct_lt hp (s1.1.1 p hp)
    have := fb_ct_le pv n
    rw [(hM.2.2 k hk).2 _ (by omega)]; exact s2.2 p hp
  · obtain ⟨m, x, y⟩ := hH.2 k hk
    obtain ⟨m', x', y'⟩ := hH'.2 k hk
    have em := isM_uniq x x'
    subst em
    exact ⟨_, _, y, y'⟩
theorem cGreedy {σ : ss_S} {q n k d : Nat} (hF : FrC σ q n) (hk : k ≤ n) (hd : d ≤ 12) (h32 : σ 3 2 = 0) {post : Int32 → ss_S → Prop} (K : Int32 → ss_S → Prop) (hK : ∀ σ' L, KgC σ σ' → HpC σ' q n k L → L.length ≤ 40 → Gd q n k d (gsN q n k) L → ∀ y, K y σ') : ∃ f, lX4_greedy_71 (nI k) (nI d) (nI (gsN q n k)) post K f 0 σ := by
  have h6 := hF.1.n6
  have hgs := (gs_all (okq.of hF.1 (Nat.le_refl n)) hk).2.1
  have key : ∀ e R, R + e = gsN q n k → ∀ σ' L, KgC σ σ' → HpC σ' q n k L → L.length ≤ 40 → Gd q n k d R L → lX4_greedy_71 (nI k) (nI d) (nI (gsN q n k)) post K (e + 1) (nI R) σ' := by
    intro e
    induction e with
    | zero =>
      intro R hR σ' L hKg hH hL hG
      have eR : R = gsN q n k := by omega
      subst eR
      exact And.intro (fun _ => hK σ' L hKg hH hL hG _) (fun hc => absurd (nI_le (Nat.le_refl _) (by omega)) hc)
    | succ e ih =>
      intro R hR σ' L hKg hH hL hG
      refine And.intro (fun hc => absurd hc (nI_ge (by omega) (by omega))) (fun _ => ?_)
      rw [hH.1]
      rcases Nat.lt_or_ge L.length 40 with hlt | hge
      · refine And.intro (fun hc => absurd hc (nI_ge (b := 40) hlt (by omega))) (fun _ => ?_)
        refine pX3_becomeOrdinal (hKg.Fr hF) isSp_168 hk (by omega) (fun m hm σ5 hO hS => ?_)
        have k5 := hKg.trans (hO.kg isSp_168 (by omega))
        have hH5 := hO.hp isSp_168 (by omega) hL hH
        refine pX1_allApart (k5.Fr hF) hk hd hL hH5 hm hS (fun σ6 hO6 hall => ?_) (fun σ6 hO6 hall => ?_)
        · have k6 := k5.trans (hO6.kg isSp_165 (by omega))
          have hH6 := hO6.hp isSp_165 (by omega) hL hH5
          refine br1 ?_
          refine acceptG h6 hH6.1 hlt isSp_168 (by omega) (hO6.Sp isSp_165 isSp_168 (by omega) hS) (fun σ7 hO7 hS7 => ?_)
          rw [nI_1]
          refine ih (R + 1) (by omega) _ (L ++ [R]) ?_ (hH6.push hlt hm hO7 hS7) (by rw [List.length_append]; show L.length + 1 ≤ 40; omega) ⟨L, hG, Or.inl ⟨⟨hlt, hall⟩, rfl⟩⟩
          refine (k6.trans (hO7.kg (isSp_hp hlt) (by omega))).trans ⟨u2_ne _ _ _ (by omega), u2_ne _ _ _ (by omega), u2_ne _ _ _ (by omega), fun k hk => ⟨by rw [u2_ne _ _ _ (by omega)], fun j => by rw [u2_ne _ _ _ (by omega)]⟩⟩
        · have k6 := k5.trans (hO6.kg isSp_165 (by omega))
          have hH6 := hO6.hp isSp_165 (by omega) hL hH5
          refine br0 ?_
          rw [nI_1]
          exact ih (R + 1) (by omega) σ6 L k6 hH6 hL ⟨L, hG, Or.inr ⟨fun hc => hall hc.2, rfl⟩⟩
      · refine And.intro (fun _ => hK σ' L hKg hH hL ?_ _) (fun hc => absurd (nI_le (a := 40) (by omega) (by omega)) hc)
        rw [← hR]
        exact Gd_full hG hge _
  exact ⟨_, key (gsN q n k) 0 (by omega) σ [] ⟨rfl, rfl, rfl, fun _ _ => ⟨rfl, fun _ => rfl⟩⟩ ⟨h32, fun i hi => absurd hi (Nat.not_lt_zero _)⟩ (Nat.zero_le _) rfl⟩
theorem mGreedy {τ : ss_S} {q n k d : Nat} (hF : FrM τ q n) (hk : k ≤ n) (hd : d ≤ 12) (h13 : τ 0 13 = 0) {post : Int32 → ss_S → Prop} (K : Int32 → ss_S → Prop) (hK : ∀ τ' L, KgM τ τ' → HmM τ' q n k L → L.length ≤ 40 → Gd q n k d (gsN q n k) L → ∀ y, K y τ') : ∃ f, lX5_greedy_69 (nI k) (nI d) (nI (gsN q n k)) post K f 0 τ := by
  have h6 := hF.1.n6
  have hgs := (gs_all (okq.of hF.1 (Nat.le_refl n)) hk).2.1
  have inner : ∀ (C : Int32 → Int32 → ss_S → Prop) (R : Nat), R < gsN q n k → ∀ (τ0 : ss_S) (L : List Nat), FrM τ0 q n → HmM τ0 q n k L → L.length ≤ 40 → (∀ τ' y, KpM 12 τ0 τ' → ((∀ a, a ∈ L → Far q n k d R a) → C 1 y τ') ∧ (¬ (∀ a, a ∈ L → Far q n k d R a) → C 0 y τ')) → ∀ e i, i + e = L.length → ∀ τ' (t : Int32), KpM 12 τ0 τ' → ((t = 1 ∧ ∀ j (hj : j < L.length), j < i → Far q n k d R L[j]) ∨ (t = 0 ∧ ¬ (∀ a, a ∈ L → Far q n k d R a))) → lX5_greedy_90 (nI k) (nI d) (nI (gsN q n k)) (nI R) post C (e + 1) t (nI i) τ' := by
    intro C R hR τ0 L hF0 hH hL hC e
    induction e with
    | zero =>
      intro i hi τ' t hKp ht
      have hH' := hKp.hm hH
      refine And.intro (fun _ => ?_) (fun hc => absurd (by rw [hH'.1]; exact nI_le (by omega) (by omega)) hc)
      rcases ht with ⟨rfl, hall⟩ | ⟨rfl, hno⟩
      · refine (hC τ' _ hKp).1 (fun a ha => ?_)
        obtain ⟨j, hj, rfl⟩ := List.mem_iff_getElem.mp ha
        exact hall j hj (by omega)
      · exact (hC τ' _ hKp).2 hno
    | succ e ih =>
      intro i hi τ' t hKp ht
      have hH' := hKp.hm hH
      refine And.intro (fun hc => absurd hc (by rw [hH'.1]; exact nI_ge (by omega) (by omega))) (fun _ => ?_)
      rcases ht with ⟨rfl, hall⟩ | ⟨rfl, hno⟩
      · refine br1 ?_
        refine pX5_lay (hKp.Fr hF0) hk hR (fun m hm τ1 hO1 h71 hW1 => ?_)
        have k1 := hKp.trans hO1.kp
        obtain ⟨m', a, b⟩ := (k1.hm hH).2 i (by omega)
        have hR1 := Ms_R hF.1.two (pv := pvm n m) (fun p hp' => pvm_lt hp') (R - Bt q n k (2 ^ n - 1 - m))
        have hR2 := Ms_R hF.1.two (pv := pvm n m') (fun p hp' => pvm_lt hp') (L[i] - Bt q n k (2 ^ n - 1 - m'))
        have ek : fb_ct (pvm n m) n = k := by rw [pvm_ct h6 hm.1]; exact hm.2.1
        refine mLoadH h6 (by omega) hR2.1 b (m := fb_ct (pvm n m) n) (by omega) (by rw [ek]; exact h71) (fun τ2 hO2 h72 hk2 hW2 => ?_)
        have k2 := k1.trans hO2.kp
        refine mSettle2 (k2.Fr hF0) hR1 hR2 h72 (hW1.keep hR1.1 hk2) hW2 (fun τ3 pv M hO3 hR3 hS3 h73 hW3 => ?_)
        have k3 := k2.trans hO3.kp
        have hiff := Far_iff (d := d) hF.1.two hm a hR3 hS3
        have hct := fb_ct_le pv n
        rw [h73, nI_1]
        have e2 : (2 : Int32) = nI 2 := rfl
        rw [e2]
        refine And.intro (fun hc => ih (i + 1) (by omega) τ3 0 k3 (Or.inr ⟨rfl, fun hx => (dst_lt (by omega) (by omega) (by omega)).mp hc (hiff.mp (hx _ (List.getElem_mem _)))⟩)) (fun hc => ih (i + 1) (by omega) τ3 1 k3 (Or.inl ⟨rfl, fun j hj hji => ?_⟩))
        rcases Nat.lt_or_ge j i with y | y
        · exact hall j hj y
        · have ej : j = i := by omega
          subst ej
          apply hiff.mpr
          apply Classical.byContradiction
          intro hno
          exact hc ((dst_lt (by omega) (by omega) (by omega)).mpr hno)
      · exact br0 ((hC τ' _ hKp).2 hno)
  have key : ∀ e R, R + e = gsN q n k → ∀ τ' L, KgM τ τ' → HmM τ' q n k L → L.length ≤ 40 → Gd q n k d R L → lX5_greedy_69 (nI k) (nI d) (nI (gsN q n k)) post K (e + 1) (nI R) τ' := by
    intro e
    induction e with
    | zero =>
      intro R hR τ' L hKg hH hL hG
      have eR : R = gsN q n k := by omega
      subst eR
      exact And.intro (fun _ => hK τ' L hKg hH hL hG _) (fun hc => absurd (nI_le (Nat.le_refl _) (by omega)) hc)
    | succ e ih =>
      intro R hR τ' L hKg hH hL hG
      refine And.intro (fun hc => absurd hc (nI_ge (by omega) (by omega))) (fun _ => ?_)
      rw [hH.1]
      rcases Nat.lt_or_ge L.length 40 with hlt | hge
      · refine And.intro (fun hc => absurd hc (nI_ge (b := 40) hlt (by omega))) (fun _ => ?_)
        refine ⟨_, inner _ R (by omega) τ' L (hKg.Fr hF) hH hL (fun τ1 y k1 => ⟨fun hall => ?_, fun hno => ?_⟩) L.length 0 (by omega) τ' 1 KpM.rf (Or.inl ⟨rfl, fun j _ hj => absurd hj (Nat.not_lt_zero _)⟩)⟩
        · refine br1 ?_
          have g1 := hKg.trans k1.kg
          refine pX5_lay (g1.Fr hF) hk (by omega) (fun m hm τ2 hO2 h72 hW2 => ?_)
          have k2 := k1.trans hO2.kp
          have hH2 := k2.hm hH
          have ek : fb_ct (pvm n m) n = k := by rw [pvm_ct h6 hm.1]; exact hm.2.1
          refine toHeap_push hlt h6 (fun p hp' => pvm_lt hp') hH2.1 (by rw [ek]; exact h72) hW2 (fun f g' a1 a2 a3 a4 => ?_)
          rw [nI_1]
          refine ih (R + 1) (by omega) _ (L ++ [R]) ?_ (hH2.push h6 hlt hm a1 a2 a3 a4) (by rw [List.length_append]; show L.length + 1 ≤ 40; omega) ⟨L, hG, Or.inl ⟨⟨hlt, hall⟩, rfl⟩⟩
          refine (hKg.trans k2.kg).trans ⟨by rw [u2_ne _ _ _ (by omega), sA_ne _ _ (by omega), sA_ne _ _ (by omega)], fun j _ hj => by rw [u2_at, pk_un hj, sA_ne _ _ (by omega), sA_ne _ _ (by omega)], fun k hk => ⟨by rw [u2_ne _ _ _ (by omega), sA_ne _ _ (by omega), sA_ne _ _ (by omega)], fun j _ => by rw [u2_ne _ _ _ (by omega), sA_ne _ _ (by omega), sA_ne _ _ (by omega)]⟩⟩
        · refine br0 ?_
          rw [nI_1]
          exact ih (R + 1) (by omega) τ1 L (hKg.trans k1.kg) (k1.hm hH) hL ⟨L, hG, Or.inr ⟨fun hc => hno hc.2, rfl⟩⟩
      · refine And.intro (fun _ => hK τ' L hKg hH hL ?_ _) (fun hc => absurd (nI_le (a := 40) (by omega) (by omega)) hc)
        rw [← hR]
        exact Gd_full hG hge _
  exact ⟨_, key (gsN q n k) 0 (by omega) τ [] ⟨rfl, fun _ _ _ => rfl, fun _ _ => ⟨rfl, fun _ _ => rfl⟩⟩ ⟨h13, fun i hi => absurd hi (Nat.not_lt_zero _)⟩ (Nat.zero_le _) rfl⟩
