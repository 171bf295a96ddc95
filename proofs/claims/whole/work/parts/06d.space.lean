def bc_1 (x0 : Int32) : Int32 := (((x0 - (((x0.toUInt32 >>> (Int32.toUInt32 1 &&& Int32.toUInt32 31)).toInt32) &&& 1431655765)) &&& 858993459) + ((((x0 - (((x0.toUInt32 >>> (Int32.toUInt32 1 &&& Int32.toUInt32 31)).toInt32) &&& 1431655765)).toUInt32 >>> (Int32.toUInt32 2 &&& Int32.toUInt32 31)).toInt32) &&& 858993459))
def bc_2 (z1 : Int32) : Int32 := (((z1 + ((z1.toUInt32 >>> (Int32.toUInt32 4 &&& Int32.toUInt32 31)).toInt32)) &&& 252645135) + ((((z1 + ((z1.toUInt32 >>> (Int32.toUInt32 4 &&& Int32.toUInt32 31)).toInt32)) &&& 252645135).toUInt32 >>> (Int32.toUInt32 8 &&& Int32.toUInt32 31)).toInt32))
def bc_3 (z2 : Int32) : Int32 := ((z2 + ((z2.toUInt32 >>> (Int32.toUInt32 16 &&& Int32.toUInt32 31)).toInt32)) &&& 63)
def pc6 (m : Nat) : Nat := m % 2 + m / 2 % 2 + m / 4 % 2 + m / 8 % 2 + m / 16 % 2 + m / 32 % 2
theorem bc64 : ∀ m, m < 64 → bc_3 (bc_2 (bc_1 (nI m))) = nI (pc6 m) := by decide +kernel
theorem pJ6_bc {m : Nat} (hm : m < 64) {σ : ss_S} {post : Int32 → ss_S → Prop} (hp : post (nI (pc6 m)) σ) : wJ6_bitCount_0f7a4 (nI m) σ post := by
  intro z1 e1 z2 e2
  have h : bc_3 z2 = nI (pc6 m) := by rw [e2, e1]; exact bc64 m hm
  show post (bc_3 z2) σ
  rw [h]; exact hp
theorem ct_pc {n : Nat} (hn : n ≤ 6) (pv : Nat → Bool) : fb_ct pv n = pc6 (la_mk n pv) := by
  have key : ∀ b0 b1 b2 b3 b4 b5 : Bool, ∀ n, n < 7 → fb_ct (fun k => if k = 0 then b0 else if k = 1 then b1 else if k = 2 then b2 else if k = 3 then b3 else if k = 4 then b4 else b5) n = pc6 (la_mk n (fun k => if k = 0 then b0 else if k = 1 then b1 else if k = 2 then b2 else if k = 3 then b3 else if k = 4 then b4 else b5)) := by decide +kernel
  have h := key (pv 0) (pv 1) (pv 2) (pv 3) (pv 4) (pv 5) n (by omega)
  have e : ∀ k, k < n → (fun k => if k = 0 then pv 0 else if k = 1 then pv 1 else if k = 2 then pv 2 else if k = 3 then pv 3 else if k = 4 then pv 4 else pv 5) k = pv k := by
    intro k hk
    rcases (show k = 0 ∨ k = 1 ∨ k = 2 ∨ k = 3 ∨ k = 4 ∨ k = 5 by omega) with rfl | rfl | rfl | rfl | rfl | rfl <;> rfl
  rw [fb_ct_cong e] at h
  rw [h]
  unfold la_mk
  rw [la_val_cong (fun c hc => by unfold la_b; rw [e c hc])]
  rfl
theorem pX3_rank {σ : ss_S} {s n : Nat} (hn : n ≤ 6) {pv : Nat → Bool} (hm : σ s 3 = nI (la_mk n pv)) {post : Int32 → ss_S → Prop} (hp : post (nI (fb_ct pv n)) σ) : wX3_rank s σ post := by
  unfold wX3_rank
  rw [hm]
  refine pJ6_bc (la_mk_64 hn pv) ?_
  rw [← ct_pc hn]; exact hp
theorem la_Sp.congr {q : Nat} {G K : la_W → Prop} (h : ∀ w, G w ↔ K w) (v : la_W) : la_Sp q G v ↔ la_Sp q K v := la_Sp.iff (fun w hw => la_Sp.gen ((h w).mp hw)) (fun w hw => la_Sp.gen ((h w).mpr hw)) v
def la_un (G K : la_W → Prop) (w : la_W) : Prop := G w ∨ K w
theorem sp_far {a b : Nat} (ha : isSp a) (hb : isSp b) (h : a ≠ b) : a + 3 ≤ b ∨ b + 3 ≤ a := by obtain ⟨a1, a2, a3⟩ := ha; obtain ⟨b1, b2, b3⟩ := hb; omega
theorem pX3_copyFrom {σ : ss_S} {q n s0 s1 : Nat} (hn : n ≤ 6) (h0 : isSp s0) (h1 : isSp s1) (hne : s0 ≠ s1) {pv : Nat → Bool} {M : Nat → la_W} (hS : SpC σ s1 q n pv M) {post : ss_S → Prop} (hp : ∀ σ', Oth s0 σ σ' → SpC σ' s0 q n pv M → post σ') : wX3_copyFrom s0 s1 σ post := by
  have far := sp_far h0 h1 hne
  unfold wX3_copyFrom
  rw [h0.lenCells, h1.lenCells]
  refine ⟨by decide, by decide, by decide, by decide, by decide, ?_⟩
  rw [u2_ne _ _ _ (show s1 + 1 ≠ s0 by omega), u2_ne _ _ _ (show s0 + 1 ≠ s0 by omega)]
  refine hp _ (fun i a b c => by rw [sA_ne _ _ b, u2_ne _ _ _ a]) ⟨hS.1, ?_, fun p hpp c hc => ?_⟩
  · rw [sA_ne _ _ (by omega), u2_at, pk_us]; exact hS.2.1
  · have hpn := hS.1.1 p hpp
    rw [sA_same]
    show va_cpy (σ (s1 + 1)) (σ (s0 + 1)) 0 0 36 (p * 6 + c) = _
    rw [pk_cpy_in (by omega) (by omega), Nat.sub_zero, Nat.zero_add]
    exact hS.2.2 p hpp c hc
theorem nI_0lt : ¬ (0 : Int32) < 0 := by decide
theorem pX3_joinVector {σ : ss_S} {q n : Nat} (hF : FrC σ q n) {s : Nat} (hs : isSp s) {pv : Nat → Bool} {M : Nat → la_W} (hS : SpC σ s q n pv M) {g : la_W} (hg : la_V q n g) {a o : Nat} (hlen : o + n ≤ lenC a) (hgσ : ∀ c, c < n → σ a (o + c) = nI (g c)) {post : ss_S → Prop}
    (hp : ∀ (σ' : ss_S) (pv' : Nat → Bool) (M' : Nat → la_W), Oth s σ σ' → SpC σ' s q n pv' M' → (∀ v, la_S q pv' M' v ↔ la_Sp q (la_up (la_G pv M) g) v) → post σ') : wX3_joinVector s a (nI o) σ post := by
  have hq := hF.1
  have h6 := hq.n6
  have hs9 := hs.1
  have hl : lenC a ≤ 36 := by unfold lenC; split <;> omega
  unfold wX3_joinVector
  rw [hF.2.2.1, nI_clamp (show o < 2 ^ 31 by omega), nI_clamp (show n < 2 ^ 31 by omega), hs.lenFresh]
  refine ⟨nI_pos (by omega), nI_0lt, nI_pos (by omega), hlen, by rw [show Int32.toNatClampNeg 0 = 0 from rfl]; omega, ?_⟩
  have hF1 := hF.sA (a := s + 2) (by omega) (va_cpy (σ a) (σ (s + 2)) o (Int32.toNatClampNeg 0) n)
  refine pX3_joinFresh hF1 hs (hS.eq (by rw [sA_ne _ _ (by omega)]) (fun k => by rw [sA_ne _ _ (by omega)])) hg (fun c hc => ?_) (fun σ' pv' M' hO hS' hsp => hp σ' pv' M' ((Oth.fresh _).trans hO) hS' hsp)
  rw [sA_same]
  show va_cpy (σ a) (σ (s + 2)) o 0 n c = _
  rw [pk_cpy_in (by omega) (by omega), Nat.sub_zero]
  exact hgσ c hc
theorem pX3_joinSpace {σ : ss_S} {q n : Nat} (hF : FrC σ q n) {s s1 : Nat} (hs : isSp s) (hs1 : isSp s1) (hne : s1 ≠ s) {pv pv1 : Nat → Bool} {M M1 : Nat → la_W} (hS : SpC σ s q n pv M) (hS1 : SpC σ s1 q n pv1 M1) {post : ss_S → Prop}
    (hp : ∀ (σ' : ss_S) (pv' : Nat → Bool) (M' : Nat → la_W), Oth s σ σ' → SpC σ' s q n pv' M' → (∀ v, la_S q pv' M' v ↔ la_Sp q (la_un (la_G pv M) (la_G pv1 M1)) v) → post σ') : wX3_joinSpace s s1 σ post := by
  have hq := hF.1
  have h6 := hq.n6
  have hs9 := hs.1
  have far := sp_far hs hs1 (Ne.symm hne)
  have key : ∀ d i, i + d = n → ∀ (σ1 : ss_S) (pv' : Nat → Bool) (M' : Nat → la_W), Oth s σ σ1 → SpC σ1 s q n pv' M' → (∀ v, la_S q pv' M' v ↔ la_Sp q (la_un (la_G pv M) (fun w => ∃ p, p < i ∧ pv1 p = true ∧ w = M1 p)) v) → lX3_joinSpace_2 s s1 post (fun _ σ => post σ) (d + 1) (nI i) σ1 := by
    intro d
    induction d with
    | zero =>
      intro i hi σ1 pv' M' hO hS' hsp
      have hFx := hO.Fr hs hF
      refine And.intro (fun _ => ?_) (fun hc => absurd (by rw [hFx.2.2.1]; exact nI_le (by omega) (by omega)) hc)
      refine hp σ1 pv' M' hO hS' (fun v => (hsp v).trans (la_Sp.congr (fun w => ?_) v))
      exact or_congr Iff.rfl ⟨fun ⟨p, _, h1, h2⟩ => ⟨p, h1, h2⟩, fun ⟨p, h1, h2⟩ => ⟨p, by have := hS1.1.1 p h1; omega, h1, h2⟩⟩
    | succ d ih =>
      intro i hi σ1 pv' M' hO hS' hsp
      have hFx := hO.Fr hs hF
      have hS1x := hO.Sp hs hs1 hne hS1
      refine And.intro (fun hc => absurd hc (by rw [hFx.2.2.1]; exact nI_ge (by omega) (by omega))) (fun _ => ?_)
      refine pX3_isPivot hFx hS1x.2.1 (by omega) ?_
      by_cases hpi : pv1 i = true
      · have hVi := (hS1.1.2 i hpi).1
        rw [la_b_t hpi]
        refine And.intro (fun hc => absurd hc i1_0) (fun _ => ?_)
        rw [hFx.2.2.1, nI_m6, nI_clamp (show i * 6 < 2 ^ 31 by omega), nI_clamp (show n < 2 ^ 31 by omega), hs.lenFresh, hs1.lenCells]
        refine ⟨nI_pos (by omega), nI_0lt, nI_pos (by omega), by omega, by rw [show Int32.toNatClampNeg 0 = 0 from rfl]; omega, ?_⟩
        have hF1 := hFx.sA (a := s + 2) (by omega) (va_cpy (σ1 (s1 + 1)) (σ1 (s + 2)) (i * 6) (Int32.toNatClampNeg 0) n)
        refine pX3_joinFresh hF1 hs (hS'.eq (by rw [sA_ne _ _ (by omega)]) (fun k => by rw [sA_ne _ _ (by omega)])) hVi (fun c hc => ?_) (fun σ2 pv2 M2 hO2 hS2 hsp2 => ?_)
        · rw [sA_same]
          show va_cpy (σ1 (s1 + 1)) (σ1 (s + 2)) (i * 6) 0 n c = _
          rw [pk_cpy_in (by omega) (by omega), Nat.sub_zero]
          exact hS1x.2.2 i hpi c hc
        · rw [nI_1]
          refine ih (i + 1) (by omega) σ2 pv2 M2 (hO.trans ((Oth.fresh _).trans hO2)) hS2 (fun v => (hsp2 v).trans ((la_up_cong hsp (M1 i) v).trans (la_Sp.congr (fun w => ?_) v)))
          constructor
          · rintro ((h | ⟨p, h1, h2, h3⟩) | rfl)
            · exact Or.inl h
            · exact Or.inr ⟨p, by omega, h2, h3⟩
            · exact Or.inr ⟨i, by omega, hpi, rfl⟩
          · rintro (h | ⟨p, h1, h2, h3⟩)
            · exact Or.inl (Or.inl h)
            · rcases Nat.lt_or_ge p i with x | x
              · exact Or.inl (Or.inr ⟨p, x, h2, h3⟩)
              · have e : p = i := by omega
                subst e
                exact Or.inr h3
      · rw [la_b_f hpi, nI_1]
        refine And.intro (fun _ => ?_) (fun hc => absurd rfl hc)
        refine ih (i + 1) (by omega) σ1 pv' M' hO hS' (fun v => (hsp v).trans (la_Sp.congr (fun w => or_congr Iff.rfl ⟨fun ⟨p, h1, h2⟩ => ⟨p, by omega, h2⟩, fun ⟨p, h1, h2, h3⟩ => ?_⟩) v))
        rcases Nat.lt_or_ge p i with x | x
        · exact ⟨p, x, h2, h3⟩
        · have e : p = i := by omega
          subst e; exact absurd h2 hpi
  refine ⟨n + 1, key n 0 (by omega) σ pv M Oth.rf hS (fun v => la_Sp.congr (fun w => ?_) v)⟩
  exact ⟨fun h => Or.inl h, fun h => h.elim id (fun ⟨p, h1, _⟩ => absurd h1 (Nat.not_lt_zero _))⟩
theorem pX3_distance {σ : ss_S} {q n : Nat} (hF : FrC σ q n) {s a b : Nat} (hs : isSp s) (ha : isSp a) (hb : isSp b) (hna : a ≠ s) (hnb : b ≠ s) {pva pvb : Nat → Bool} {Ma Mb : Nat → la_W} (hSa : SpC σ a q n pva Ma) (hSb : SpC σ b q n pvb Mb) {post : Int32 → ss_S → Prop}
    (hp : ∀ (σ' : ss_S) (pv' : Nat → Bool) (M' : Nat → la_W), Oth s σ σ' → SpC σ' s q n pv' M' → (∀ v, la_S q pv' M' v ↔ la_Sp q (la_un (la_G pva Ma) (la_G pvb Mb)) v) → post (nI 2 * nI (fb_ct pv' n) - nI (fb_ct pva n) - nI (fb_ct pvb n)) σ') : wX3_distance s a b σ post := by
  have h6 := hF.1.n6
  unfold wX3_distance
  refine pX3_copyFrom h6 hs ha (Ne.symm hna) hSa (fun σ1 hO1 hS1 => ?_)
  refine pX3_joinSpace (hO1.Fr hs hF) hs hb hnb hS1 (hO1.Sp hs hb hnb hSb) (fun σ2 pv' M' hO2 hS2 hsp => ?_)
  have hO := hO1.trans hO2
  refine pX3_rank h6 hS2.2.1 (pX3_rank h6 (hO.Sp hs ha hna hSa).2.1 (pX3_rank h6 (hO.Sp hs hb hnb hSb).2.1 ?_))
  exact hp σ2 pv' M' hO hS2 hsp
theorem pX3_settledFigure {σ : ss_S} {q n : Nat} (hF : FrC σ q n) {s : Nat} (hs : isSp s) {pv : Nat → Bool} {M : Nat → la_W} (hS : SpC σ s q n pv M) {v : la_W} (hv : la_V q n v) {a o : Nat} (hlen : o + n ≤ lenC a) (hvσ : ∀ c, c < n → σ a (o + c) = nI (v c)) {c : Nat} (hc : c < n) {post : Int32 → ss_S → Prop}
    (hp : post (nI (fb_sm (fun p => if pv p = true then v p * M p c else 0) c % q)) σ) : wX3_settledFigure s a (nI o) (nI c) σ post := by
  have hq := hF.1
  have h6 := hq.n6
  have h5 := hq.five
  have hq0 := hq.pos
  have hl : lenC a ≤ 36 := by unfold lenC; split <;> omega
  have hterm : ∀ p, (if pv p = true then v p * M p c else 0) ≤ 25 := by
    intro p
    by_cases e : pv p = true
    · rw [if_pos e]
      show v p * M p c ≤ 5 * 5
      exact Nat.mul_le_mul (by have := hv.1 p; omega) (by have := (hS.1.2 p e).1.1 c; omega)
    · rw [if_neg e]; omega
  have hsum : ∀ i, fb_sm (fun p => if pv p = true then v p * M p c else 0) i ≤ i * 25 := fun i => fb_sm_bound (fun k _ => hterm k)
  have key : ∀ d i, i + d = c → lX3_settledFigure_6 s a (nI o) (nI c) post (fun x4_3 _ σ_3 => (¬ (σ_3 1 0) = 0 ∧ post (x4_3 - x4_3 / (σ_3 1 0) * (σ_3 1 0)) σ_3)) (d + 1) (nI (fb_sm (fun p => if pv p = true then v p * M p c else 0) i)) (nI i) σ := by
    intro d
    induction d with
    | zero =>
      intro i hi
      refine And.intro (fun _ => ?_) (fun hc => absurd (nI_le (by omega) (by omega)) hc)
      have hb := hsum i
      dsimp only
      rw [hF.2.1, pk_rem (by omega) hq0 (by omega), show i = c by omega]
      exact And.intro (nI_q0 hq0 (by omega)) hp
    | succ d ih =>
      intro i hi
      have hf := ih (i + 1) (by omega)
      rw [fb_sm_succ] at hf
      refine And.intro (fun hc => absurd hc (nI_ge (by omega) (by omega))) (fun _ => ?_)
      refine pX3_isPivot hF hS.2.1 (by omega) ?_
      by_cases hpi : pv i = true
      · rw [la_b_t hpi]
        rw [if_pos hpi] at hf
        refine And.intro (fun hc => absurd hc i1_0) (fun _ => ?_)
        rw [nI_add, nI_m6, nI_add, hs.lenCells]
        refine And.intro (vp_in_nI (by omega) (by omega)) (And.intro (vp_in_nI (by omega) (by omega)) ?_)
        rw [nI_clamp (by omega), nI_clamp (by omega), hvσ i (by omega), hS.2.2 i hpi c hc, pk_mul, nI_add, nI_1]
        exact hf
      · rw [la_b_f hpi, nI_1]
        rw [if_neg hpi, Nat.add_zero] at hf
        exact And.intro (fun _ => hf) (fun hc => absurd rfl hc)
  exact ⟨c + 1, key c 0 (by omega)⟩
theorem la_cb_to {q n : Nat} {pv : Nat → Bool} {M : Nat → la_W} (hR : la_R q n pv M) {c : Nat} (hc : c < n) (hpc : ¬ pv c = true) (v : la_W) : la_cb q n pv M v c = fb_sm (fun p => if pv p = true then v p * M p c else 0) c % q := by
  have key : ∀ d, fb_sm (fun p => if pv p = true then v p * M p c else 0) (c + d) = fb_sm (fun p => if pv p = true then v p * M p c else 0) c := by
    intro d
    induction d with
    | zero => rfl
    | succ d ih =>
      show fb_sm _ (c + d + 1) = _
      rw [fb_sm_succ, ih]
      by_cases e : pv (c + d) = true
      · rw [if_pos e]
        have hd : c < c + d := by
          rcases Nat.eq_zero_or_pos d with x | x
          · rw [x, Nat.add_zero] at e; exact absurd e hpc
          · omega
        rw [(hR.2 _ e).2.2.1 c hd, Nat.mul_zero, Nat.add_zero]
      · rw [if_neg e, Nat.add_zero]
  unfold la_cb
  rw [show n = c + (n - c) by omega, key]
theorem la_cb_piv {q n : Nat} {pv : Nat → Bool} {M : Nat → la_W} (hR : la_R q n pv M) {c : Nat} (hpc : pv c = true) {v : la_W} (hv : v c < q) : la_cb q n pv M v c = v c := by
  unfold la_cb
  rw [la_sm_one (p := c) (hR.1 c hpc) (fun j hj hne => by
    by_cases e : pv j = true
    · rw [if_pos e, (hR.2 j e).2.2.2 c hpc (Ne.symm hne), Nat.mul_zero]
    · rw [if_neg e])]
  rw [if_pos hpc, (hR.2 c hpc).2.1, Nat.mul_one, Nat.mod_eq_of_lt hv]
theorem pX3_holds {σ : ss_S} {q n : Nat} (hF : FrC σ q n) {s : Nat} (hs : isSp s) {pv : Nat → Bool} {M : Nat → la_W} (hS : SpC σ s q n pv M) {v : la_W} (hv : la_V q n v) {a o : Nat} (hlen : o + n ≤ lenC a) (hvσ : ∀ c, c < n → σ a (o + c) = nI (v c)) {post : Int32 → ss_S → Prop}
    (h1 : la_S q pv M v → post 1 σ) (h0 : ¬ la_S q pv M v → post 0 σ) : wX3_holds s a (nI o) σ post := by
  have hq := hF.1
  have h6 := hq.n6
  have h5 := hq.five
  have hq0 := hq.pos
  have hl : lenC a ≤ 36 := by unfold lenC; split <;> omega
  have key : ∀ d i, i + d = n → (∀ c, c < i → v c = la_cb q n pv M v c) → lX3_holds_2 s a (nI o) post (fun _ σ => post 1 σ) (d + 1) (nI i) σ := by
    intro d
    induction d with
    | zero =>
      intro i hi hall
      refine And.intro (fun _ => ?_) (fun hc => absurd (by rw [hF.2.2.1]; exact nI_le (by omega) (by omega)) hc)
      exact h1 ((la_S.H hq0 hS.1 v).mpr ⟨hv, fun c hc => hall c (by omega)⟩)
    | succ d ih =>
      intro i hi hall
      refine And.intro (fun hc => absurd hc (by rw [hF.2.2.1]; exact nI_ge (by omega) (by omega))) (fun _ => ?_)
      refine pX3_isPivot hF hS.2.1 (by omega) ?_
      by_cases hpi : pv i = true
      · rw [la_b_t hpi, nI_1]
        refine And.intro (fun _ => ih (i + 1) (by omega) (fun c hc => ?_)) (fun hc => absurd hc i1_0)
        rcases Nat.lt_or_ge c i with x | x
        · exact hall c x
        · rw [show c = i by omega, la_cb_piv hS.1 hpi (hv.1 i)]
      · rw [la_b_f hpi]
        refine And.intro (fun hc => absurd rfl hc) (fun _ => ?_)
        refine pX3_settledFigure hF hs hS hv hlen hvσ (show i < n by omega) ?_
        rw [nI_add]
        refine And.intro (vp_in_nI (by omega) (by omega)) ?_
        rw [nI_clamp (by omega), hvσ i (by omega), ← la_cb_to hS.1 (by omega) hpi, nI_1]
        have hb1 : la_cb q n pv M v i < q := Nat.mod_lt _ hq0
        have hb2 := hv.1 i
        refine And.intro (fun hc => ?_) (fun hc => ?_)
        · rw [nI_eq (by omega) (by omega)] at hc
          refine ih (i + 1) (by omega) (fun c hcl => ?_)
          rcases Nat.lt_or_ge c i with x | x
          · exact hall c x
          · rw [show c = i by omega]; exact hc.symm
        · rw [nI_eq (by omega) (by omega)] at hc
          exact h0 (fun hin => hc (((la_S.H hq0 hS.1 v).mp hin).2 i (by omega)).symm)
  exact ⟨n + 1, key n 0 (by omega) (fun c hc => absurd hc (Nat.not_lt_zero _))⟩
