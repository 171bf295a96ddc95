theorem vc_cases {q n : Nat} (hq : la_q q n) (x : Int32) : (∃ u, la_V q n u ∧ x = nI (la_val q u n)) ∨ ∀ v, v < q ^ n → x ≠ nI v := by
  rcases n_cases (q ^ n) x with ⟨v, hv, e⟩ | h
  · exact Or.inl ⟨la_dig q n v, la_dig_V hq.pos, by rw [la_val_dig hv]; exact e⟩
  · exact Or.inr h
theorem vl {q n : Nat} {u : la_W} (hu : la_V q n u) : la_val q u n < q ^ n := la_val_lt (fun c _ => hu.1 c)
def Wk (τ : ss_S) (q n o : Nat) (pv : Nat → Bool) (M : Nat → la_W) : Prop := ∀ p, pv p = true → τ 2 (o + fb_ct pv p) = nI (la_val q (M p) n)
theorem la_pt {n : Nat} (pv : Nat → Bool) : ∃ pt : Nat → Nat, ∀ i, i < fb_ct pv n → pt i < n ∧ pv (pt i) = true ∧ fb_ct pv (pt i) = i := by
  refine ⟨fun i => if h : i < fb_ct pv n then (fb_ct_kth h).choose else 0, fun i hi => ?_⟩
  dsimp only
  rw [dif_pos hi]
  exact (fb_ct_kth hi).choose_spec
theorem mSettle2 {τ : ss_S} {q n : Nat} (hF : FrM τ q n) {pva pvb : Nat → Bool} {Ma Mb : Nat → la_W} (hRa : la_R q n pva Ma) (hRb : la_R q n pvb Mb) (h7 : τ 0 7 = nI (fb_ct pva n + fb_ct pvb n)) (ha : Wk τ q n 0 pva Ma) (hb : Wk τ q n (fb_ct pva n) pvb Mb) {post : ss_S → Prop}
    (hp : ∀ (τ' : ss_S) (pv : Nat → Bool) (M : Nat → la_W), OthM τ τ' → la_R q n pv M → (∀ v, la_S q pv M v ↔ la_Sp q (la_un (la_G pva Ma) (la_G pvb Mb)) v) → τ' 0 7 = nI (fb_ct pv n) → Wk τ' q n 0 pv M → post τ') : wX5_settle τ post := by
  have h6 := hF.1.n6
  have la := fb_ct_le pva n
  have lb := fb_ct_le pvb n
  obtain ⟨pa, hpa⟩ := la_pt (n := n) pva
  obtain ⟨pb, hpb⟩ := la_pt (n := n) pvb
  refine pX5_settle hF (m := fb_ct pva n + fb_ct pvb n) (by omega) h7 (g := fun i => if i < fb_ct pva n then Ma (pa i) else Mb (pb (i - fb_ct pva n))) (fun i hi => ?_) (fun i hi => ?_) (fun τ' pv M hO hR hS _ h7' hr => hp τ' pv M hO hR (fun v => (hS v).trans (la_Sp.congr (fun w => ?_) v)) h7' (fun p hpp => by rw [Nat.zero_add]; exact hr p hpp))
  · by_cases c : i < fb_ct pva n
    · rw [if_pos c]; exact (hRa.2 _ (hpa i c).2.1).1
    · rw [if_neg c]; exact (hRb.2 _ (hpb _ (by omega)).2.1).1
  · by_cases c : i < fb_ct pva n
    · rw [if_pos c]
      have := ha _ (hpa i c).2.1
      rwa [(hpa i c).2.2, Nat.zero_add] at this
    · rw [if_neg c]
      have hh := hpb (i - fb_ct pva n) (by omega)
      have := hb _ hh.2.1
      rwa [hh.2.2, show fb_ct pva n + (i - fb_ct pva n) = i by omega] at this
  · constructor
    · rintro ⟨i, hi, rfl⟩
      dsimp only
      by_cases c : i < fb_ct pva n
      · rw [if_pos c]; exact Or.inl ⟨_, (hpa i c).2.1, rfl⟩
      · rw [if_neg c]; exact Or.inr ⟨_, (hpb _ (by omega)).2.1, rfl⟩
    · rintro (⟨p, h1, rfl⟩ | ⟨p, h1, rfl⟩)
      · have hl := la_ct_lt h1 (hRa.1 p h1)
        refine ⟨fb_ct pva p, by omega, ?_⟩
        dsimp only
        rw [if_pos hl, fb_ct_kth_one (hpa _ hl).2.1 h1 (hpa _ hl).2.2]
      · have hl := la_ct_lt h1 (hRb.1 p h1)
        refine ⟨fb_ct pva n + fb_ct pvb p, by omega, ?_⟩
        dsimp only
        rw [if_neg (by omega), Nat.add_sub_cancel_left, fb_ct_kth_one (hpb _ hl).2.1 h1 (hpb _ hl).2.2]
theorem mSettleV {τ : ss_S} {q n : Nat} (hF : FrM τ q n) {pva : Nat → Bool} {Ma : Nat → la_W} (hRa : la_R q n pva Ma) {u : la_W} (hu : la_V q n u) (h7 : τ 0 7 = nI (fb_ct pva n + 1)) (ha : Wk τ q n 0 pva Ma) (hb : τ 2 (fb_ct pva n) = nI (la_val q u n)) {post : ss_S → Prop}
    (hp : ∀ (τ' : ss_S) (pv : Nat → Bool) (M : Nat → la_W), OthM τ τ' → la_R q n pv M → (∀ v, la_S q pv M v ↔ la_Sp q (la_up (la_G pva Ma) u) v) → τ' 0 7 = nI (fb_ct pv n) → Wk τ' q n 0 pv M → post τ') : wX5_settle τ post := by
  have h6 := hF.1.n6
  have la := fb_ct_le pva n
  obtain ⟨pa, hpa⟩ := la_pt (n := n) pva
  refine pX5_settle hF (m := fb_ct pva n + 1) (by omega) h7 (g := fun i => if i < fb_ct pva n then Ma (pa i) else u) (fun i hi => ?_) (fun i hi => ?_) (fun τ' pv M hO hR hS _ h7' hr => hp τ' pv M hO hR (fun v => (hS v).trans (la_Sp.congr (fun w => ?_) v)) h7' (fun p hpp => by rw [Nat.zero_add]; exact hr p hpp))
  · by_cases c : i < fb_ct pva n
    · rw [if_pos c]; exact (hRa.2 _ (hpa i c).2.1).1
    · rw [if_neg c]; exact hu
  · by_cases c : i < fb_ct pva n
    · rw [if_pos c]
      have := ha _ (hpa i c).2.1
      rwa [(hpa i c).2.2, Nat.zero_add] at this
    · rw [if_neg c, show i = fb_ct pva n by omega]; exact hb
  · constructor
    · rintro ⟨i, hi, rfl⟩
      dsimp only
      by_cases c : i < fb_ct pva n
      · rw [if_pos c]; exact Or.inl ⟨_, (hpa i c).2.1, rfl⟩
      · rw [if_neg c]; exact Or.inr rfl
    · rintro (⟨p, h1, rfl⟩ | rfl)
      · have hl := la_ct_lt h1 (hRa.1 p h1)
        refine ⟨fb_ct pva p, by omega, ?_⟩
        dsimp only
        rw [if_pos hl, fb_ct_kth_one (hpa _ hl).2.1 h1 (hpa _ hl).2.2]
      · exact ⟨fb_ct pva n, by omega, by dsimp only; rw [if_neg (Nat.lt_irrefl _)]⟩
theorem mLoad {τ : ss_S} {q n k m : Nat} (hn : n ≤ 6) (hk : k < 12) {pv : Nat → Bool} {M : Nat → la_W} (hpv : ∀ p, pv p = true → p < n) (hS : SlM τ q n k pv M) (hm : m ≤ 12) (hw0 : τ 0 7 = nI m) {post : ss_S → Prop}
    (hp : ∀ τ' : ss_S, OthM τ τ' → τ' 0 7 = nI (m + fb_ct pv n) → (∀ j, j < m → τ' 2 j = τ 2 j) → Wk τ' q n m pv M → post τ') : wX5_load (nI k) τ post := by
  have hd := fb_ct_le pv n
  refine pX5_load hk (by omega) hS.1 (by omega) hw0 (fun τ' hO h7 h1 h2 => hp τ' hO h7 h1 (fun p hpp => ?_))
  rw [h2 _ (la_ct_lt hpp (hpv p hpp))]; exact hS.2 p hpp
theorem mLoadH {τ : ss_S} {q n k m : Nat} (hn : n ≤ 6) (hk : k < 40) {pv : Nat → Bool} {M : Nat → la_W} (hpv : ∀ p, pv p = true → p < n) (hS : HpM τ q n k pv M) (hm : m ≤ 12) (hw0 : τ 0 7 = nI m) {post : ss_S → Prop}
    (hp : ∀ τ' : ss_S, OthM τ τ' → τ' 0 7 = nI (m + fb_ct pv n) → (∀ j, j < m → τ' 2 j = τ 2 j) → Wk τ' q n m pv M → post τ') : wX5_loadHeap (nI k) τ post := by
  have hd := fb_ct_le pv n
  refine pX5_loadHeap hk (by omega) hS.1 (by omega) hw0 (fun τ' hO h7 h1 h2 => hp τ' hO h7 h1 (fun p hpp => ?_))
  rw [h2 _ (la_ct_lt hpp (hpv p hpp))]; exact hS.2 p hpp
theorem mSave {τ : ss_S} {q n t : Nat} (hn : n ≤ 6) (ht : t < 12) {pv : Nat → Bool} {M : Nat → la_W} (hpv : ∀ p, pv p = true → p < n) (h7 : τ 0 7 = nI (fb_ct pv n)) (hW : Wk τ q n 0 pv M) {post : Int32 → ss_S → Prop}
    (hp : ∀ τ' : ss_S, KpM t τ τ' → SlM τ' q n t pv M → post (nI (fb_ct pv n)) τ') : wX5_save (nI t) τ post := by
  have hd := fb_ct_le pv n
  refine pX5_save ht (by omega) h7 (fun f g h1 h2 h3 h4 => hp _ (KpM.save h1 h4) ⟨?_, fun p hpp => ?_⟩)
  · rw [sA_ne _ _ (by omega), sA_same]; exact h2
  · rw [sA_same, h3 _ (la_ct_lt hpp (hpv p hpp))]
    have := hW p hpp
    rwa [Nat.zero_add] at this
theorem SlM.oth {τ τ' : ss_S} {q n k : Nat} {pv : Nat → Bool} {M : Nat → la_W} (hS : SlM τ q n k pv M) (h : OthT τ τ') : SlM τ' q n k pv M := ⟨by rw [h.1 4 (by omega) (by omega) (by omega)]; exact hS.1, fun p hp => by rw [h.1 5 (by omega) (by omega) (by omega)]; exact hS.2 p hp⟩
theorem HpM.oth {τ τ' : ss_S} {q n k : Nat} {pv : Nat → Bool} {M : Nat → la_W} (hS : HpM τ q n k pv M) (h : OthT τ τ') : HpM τ' q n k pv M := ⟨by rw [h.1 8 (by omega) (by omega) (by omega)]; exact hS.1, fun p hp => by rw [h.1 9 (by omega) (by omega) (by omega)]; exact hS.2 p hp⟩
theorem w7_at {τ : ss_S} (x : Int32) : u2 τ 0 7 x 0 7 = x := by rw [u2_at, pk_us]
theorem mLoad0 {τ : ss_S} {q n k : Nat} (hn : n ≤ 6) (hk : k < 12) {pv : Nat → Bool} {M : Nat → la_W} (hpv : ∀ p, pv p = true → p < n) (hS : SlM τ q n k pv M) {post : ss_S → Prop}
    (hp : ∀ τ' : ss_S, OthM τ τ' → τ' 0 7 = nI (fb_ct pv n) → Wk τ' q n 0 pv M → post τ') : wX5_load (nI k) (u2 τ 0 7 0) post := by
  refine mLoad hn hk hpv (hS.oth (OthM.w7 0).toT) (m := 0) (by omega) (w7_at 0) (fun τ' hO h7 _ hW => hp τ' ((OthM.w7 0).trans hO) ?_ hW)
  rwa [Nat.zero_add] at h7
theorem mLoadH0 {τ : ss_S} {q n k : Nat} (hn : n ≤ 6) (hk : k < 40) {pv : Nat → Bool} {M : Nat → la_W} (hpv : ∀ p, pv p = true → p < n) (hS : HpM τ q n k pv M) {post : ss_S → Prop}
    (hp : ∀ τ' : ss_S, OthM τ τ' → τ' 0 7 = nI (fb_ct pv n) → Wk τ' q n 0 pv M → post τ') : wX5_loadHeap (nI k) (u2 τ 0 7 0) post := by
  refine mLoadH hn hk hpv (hS.oth (OthM.w7 0).toT) (m := 0) (by omega) (w7_at 0) (fun τ' hO h7 _ hW => hp τ' ((OthM.w7 0).trans hO) ?_ hW)
  rwa [Nat.zero_add] at h7
theorem Wk.keep {τ τ' : ss_S} {q n : Nat} {pv : Nat → Bool} {M : Nat → la_W} (hpv : ∀ p, pv p = true → p < n) (h : Wk τ q n 0 pv M) (e : ∀ j, j < fb_ct pv n → τ' 2 j = τ 2 j) : Wk τ' q n 0 pv M := fun p hp => by
  have := la_ct_lt hp (hpv p hp)
  rw [e _ (by omega)]; exact h p hp
theorem mJoined {τ : ss_S} {q n a b : Nat} (hF : FrM τ q n) (ha : a < 12) (hb : b < 12) {pva pvb : Nat → Bool} {Ma Mb : Nat → la_W} (hRa : la_R q n pva Ma) (hSa : SlM τ q n a pva Ma) (hRb : la_R q n pvb Mb) (hSb : SlM τ q n b pvb Mb) {post : Int32 → ss_S → Prop}
    (hp : ∀ (τ' : ss_S) (pv : Nat → Bool) (M : Nat → la_W), OthM τ τ' → la_R q n pv M → (∀ v, la_S q pv M v ↔ la_Sp q (la_un (la_G pva Ma) (la_G pvb Mb)) v) → τ' 0 7 = nI (fb_ct pv n) → Wk τ' q n 0 pv M → post (nI (fb_ct pv n)) τ') : wX5_joined (nI a) (nI b) τ post := by
  have h6 := hF.1.n6
  have la := fb_ct_le pva n
  unfold wX5_joined
  refine mLoad0 h6 ha hRa.1 hSa (fun τ1 hO1 h71 hW1 => ?_)
  refine mLoad h6 hb hRb.1 (hSb.oth hO1.toT) (by omega) h71 (fun τ2 hO2 h72 hk2 hW2 => ?_)
  have hO := hO1.trans hO2
  refine mSettle2 (hO.toT.Fr hF) hRa hRb h72 (hW1.keep hRa.1 hk2) hW2 (fun τ3 pv M hO3 hR hS h73 hW3 => ?_)
  rw [h73]
  exact hp τ3 pv M (hO.trans hO3) hR hS h73 hW3
theorem mTurn {τ : ss_S} {q n : Nat} (hF : FrM τ q n) {pv : Nat → Bool} {M : Nat → la_W} (hR : la_R q n pv M) (h7 : τ 0 7 = nI (fb_ct pv n)) (hW : Wk τ q n 0 pv M) {post : ss_S → Prop}
    (hp : ∀ (τ' : ss_S) (pv' : Nat → Bool) (M' : Nat → la_W), OthT τ τ' → la_R q n pv' M' → (∀ v, la_S q pv' M' v ↔ la_Sp q (la_dG q n pv M n) v) → τ' 0 7 = nI (fb_ct pv' n) → Wk τ' q n 0 pv' M' → post τ') : wX5_turn τ post :=
  pX5_turn hF hR h7 (fun p hpp => by have := hW p hpp; rwa [Nat.zero_add] at this) (fun τ' pv' M' hO hR' hS h7' hr => hp τ' pv' M' hO hR' hS h7' (fun p hpp => by rw [Nat.zero_add]; exact hr p hpp))
theorem la_dG_cong {q n : Nat} {pv : Nat → Bool} {M M' : Nat → la_W} (h : ∀ p, pv p = true → M p = M' p) (i : Nat) (w : la_W) : la_dG q n pv M i w ↔ la_dG q n pv M' i w := by
  have e : ∀ fr, la_dv q n pv M fr = la_dv q n pv M' fr := fun fr => by
    funext c
    unfold la_dv
    by_cases h1 : c = fr
    · rw [if_pos h1, if_pos h1]
    · rw [if_neg h1, if_neg h1]
      by_cases h2 : c < n ∧ pv c = true
      · rw [if_pos h2, if_pos h2, h c h2.2]
      · rw [if_neg h2, if_neg h2]
  unfold la_dG
  constructor
  · rintro ⟨fr, a, b, rfl⟩; exact ⟨fr, a, b, e fr⟩
  · rintro ⟨fr, a, b, rfl⟩; exact ⟨fr, a, b, (e fr).symm⟩
theorem la_uniqG {q n : Nat} (hq : 1 < q) {pv1 pv2 : Nat → Bool} {M1 M2 : Nat → la_W} {G : la_W → Prop} (h1 : la_R q n pv1 M1) (h2 : la_R q n pv2 M2) (e1 : ∀ v, la_S q pv1 M1 v ↔ la_Sp q G v) (e2 : ∀ v, la_S q pv2 M2 v ↔ la_Sp q G v) : pv1 = pv2 ∧ ∀ p, pv1 p = true → M1 p = M2 p := la_uniq hq h1 h2 (fun v => (e1 v).trans (e2 v).symm)
theorem SlM.cong {τ : ss_S} {q n k : Nat} {pv : Nat → Bool} {M M' : Nat → la_W} (hS : SlM τ q n k pv M) (h : ∀ p, pv p = true → M' p = M p) : SlM τ q n k pv M' := ⟨hS.1, fun p hp => by rw [h p hp]; exact hS.2 p hp⟩
