def SlI (σ τ : ss_S) (q n k : Nat) : Prop := ∃ (pv : Nat → Bool) (M : Nat → la_W), SpC σ (9 + 3 * k) q n pv M ∧ SlM τ q n k pv M
def HpI (σ τ : ss_S) (q n k : Nat) : Prop := ∃ (pv : Nat → Bool) (M : Nat → la_W), SpC σ (45 + 3 * k) q n pv M ∧ HpM τ q n k pv M
def InvQ (σ τ : ss_S) (q n h g r : Nat) : Prop := FrC σ q n ∧ FrM τ q n ∧ (h ≤ 40 ∧ σ 3 2 = nI h ∧ τ 0 13 = nI h) ∧ (g ≤ 10 ∧ σ 0 7 = nI g ∧ τ 0 4 = nI g) ∧ (r ≤ 60 ∧ σ 0 8 = nI r ∧ τ 0 5 = nI r) ∧ (∀ k, k < 12 → SlI σ τ q n k) ∧ (∀ i, i < h → HpI σ τ q n i) ∧ ∃ T : Nat → la_W, LnC σ q n T ∧ LnM τ q n T
def Inv (σ τ : ss_S) : Prop := ∃ q n h g r, InvQ σ τ q n h g r
def KpC (t : Nat) (σ σ' : ss_S) : Prop := σ' 0 = σ 0 ∧ σ' 1 = σ 1 ∧ σ' 3 = σ 3 ∧ σ' 7 = σ 7 ∧ ∀ s, isSp s → s < 165 → s ≠ t → (σ' s 3 = σ s 3 ∧ ∀ k, σ' (s + 1) k = σ (s + 1) k)
theorem KpC.rf {t : Nat} {σ : ss_S} : KpC t σ σ := ⟨rfl, rfl, rfl, rfl, fun _ _ _ _ => ⟨rfl, fun _ => rfl⟩⟩
theorem KpC.trans {t : Nat} {a b c : ss_S} (h : KpC t a b) (h' : KpC t b c) : KpC t a c :=
  ⟨h'.1.trans h.1, h'.2.1.trans h.2.1, h'.2.2.1.trans h.2.2.1, h'.2.2.2.1.trans h.2.2.2.1, fun s x y z => ⟨(h'.2.2.2.2 s x y z).1.trans (h.2.2.2.2 s x y z).1, fun k => ((h'.2.2.2.2 s x y z).2 k).trans ((h.2.2.2.2 s x y z).2 k)⟩⟩
theorem KpC.any {t : Nat} {a b : ss_S} (h : KpC 0 a b) : KpC t a b := ⟨h.1, h.2.1, h.2.2.1, h.2.2.2.1, fun s x y _ => h.2.2.2.2 s x y (by have := x.1; omega)⟩
theorem Oth8.kp {s : Nat} {σ σ' : ss_S} (hs : isSp s) (h : Oth8 s σ σ') : KpC s σ σ' := by
  obtain ⟨a, b, c⟩ := hs
  refine ⟨h 0 (by omega) (by omega) (by omega) (by omega), h 1 (by omega) (by omega) (by omega) (by omega), h 3 (by omega) (by omega) (by omega) (by omega), h 7 (by omega) (by omega) (by omega) (by omega), fun s' x y z => ?_⟩
  obtain ⟨x1, x2, x3⟩ := x
  exact ⟨by rw [h s' (by omega) (by omega) (by omega) (by omega)], fun k => by rw [h (s' + 1) (by omega) (by omega) (by omega) (by omega)]⟩
theorem Oth8.kp0 {s : Nat} {σ σ' : ss_S} (hs : isSp s) (h165 : 165 ≤ s) (h : Oth8 s σ σ') : KpC 0 σ σ' := by
  have k := h.kp hs
  exact ⟨k.1, k.2.1, k.2.2.1, k.2.2.2.1, fun s' x y _ => k.2.2.2.2 s' x y (by omega)⟩
theorem Oth.kp {s : Nat} {σ σ' : ss_S} (hs : isSp s) (h : Oth s σ σ') : KpC s σ σ' := h.to8.kp hs
theorem Oth.kp0 {s : Nat} {σ σ' : ss_S} (hs : isSp s) (h165 : 165 ≤ s) (h : Oth s σ σ') : KpC 0 σ σ' := h.to8.kp0 hs h165
theorem KpC.fig {σ : ss_S} (f : Nat → Int32) : KpC 0 σ (sA σ 6 f) :=
  ⟨sA_ne _ _ (by omega), sA_ne _ _ (by omega), sA_ne _ _ (by omega), sA_ne _ _ (by omega), fun s x _ _ => by have := x.1; exact ⟨by rw [sA_ne _ _ (by omega)], fun k => by rw [sA_ne _ _ (by omega)]⟩⟩
theorem KpC.res {σ : ss_S} (f : Nat → Int32) : KpC 0 σ (sA σ 8 f) :=
  ⟨sA_ne _ _ (by omega), sA_ne _ _ (by omega), sA_ne _ _ (by omega), sA_ne _ _ (by omega), fun s x _ _ => by have := x.1; exact ⟨by rw [sA_ne _ _ (by omega)], fun k => by rw [sA_ne _ _ (by omega)]⟩⟩
def KpM (t : Nat) (τ τ' : ss_S) : Prop := τ' 1 = τ 1 ∧ τ' 8 = τ 8 ∧ τ' 9 = τ 9 ∧ (∀ j, j ≠ 7 → τ' 0 j = τ 0 j) ∧ ∀ k, k < 12 → k ≠ t → (τ' 4 k = τ 4 k ∧ ∀ j, j < 6 → τ' 5 (6 * k + j) = τ 5 (6 * k + j))
theorem KpM.rf {t : Nat} {τ : ss_S} : KpM t τ τ := ⟨rfl, rfl, rfl, fun _ _ => rfl, fun _ _ _ => ⟨rfl, fun _ _ => rfl⟩⟩
theorem KpM.trans {t : Nat} {a b c : ss_S} (h : KpM t a b) (h' : KpM t b c) : KpM t a c :=
  ⟨h'.1.trans h.1, h'.2.1.trans h.2.1, h'.2.2.1.trans h.2.2.1, fun j hj => (h'.2.2.2.1 j hj).trans (h.2.2.2.1 j hj), fun k x y => ⟨(h'.2.2.2.2 k x y).1.trans (h.2.2.2.2 k x y).1, fun j hj => ((h'.2.2.2.2 k x y).2 j hj).trans ((h.2.2.2.2 k x y).2 j hj)⟩⟩
theorem OthT.kp {t : Nat} {τ τ' : ss_S} (h : OthT τ τ') : KpM t τ τ' :=
  ⟨h.1 1 (by omega) (by omega) (by omega), h.1 8 (by omega) (by omega) (by omega), h.1 9 (by omega) (by omega) (by omega), h.2, fun k _ _ => ⟨by rw [h.1 4 (by omega) (by omega) (by omega)], fun j _ => by rw [h.1 5 (by omega) (by omega) (by omega)]⟩⟩
theorem OthM.kp {t : Nat} {τ τ' : ss_S} (h : OthM τ τ') : KpM t τ τ' := h.toT.kp
theorem KpM.save {t : Nat} {τ : ss_S} {f g : Nat → Int32} (h1 : ∀ k, k ≠ t → f k = τ 4 k) (h2 : ∀ k j, k ≠ t → j < 6 → g (6 * k + j) = τ 5 (6 * k + j)) : KpM t τ (sA (sA τ 4 f) 5 g) := by
  refine ⟨by rw [sA_ne _ _ (by omega), sA_ne _ _ (by omega)], by rw [sA_ne _ _ (by omega), sA_ne _ _ (by omega)], by rw [sA_ne _ _ (by omega), sA_ne _ _ (by omega)], fun j _ => by rw [sA_ne _ _ (by omega), sA_ne _ _ (by omega)], fun k _ hk => ⟨?_, fun j hj => ?_⟩⟩
  · rw [sA_ne _ _ (by omega), sA_same]; exact h1 k hk
  · rw [sA_same]; exact h2 k j hk hj
theorem isSp_sl {k : Nat} (h : k < 12) : isSp (9 + 3 * k) := ⟨by omega, by omega, by omega⟩
theorem isSp_hp {k : Nat} (h : k < 40) : isSp (45 + 3 * k) := ⟨by omega, by omega, by omega⟩
theorem KpC.Fr {t q n : Nat} {σ σ' : ss_S} (h : KpC t σ σ') (hF : FrC σ q n) : FrC σ' q n := by
  obtain ⟨a, b, c, d⟩ := hF
  exact ⟨a, by rw [h.2.1]; exact b, by rw [h.2.1]; exact c, by rw [h.2.1]; exact d⟩
theorem KpC.Sp {t q n s : Nat} {σ σ' : ss_S} (h : KpC t σ σ') (hs : isSp s) (h165 : s < 165) (hne : s ≠ t) {pv : Nat → Bool} {M : Nat → la_W} (hS : SpC σ s q n pv M) : SpC σ' s q n pv M := hS.eq (h.2.2.2.2 s hs h165 hne).1 (h.2.2.2.2 s hs h165 hne).2
theorem KpM.Fr {t q n : Nat} {τ τ' : ss_S} (h : KpM t τ τ') (hF : FrM τ q n) : FrM τ' q n := by
  obtain ⟨a, b, c, d⟩ := hF
  exact ⟨a, by rw [h.2.2.2.1 0 (by omega)]; exact b, by rw [h.2.2.2.1 1 (by omega)]; exact c, by rw [h.2.2.2.1 2 (by omega)]; exact d⟩
theorem KpM.Sl {t q n k : Nat} {τ τ' : ss_S} (h : KpM t τ τ') (hn : n ≤ 6) (hk : k < 12) (hne : k ≠ t) {pv : Nat → Bool} {M : Nat → la_W} (hpv : ∀ p, pv p = true → p < n) (hS : SlM τ q n k pv M) : SlM τ' q n k pv M :=
  ⟨by rw [(h.2.2.2.2 k hk hne).1]; exact hS.1, fun p hp => by
    have := la_ct_lt hp (hpv p hp)
    have := fb_ct_le pv n
    rw [(h.2.2.2.2 k hk hne).2 _ (by omega)]; exact hS.2 p hp⟩
theorem KpM.Hp {t q n k : Nat} {τ τ' : ss_S} (h : KpM t τ τ') {pv : Nat → Bool} {M : Nat → la_W} (hS : HpM τ q n k pv M) : HpM τ' q n k pv M :=
  ⟨by rw [h.2.1]; exact hS.1, fun p hp => by rw [h.2.2.1]; exact hS.2 p hp⟩
theorem InvQ.stepG {σ τ σ' τ' : ss_S} {q n h g r t c0 : Nat} (I : InvQ σ τ q n h g r) (hC : KpC c0 σ σ') (hM : KpM t τ τ') (ht : ∀ _ : t < 12, SlI σ' τ' q n t) (h12 : (c0 = 9 + 3 * t ∧ t < 12) ∨ (c0 = 0 ∧ t = 12)) : InvQ σ' τ' q n h g r := by
  obtain ⟨a, b, c, d, e, f, i, T, T1, T2⟩ := I
  have h6 := a.1.n6
  refine ⟨hC.Fr a, hM.Fr b, ⟨c.1, by rw [hC.2.2.1]; exact c.2.1, by rw [hM.2.2.2.1 13 (by omega)]; exact c.2.2⟩, ⟨d.1, by rw [hC.1]; exact d.2.1, by rw [hM.2.2.2.1 4 (by omega)]; exact d.2.2⟩, ⟨e.1, by rw [hC.1]; exact e.2.1, by rw [hM.2.2.2.1 5 (by omega)]; exact e.2.2⟩, fun k hk => ?_, fun k hk => ?_, T, T1.eq hC.2.2.2.1, fun p hp => ⟨(T2 p hp).1, by rw [hM.1]; exact (T2 p hp).2⟩⟩
  · by_cases ek : k = t
    · subst ek; exact ht hk
    · obtain ⟨pv, M, s1, s2⟩ := f k hk
      exact ⟨pv, M, hC.Sp (isSp_sl hk) (by omega) (by omega) s1, hM.Sl h6 hk ek s1.1.1 s2⟩
  · obtain ⟨pv, M, s1, s2⟩ := i k hk
    have hh := c.1
    exact ⟨pv, M, hC.Sp (isSp_hp (by omega)) (by omega) (by omega) s1, hM.Hp s2⟩
theorem InvQ.keep {σ τ σ' τ' : ss_S} {q n h g r : Nat} (I : InvQ σ τ q n h g r) (hC : KpC 0 σ σ') (hM : KpM 12 τ τ') : InvQ σ' τ' q n h g r := I.stepG (t := 12) hC hM (fun h => absurd h (Nat.lt_irrefl _)) (Or.inr ⟨rfl, rfl⟩)
theorem InvQ.step {σ τ σ' τ' : ss_S} {q n h g r t : Nat} (I : InvQ σ τ q n h g r) (hC : KpC (9 + 3 * t) σ σ') (hM : KpM t τ τ') (ht : t < 12) (hs : SlI σ' τ' q n t) : InvQ σ' τ' q n h g r := I.stepG hC hM (fun _ => hs) (Or.inl ⟨rfl, ht⟩)
theorem sl_cases (x : Int32) : (∃ k, k < 12 ∧ x = nI k) ∨ ∀ k, k < 12 → x ≠ nI k := by
  by_cases h : ∃ k, k < 12 ∧ x = nI k
  · exact Or.inl h
  · exact Or.inr (fun k hk e => h ⟨k, hk, e⟩)
theorem n_cases (b : Nat) (x : Int32) : (∃ k, k < b ∧ x = nI k) ∨ ∀ k, k < b → x ≠ nI k := by
  by_cases h : ∃ k, k < b ∧ x = nI k
  · exact Or.inl h
  · exact Or.inr (fun k hk e => h ⟨k, hk, e⟩)
theorem cSlY {σ : ss_S} {k : Nat} (hk : k < 12) {post : Int32 → ss_S → Prop} (h : post 1 σ) : wX4_isSlot (nI k) σ post :=
  And.intro (fun hc => absurd hc (nI_pos (by omega))) (fun _ => And.intro (fun hc => absurd hc (nI_ge (b := 12) hk (by omega))) (fun _ => h))
theorem cSlN {σ : ss_S} {x : Int32} (hx : ∀ k, k < 12 → x ≠ nI k) {post : Int32 → ss_S → Prop} (h : post 0 σ) : wX4_isSlot x σ post := by
  refine And.intro (fun _ => h) (fun h1 => And.intro (fun _ => h) (fun h2 => ?_))
  obtain ⟨j, hj, rfl⟩ := nI_of h1
  have : j < 12 := by
    rcases Nat.lt_or_ge j 12 with y | y
    · exact y
    · exact absurd (nI_le (a := 12) y hj) h2
  exact absurd rfl (hx j this)
theorem mSlY {τ : ss_S} {k : Nat} (hk : k < 12) {post : Int32 → ss_S → Prop} (h : post 1 τ) : wX5_isSlot (nI k) τ post := pX5_isSlot (fun _ _ _ => h) (fun hx => absurd rfl (hx k hk))
theorem mSlN {τ : ss_S} {x : Int32} (hx : ∀ k, k < 12 → x ≠ nI k) {post : Int32 → ss_S → Prop} (h : post 0 τ) : wX5_isSlot x τ post := pX5_isSlot (fun k hk e => absurd e (hx k hk)) (fun _ => h)
theorem cVY {σ : ss_S} {q n : Nat} (hF : FrC σ q n) {v : Nat} (hv : v < q ^ n) {post : Int32 → ss_S → Prop} (h : post 1 σ) : wX0_isVector (nI v) σ post := pX0_isVector hF _ (fun _ _ _ => h) (fun hx => absurd rfl (hx v hv))
theorem cVN {σ : ss_S} {q n : Nat} (hF : FrC σ q n) {x : Int32} (hx : ∀ k, k < q ^ n → x ≠ nI k) {post : Int32 → ss_S → Prop} (h : post 0 σ) : wX0_isVector x σ post := pX0_isVector hF _ (fun k hk e => absurd e (hx k hk)) (fun _ => h)
theorem mVY {τ : ss_S} {q n : Nat} (hF : FrM τ q n) {v : Nat} (hv : v < q ^ n) {post : Int32 → ss_S → Prop} (h : post 1 τ) : wX5_isVector (nI v) τ post := pX5_isVector hF (fun _ _ _ => h) (fun hx => absurd rfl (hx v hv))
theorem mVN {τ : ss_S} {q n : Nat} (hF : FrM τ q n) {x : Int32} (hx : ∀ k, k < q ^ n → x ≠ nI k) {post : Int32 → ss_S → Prop} (h : post 0 τ) : wX5_isVector x τ post := pX5_isVector hF (fun k hk e => absurd e (hx k hk)) (fun _ => h)
theorem z0 {P : Int32 → Prop} {A B : Prop} (h : A) : ((0 : Int32) = 0 → A) ∧ (¬ (0 : Int32) = 0 → B) := ⟨fun _ => h, fun hc => absurd rfl hc⟩
theorem br0 {A B : Prop} (h : A) : ((0 : Int32) = 0 → A) ∧ (¬ (0 : Int32) = 0 → B) := ⟨fun _ => h, fun hc => absurd rfl hc⟩
theorem br1 {A B : Prop} (h : B) : ((1 : Int32) = 0 → A) ∧ (¬ (1 : Int32) = 0 → B) := ⟨fun hc => absurd hc i1_0, fun _ => h⟩
theorem rb0 {A B : Prop} (h : B) : (¬ (0 : Int32) = 0 → A) ∧ ((0 : Int32) = 0 → B) := ⟨fun hc => absurd rfl hc, fun _ => h⟩
theorem rb1 {A B : Prop} (h : A) : (¬ (1 : Int32) = 0 → A) ∧ ((1 : Int32) = 0 → B) := ⟨fun _ => h, fun hc => absurd hc i1_0⟩
theorem mAreY {τ : ss_S} {a b c : Nat} (ha : a < 12) (hb : b < 12) (hc : c < 12) {post : Int32 → ss_S → Prop} (h : post 1 τ) : wX5_areSlots (nI a) (nI b) (nI c) τ post := mSlY ha (br1 (mSlY hb (br1 (mSlY hc (br1 h)))))
theorem vin {k : Nat} (hk : k < 12) : vp_in (nI k) 12 := vp_in_nI hk (by omega)
theorem ncl {k : Nat} (hk : k < 12) : Int32.toNatClampNeg (nI k) = k := nI_clamp (by omega)
