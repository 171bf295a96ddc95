def FrC (σ : ss_S) (q n : Nat) : Prop := la_q q n ∧ σ 1 0 = nI q ∧ σ 1 1 = nI n ∧ σ 1 2 = nI (q ^ n)
theorem nI_ltI' {a b : Nat} (ha : a < 2 ^ 31) (hb : b < 2 ^ 31) : nI a < nI b ↔ a < b := nI_ltI ha hb
theorem nI_nle' {a b : Nat} (ha : a < 2 ^ 31) (hb : b < 2 ^ 31) : ¬ nI a ≤ nI b ↔ b < a := by rw [nI_leI ha hb]; omega
theorem nI_z : (0 : Int32) = nI 0 := rfl
theorem nI_o : (1 : Int32) = nI 1 := rfl
theorem nI_q0 {q : Nat} (h0 : 0 < q) (h : q < 2 ^ 31) : ¬ nI q = 0 := nI_ne0 h0 h
theorem pw_mono {q i e : Nat} (hq : 0 < q) (h : i ≤ e) : q ^ i ≤ q ^ e := Nat.pow_le_pow_right hq h
theorem pX0_power {σ : ss_S} {q : Nat} (h0 : σ 1 0 = nI q) {post : Int32 → ss_S → Prop} (e : Nat) (he : e < 2 ^ 31) (hp : post (nI (q ^ e)) σ) : wX0_power (nI e) σ post := by
  have key : ∀ d i, i + d = e → ∃ f, lX0_power_4 (nI e) post (fun x2 _ σ => post x2 σ) f (nI (q ^ i)) (nI i) σ := by
    intro d
    induction d with
    | zero =>
      intro i hi
      refine ⟨0 + 1, And.intro (fun _ => ?_) (fun h => absurd (nI_le (by omega) (by omega)) h)⟩
      rw [show i = e by omega]; exact hp
    | succ d ih =>
      intro i hi
      obtain ⟨f, hf⟩ := ih (i + 1) (by omega)
      refine ⟨f + 1, And.intro (fun h => absurd h (nI_ge (by omega) (by omega))) (fun _ => ?_)⟩
      rw [h0, pk_mul, nI_1, ← Nat.pow_succ]
      exact hf
  exact key e 0 (by omega)
theorem pX0_isVector {σ : ss_S} {q n : Nat} (hF : FrC σ q n) {post : Int32 → ss_S → Prop} (x : Int32) (h1 : ∀ v, v < q ^ n → x = nI v → post 1 σ) (h0 : (∀ v, v < q ^ n → x ≠ nI v) → post 0 σ) : wX0_isVector x σ post := by
  obtain ⟨hq, e0, e1, e2⟩ := hF
  have hb := la_pow_le hq
  refine And.intro (fun h => h0 (fun v hv e => ?_)) (fun h => ?_)
  · rw [e] at h; exact nI_pos (by omega) h
  · obtain ⟨j, hj, rfl⟩ := nI_of h
    rw [e2]
    refine And.intro (fun h' => h0 (fun v hv e => ?_)) (fun h' => ?_)
    · rw [nI_eq hj (by omega)] at e; rw [nI_leI (by omega) hj] at h'; omega
    · rw [nI_leI (by omega) hj] at h'; exact h1 j (by omega) rfl
theorem pX0_vectorNumber {σ : ss_S} {q n : Nat} (hF : FrC σ q n) {post : Int32 → ss_S → Prop} {a o : Nat} {v : la_W} (hv : ∀ c, c < n → σ a (o + c) = nI (v c)) (hlen : o + n ≤ lenC a) (hp : post (nI (la_val q v n)) σ) : wX0_vectorNumber a (nI o) σ post := by
  obtain ⟨hq, e0, e1, e2⟩ := hF
  have h6 := hq.n6
  have hl : lenC a ≤ 36 := by unfold lenC; split <;> omega
  have key : ∀ d i, i + d = n → ∃ f, lX0_vectorNumber_5 a (nI o) post (fun x3 _ σ => post x3 σ) f (nI (la_val q v i)) (nI i) σ := by
    intro d
    induction d with
    | zero =>
      intro i hi
      refine ⟨0 + 1, And.intro (fun _ => ?_) (fun h => absurd (by rw [e1]; exact nI_le (by omega) (by omega)) h)⟩
      rw [show i = n by omega]; exact hp
    | succ d ih =>
      intro i hi
      obtain ⟨f, hf⟩ := ih (i + 1) (by omega)
      refine ⟨f + 1, And.intro (fun h => absurd h (by rw [e1]; exact nI_ge (by omega) (by omega))) (fun _ => ?_)⟩
      rw [nI_add]
      refine And.intro (vp_in_nI (by omega) (by omega)) ?_
      rw [nI_clamp (by omega), hv i (by omega), e0, pk_mul, nI_add, nI_1]
      exact hf
  exact key n 0 (by omega)
theorem pX0_inverse {σ : ss_S} {q n : Nat} (hF : FrC σ q n) {post : Int32 → ss_S → Prop} {f : Nat} (hf : f < q) (hp : post (nI (f * f * f % q)) σ) : wX0_inverse (nI f) σ post := by
  obtain ⟨hq, e0, e1, e2⟩ := hF
  have h5 := hq.five
  have hq0 := hq.pos
  unfold wX0_inverse
  rw [e0, pk_mul, pk_mul]
  refine And.intro (nI_q0 hq0 (by omega)) ?_
  have hb : f * f * f < 2 ^ 31 := by
    have h1 : f * f ≤ 5 * 5 := Nat.mul_le_mul (by omega) (by omega)
    have h2 : f * f * f ≤ 5 * 5 * 5 := Nat.mul_le_mul h1 (by omega)
    omega
  rw [pk_rem hb hq0 (by omega)]
  exact hp
theorem u2_at (σ : ss_S) (a k : Nat) (x : Int32) : u2 σ a k x a = upd (σ a) k x := sA_same σ a _
theorem u2_ne (σ : ss_S) {a i : Nat} (k : Nat) (x : Int32) (h : i ≠ a) : u2 σ a k x i = σ i := sA_ne σ _ h
theorem sA_sA (σ : ss_S) (a : Nat) (f g : Nat → Int32) : sA (sA σ a f) a g = sA σ a g := by
  funext i; unfold sA; split <;> rfl
theorem u2_sA (σ : ss_S) (a k : Nat) (f : Nat → Int32) (x : Int32) : u2 (sA σ a f) a k x = sA σ a (upd f k x) := by
  unfold u2; rw [sA_same, sA_sA]
theorem sA_id (σ : ss_S) (a : Nat) : sA σ a (σ a) = σ := by
  funext i; unfold sA; split
  · next h => rw [h]
  · rfl
theorem FrC.sA {σ : ss_S} {q n : Nat} (hF : FrC σ q n) {a : Nat} (ha : a ≠ 1) (f : Nat → Int32) : FrC (sA σ a f) q n := by
  obtain ⟨hq, e0, e1, e2⟩ := hF
  exact ⟨hq, by rw [sA_ne _ _ (Ne.symm ha)]; exact e0, by rw [sA_ne _ _ (Ne.symm ha)]; exact e1, by rw [sA_ne _ _ (Ne.symm ha)]; exact e2⟩
theorem pX0_spell {σ : ss_S} {q n : Nat} (hF : FrC σ q n) {post : ss_S → Prop} {a o v : Nat} (ha : a ≠ 1) (hv : v < q ^ n) (hlen : o + n ≤ lenC a) (hp : post (sA σ a (fb_put (σ a) (fun c => nI (la_dig q n v c)) o n))) : wX0_spell (nI v) a (nI o) σ post := by
  have hF' := hF
  obtain ⟨hq, e0, e1, e2⟩ := hF
  have h6 := hq.n6
  have h5 := hq.five
  have hq0 := hq.pos
  have hn1 := hq.n1
  have hb := la_pow_le hq
  have hl : lenC a ≤ 36 := by unfold lenC; split <;> omega
  unfold wX0_spell
  rw [e1, nI_o, pk_sub hn1]
  have key : ∀ m, m ≤ n → ∃ f, lX0_spell_11 a (nI o) post (fun _ _ σ => post σ) f (nI (v / q ^ (n - m))) (nI m - nI 1) (sA σ a (fb_put (σ a) (fun k => nI (la_dig q n v (k + m))) (o + m) (n - m))) := by
    intro m
    induction m with
    | zero =>
      intro _
      refine ⟨0 + 1, And.intro (fun _ => ?_) (fun h => absurd (by decide) h)⟩
      simpa using hp
    | succ m ih =>
      intro hm
      obtain ⟨f, hf⟩ := ih (by omega)
      refine ⟨f + 1, ?_⟩
      rw [pk_sub (show 1 ≤ m + 1 by omega), Nat.add_sub_cancel]
      refine And.intro (fun h => absurd h (nI_pos (by omega))) (fun _ => ?_)
      have hx : v / q ^ (n - (m + 1)) < 2 ^ 31 := Nat.lt_of_le_of_lt (Nat.div_le_self _ _) (by omega)
      rw [sA_ne _ _ (Ne.symm ha), e0]
      refine And.intro (nI_q0 hq0 (by omega)) ?_
      rw [nI_add]
      refine And.intro (vp_in_nI (by omega) (by omega)) ?_
      rw [u2_sA, sA_ne _ _ (Ne.symm ha), e0]
      refine And.intro (nI_q0 hq0 (by omega)) ?_
      rw [nI_clamp (by omega), pk_rem hx hq0 (by omega), pk_div hx hq0 (by omega)]
      have e3 : v / q ^ (n - (m + 1)) % q = la_dig q n v m := by
        unfold la_dig; rw [if_pos (by omega), show n - (m + 1) = n - 1 - m by omega]
      have e4 : v / q ^ (n - (m + 1)) / q = v / q ^ (n - m) := by
        rw [Nat.div_div_eq_div_mul, ← Nat.pow_succ, show (n - (m + 1)).succ = n - m by omega]
      rw [e3, e4]
      have e5 := fb_put_down (σ a) (fun c => nI (la_dig q n v c)) (a := o) (n := n) (m := m) (by omega)
      have e6 : nI m + (-1) = nI m - nI 1 := by rw [Int32.sub_eq_add_neg]; rfl
      rw [e5, e6]
      exact hf
  have := key n (Nat.le_refl n)
  simp only [Nat.sub_self, Nat.pow_zero, Nat.div_one] at this
  have e7 : fb_put (σ a) (fun k => nI (la_dig q n v (k + n))) (o + n) 0 = σ a := fb_put_0 _ _ _
  rw [e7, sA_id, pk_sub hn1] at this
  exact this
theorem pX0_addMultiple {σ : ss_S} {q n : Nat} (hF : FrC σ q n) {post : ss_S → Prop} {a o b r k : Nat} {v w : la_W} (ha : a ≠ 1) (hlen : o + n ≤ lenC a) (hlen2 : r + n ≤ lenC b) (hv : ∀ c, c < n → σ a (o + c) = nI (v c)) (hw : ∀ c, c < n → σ b (r + c) = nI (w c)) (hvq : ∀ c, v c < q) (hwq : ∀ c, w c < q) (hk : k ≤ q) (hd : b ≠ a ∨ o + n ≤ r ∨ r + n ≤ o) (hp : post (sA σ a (fb_put (σ a) (fun c => nI (la_ad q v w k c)) o n))) : wX0_addMultiple a (nI o) b (nI r) (nI k) σ post := by
  obtain ⟨hq, e0, e1, e2⟩ := hF
  have h6 := hq.n6
  have h5 := hq.five
  have hq0 := hq.pos
  have hl : lenC a ≤ 36 := by unfold lenC; split <;> omega
  have hl2 : lenC b ≤ 36 := by unfold lenC; split <;> omega
  have key : ∀ d i, i + d = n → ∃ f, lX0_addMultiple_3 a (nI o) b (nI r) (nI k) post (fun _ σ => post σ) f (nI i) (sA σ a (fb_put (σ a) (fun c => nI (la_ad q v w k c)) o i)) := by
    intro d
    induction d with
    | zero =>
      intro i hi
      refine ⟨0 + 1, And.intro (fun _ => ?_) (fun h => absurd (by rw [sA_ne _ _ (Ne.symm ha), e1]; exact nI_le (by omega) (by omega)) h)⟩
      rw [show i = n by omega]; exact hp
    | succ d ih =>
      intro i hi
      obtain ⟨f, hf⟩ := ih (i + 1) (by omega)
      refine ⟨f + 1, And.intro (fun h => absurd h (by rw [sA_ne _ _ (Ne.symm ha), e1]; exact nI_ge (by omega) (by omega))) (fun _ => ?_)⟩
      rw [nI_add, nI_add]
      refine And.intro (vp_in_nI (by omega) (by omega)) (And.intro (vp_in_nI (by omega) (by omega)) ?_)
      rw [sA_ne _ _ (Ne.symm ha), e0]
      refine And.intro (nI_q0 hq0 (by omega)) (And.intro (vp_in_nI (by omega) (by omega)) ?_)
      rw [u2_sA, sA_same, nI_clamp (by omega), nI_clamp (by omega), nI_1]
      have ev : fb_put (σ a) (fun c => nI (la_ad q v w k c)) o i (o + i) = nI (v i) := by
        rw [fb_put_out (Or.inr (Nat.le_refl _))]; exact hv i (by omega)
      have ew : sA σ a (fb_put (σ a) (fun c => nI (la_ad q v w k c)) o i) b (r + i) = nI (w i) := by
        by_cases hba : b = a
        · subst hba
          rw [sA_same, fb_put_out (by omega)]; exact hw i (by omega)
        · rw [sA_ne _ _ hba]; exact hw i (by omega)
      rw [ev, ew, pk_mul, nI_add]
      have hb1 : k * w i ≤ 5 * 5 := Nat.mul_le_mul (by omega) (by have := hwq i; omega)
      have hb2 := hvq i
      rw [pk_rem (by omega) hq0 (by omega)]
      have e8 : upd (fb_put (σ a) (fun c => nI (la_ad q v w k c)) o i) (o + i) (nI (la_ad q v w k i)) = fb_put (σ a) (fun c => nI (la_ad q v w k c)) o (i + 1) := fb_put_succ _ _ _ _
      rw [show nI ((v i + k * w i) % q) = nI (la_ad q v w k i) from rfl, e8]
      exact hf
  have := key n 0 (by omega)
  rw [fb_put_0, sA_id] at this
  exact this
