theorem la_ad_mod {q : Nat} (v w : la_W) (k : Nat) : la_ad q v w (k % q) = la_ad q v w k := by
  funext c
  simp only [la_ad]
  rw [Nat.add_mod, Nat.mul_mod, Nat.mod_mod, ← Nat.mul_mod, ← Nat.add_mod]
theorem la_red_S {q n : Nat} {pv : Nat → Bool} {M : Nat → la_W} {l : la_W} (hl : la_V q n l) {p : Nat} (hp : pv p = true) : la_S q pv M (la_ad q l (M p) (q - l p)) ↔ la_S q pv M l := by
  have hM : la_S q pv M (M p) := la_Sp.gen ⟨p, hp, rfl⟩
  constructor
  · intro h
    have := la_Sp.ad h hM (l p)
    rwa [la_ad_back hl.1 (Nat.le_of_lt (hl.1 p))] at this
  · intro h; exact la_Sp.ad h hM _
theorem la_red_end {q n : Nat} (hq : 0 < q) {pv : Nat → Bool} {M : Nat → la_W} (hR : la_R q n pv M) {l : la_W} (hz : ∀ p, pv p = true → l p = 0) (h : la_S q pv M l) : l = la_z := by
  have hH := (la_S.H hq hR l).mp h
  funext c
  by_cases hc : c < n
  · rw [hH.2 c hc]
    unfold la_cb
    rw [la_sm_zero (fun j _ => by
      by_cases e : pv j = true
      · rw [if_pos e, hz j e, Nat.zero_mul]
      · rw [if_neg e])]
    simp [la_z]
  · exact hH.1.2 c (by omega)
def SlM (τ : ss_S) (q n k : Nat) (pv : Nat → Bool) (M : Nat → la_W) : Prop := τ 4 k = nI (fb_ct pv n) ∧ ∀ p, pv p = true → τ 5 (6 * k + fb_ct pv p) = nI (la_val q (M p) n)
def HpM (τ : ss_S) (q n k : Nat) (pv : Nat → Bool) (M : Nat → la_W) : Prop := τ 8 k = nI (fb_ct pv n) ∧ ∀ p, pv p = true → τ 9 (6 * k + fb_ct pv p) = nI (la_val q (M p) n)
theorem la_red_zero {q n : Nat} {pv : Nat → Bool} {M : Nat → la_W} (hR : la_R q n pv M) {l : la_W} (hl : la_V q n l) {i p : Nat} (hp : pv p = true) (hpi : fb_ct pv p = i) (hz : ∀ p', pv p' = true → fb_ct pv p' < i → l p' = 0) : ∀ p', pv p' = true → fb_ct pv p' < i + 1 → la_ad q l (M p) (q - l p) p' = 0 := by
  intro p' hp' hlt
  obtain ⟨a, b, c, d⟩ := hR.2 p hp
  simp only [la_ad]
  by_cases e : p' = p
  · subst e
    rw [b, Nat.mul_one, Nat.add_sub_cancel' (Nat.le_of_lt (hl.1 p')), Nat.mod_self]
  · have hne : fb_ct pv p' ≠ i := fun h => e (fb_ct_kth_one hp' hp (by omega))
    rw [hz p' hp' (by omega), d p' hp' e, Nat.mul_zero, Nat.add_zero, Nat.zero_mod]
theorem pX5_holds {τ : ss_S} {q n : Nat} (hF : FrM τ q n) {k : Nat} (hk : k < 12) {pv : Nat → Bool} {M : Nat → la_W} (hR : la_R q n pv M) (hS : SlM τ q n k pv M) {v : la_W} (hv : la_V q n v) {post : Int32 → ss_S → Prop} (h1 : la_S q pv M v → post 1 τ) (h0 : ¬ la_S q pv M v → post 0 τ) : wX5_holds (nI k) (nI (la_val q v n)) τ post := by
  have hq := hF.1
  have h6 := hq.n6
  have h5 := hq.five
  have hq0 := hq.pos
  have hpw := la_pow_le hq
  have hd6 : fb_ct pv n ≤ n := fb_ct_le pv n
  have hbv : ∀ v : la_W, la_V q n v → la_val q v n < 2 ^ 31 := fun v hv => by have := la_val_lt (n := n) (fun c _ => hv.1 c); omega
  have key : ∀ d i, i + d = fb_ct pv n → ∀ l : la_W, la_V q n l → (∀ p, pv p = true → fb_ct pv p < i → l p = 0) → (la_S q pv M l ↔ la_S q pv M v) → lX5_holds_5 (nI k) post (fun x3_7 _ σ_7 => ((¬ x3_7 = 0 → post 0 σ_7) ∧ (x3_7 = 0 → post 1 σ_7))) (d + 1) (nI (la_val q l n)) (nI i) τ := by
    intro d
    induction d with
    | zero =>
      intro i hi l hl hz hsl
      refine And.intro (vp_in_nI hk (by omega)) (And.intro (fun _ => ?_) (fun hc => absurd (by rw [nI_clamp (by omega), hS.1]; exact nI_le (by omega) (by omega)) hc))
      have hbl := hbv l hl
      have hzz : ∀ p, pv p = true → l p = 0 := fun p hp => hz p hp (by have := la_ct_lt hp (hR.1 p hp); omega)
      refine And.intro (fun hc => h0 (fun hs => hc ?_)) (fun hc => h1 (hsl.mp ?_))
      · rw [la_red_end hq0 hR hzz (hsl.mpr hs), la_val_z]; rfl
      · have e : la_val q l n = 0 := by
          rcases Nat.eq_zero_or_pos (la_val q l n) with x | x
          · exact x
          · exact absurd hc (nI_ne0 x hbl)
        rw [la_val_eq0 hl e]; exact la_Sp.zero
    | succ d ih =>
      intro i hi l hl hz hsl
      obtain ⟨p, hpn, hpp, hpi⟩ := fb_ct_kth (show i < fb_ct pv n by omega)
      obtain ⟨a, b, c, e⟩ := hR.2 p hpp
      have hrow := hS.2 p hpp
      rw [hpi] at hrow
      have hlp := hl.1 p
      refine And.intro (vp_in_nI hk (by omega)) (And.intro (fun hc => absurd hc (by rw [nI_clamp (by omega), hS.1]; exact nI_ge (by omega) (by omega))) (fun _ => ?_))
      rw [nI_6m, nI_add]
      refine And.intro (vp_in_nI (by omega) (by omega)) ?_
      rw [nI_clamp (by omega), hrow]
      refine pX5_pivot hF a hpn c (by rw [b]; omega) ?_
      refine pX5_figure hF (hbv l hl) hpn ?_
      rw [la_dig_val hl, hF.2.1, hrow, pk_sub (by omega), pk_rem (by omega) hq0 (by omega)]
      refine And.intro (vp_in_nI (by omega) (by omega)) (And.intro (nI_q0 hq0 (by omega)) ?_)
      refine pX5_sum hF hl a (Nat.le_of_lt (Nat.mod_lt _ hq0)) ?_
      rw [la_ad_mod, nI_1]
      exact ih (i + 1) (by omega) _ (hl.ad hq0 a _) (la_red_zero hR hl hpp hpi hz) ((la_red_S hl hpp).trans hsl)
  exact ⟨_, key (fb_ct pv n) 0 (by omega) v hv (fun p _ h => absurd h (Nat.not_lt_zero _)) Iff.rfl⟩
theorem pX5_bare36 {τ : ss_S} {q n : Nat} (hF : FrM τ q n) {k : Nat} (hk : k < 40) {pv : Nat → Bool} {M : Nat → la_W} (hR : la_R q n pv M) (hS : HpM τ q n k pv M) {v : la_W} (hv : la_V q n v) {x1 x2 : Int32} {post : Int32 → ss_S → Prop} {K : Int32 → Int32 → ss_S → Prop} (h1 : la_S q pv M v → ∀ y, K 0 y τ) (h0 : ¬ la_S q pv M v → ∀ x y, ¬ x = 0 → K x y τ) : ∃ f, lX5_bare_36 x1 x2 (nI k) post K f (nI (la_val q v n)) 0 τ := by
  have hq := hF.1
  have h6 := hq.n6
  have h5 := hq.five
  have hq0 := hq.pos
  have hpw := la_pow_le hq
  have hd6 : fb_ct pv n ≤ n := fb_ct_le pv n
  have hbv : ∀ v : la_W, la_V q n v → la_val q v n < 2 ^ 31 := fun v hv => by have := la_val_lt (n := n) (fun c _ => hv.1 c); omega
  have key : ∀ d i, i + d = fb_ct pv n → ∀ l : la_W, la_V q n l → (∀ p, pv p = true → fb_ct pv p < i → l p = 0) → (la_S q pv M l ↔ la_S q pv M v) → lX5_bare_36 x1 x2 (nI k) post K (d + 1) (nI (la_val q l n)) (nI i) τ := by
    intro d
    induction d with
    | zero =>
      intro i hi l hl hz hsl
      refine And.intro (vp_in_nI hk (by omega)) (And.intro (fun _ => ?_) (fun hc => absurd (by rw [nI_clamp (by omega), hS.1]; exact nI_le (by omega) (by omega)) hc))
      have hbl := hbv l hl
      have hzz : ∀ p, pv p = true → l p = 0 := fun p hp => hz p hp (by have := la_ct_lt hp (hR.1 p hp); omega)
      by_cases hs : la_S q pv M v
      · rw [la_red_end hq0 hR hzz (hsl.mpr hs), la_val_z]; exact h1 hs _
      · refine h0 hs _ _ (fun hc => hs (hsl.mp ?_))
        have e : la_val q l n = 0 := by
          rcases Nat.eq_zero_or_pos (la_val q l n) with x | x
          · exact x
          · exact absurd hc (nI_ne0 x hbl)
        rw [la_val_eq0 hl e]; exact la_Sp.zero
    | succ d ih =>
      intro i hi l hl hz hsl
      obtain ⟨p, hpn, hpp, hpi⟩ := fb_ct_kth (show i < fb_ct pv n by omega)
      obtain ⟨a, b, c, e⟩ := hR.2 p hpp
      have hrow := hS.2 p hpp
      rw [hpi] at hrow
      have hlp := hl.1 p
      refine And.intro (vp_in_nI hk (by omega)) (And.intro (fun hc => absurd hc (by rw [nI_clamp (by omega), hS.1]; exact nI_ge (by omega) (by omega))) (fun _ => ?_))
      rw [nI_6m, nI_add]
      refine And.intro (vp_in_nI (by omega) (by omega)) ?_
      rw [nI_clamp (by omega), hrow]
      refine pX5_pivot hF a hpn c (by rw [b]; omega) ?_
      refine pX5_figure hF (hbv l hl) hpn ?_
      rw [la_dig_val hl, hF.2.1, pk_sub (by omega), pk_rem (by omega) hq0 (by omega)]
      refine And.intro (nI_q0 hq0 (by omega)) ?_
      refine pX5_sum hF hl a (Nat.le_of_lt (Nat.mod_lt _ hq0)) ?_
      rw [la_ad_mod, nI_1]
      exact ih (i + 1) (by omega) _ (hl.ad hq0 a _) (la_red_zero hR hl hpp hpi hz) ((la_red_S hl hpp).trans hsl)
  exact ⟨_, key (fb_ct pv n) 0 (by omega) v hv (fun p _ h => absurd h (Nat.not_lt_zero _)) Iff.rfl⟩
theorem pX5_within22 {τ : ss_S} {q n : Nat} (hF : FrM τ q n) {a b : Nat} (ha : a < 12) (hb : b < 12) {pva pvb : Nat → Bool} {Ma Mb : Nat → la_W} (hRa : la_R q n pva Ma) (hSa : SlM τ q n a pva Ma) (hRb : la_R q n pvb Mb) (hSb : SlM τ q n b pvb Mb) {post : Int32 → ss_S → Prop} (h1 : (∀ p, pva p = true → la_S q pvb Mb (Ma p)) → post 1 τ) (h0 : ¬ (∀ p, pva p = true → la_S q pvb Mb (Ma p)) → post 0 τ) : ∃ f, lX5_within_22 (nI a) (nI b) post (fun x3_7 _ σ_7 => ((x3_7 = 0 → post 0 σ_7) ∧ (¬ x3_7 = 0 → post 1 σ_7))) f 1 0 τ := by
  have h6 := hF.1.n6
  have hd6 : fb_ct pva n ≤ n := fb_ct_le pva n
  have key : ∀ d i, i + d = fb_ct pva n → ∀ t : Int32, (t = 1 ∧ ∀ p, pva p = true → fb_ct pva p < i → la_S q pvb Mb (Ma p)) ∨ (t = 0 ∧ ¬ ∀ p, pva p = true → la_S q pvb Mb (Ma p)) → lX5_within_22 (nI a) (nI b) post (fun x3_7 _ σ_7 => ((x3_7 = 0 → post 0 σ_7) ∧ (¬ x3_7 = 0 → post 1 σ_7))) (d + 1) t (nI i) τ := by
    intro d
    induction d with
    | zero =>
      intro i hi t ht
      refine And.intro (vp_in_nI ha (by omega)) (And.intro (fun _ => ?_) (fun hc => absurd (by rw [nI_clamp (by omega), hSa.1]; exact nI_le (by omega) (by omega)) hc))
      rcases ht with ⟨rfl, hall⟩ | ⟨rfl, hn⟩
      · exact And.intro (fun hc => absurd hc i1_0) (fun _ => h1 (fun p hp => hall p hp (by have := la_ct_lt hp (hRa.1 p hp); omega)))
      · exact And.intro (fun _ => h0 hn) (fun hc => absurd rfl hc)
    | succ d ih =>
      intro i hi t ht
      refine And.intro (vp_in_nI ha (by omega)) (And.intro (fun hc => absurd hc (by rw [nI_clamp (by omega), hSa.1]; exact nI_ge (by omega) (by omega))) (fun _ => ?_))
      rw [nI_6m, nI_add, nI_1]
      rcases ht with ⟨rfl, hall⟩ | ⟨rfl, hn⟩
      · obtain ⟨p, hpn, hpp, hpi⟩ := fb_ct_kth (show i < fb_ct pva n by omega)
        have hrow := hSa.2 p hpp
        rw [hpi] at hrow
        refine And.intro (fun hc => absurd hc i1_0) (fun _ => And.intro (vp_in_nI (by omega) (by omega)) ?_)
        rw [nI_clamp (by omega), hrow]
        refine pX5_holds hF hb hRb hSb (hRa.2 p hpp).1 (fun hs => ?_) (fun hs => ?_)
        · refine And.intro (fun hc => absurd hc i1_0) (fun _ => ih (i + 1) (by omega) 1 (Or.inl ⟨rfl, fun p' hp' hlt => ?_⟩))
          rcases Nat.lt_or_ge (fb_ct pva p') i with x | x
          · exact hall p' hp' x
          · rw [fb_ct_kth_one hp' hpp (by omega)]; exact hs
        · exact And.intro (fun _ => ih (i + 1) (by omega) 0 (Or.inr ⟨rfl, fun hx => hs (hx p hpp)⟩)) (fun hc => absurd rfl hc)
      · exact And.intro (fun _ => ih (i + 1) (by omega) 0 (Or.inr ⟨rfl, hn⟩)) (fun hc => absurd rfl hc)
  exact ⟨_, key (fb_ct pva n) 0 (by omega) 1 (Or.inl ⟨rfl, fun p _ h => absurd h (Nat.not_lt_zero _)⟩)⟩
