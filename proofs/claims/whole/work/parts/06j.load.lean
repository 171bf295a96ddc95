theorem nI_6m (i : Nat) : 6 * nI i = nI (6 * i) := pk_mul 6 i
theorem pX5_load {τ : ss_S} {k d m : Nat} (hk : k < 12) (hd : d ≤ 6) (hdim : τ 4 k = nI d) (hm : m + d ≤ 24) (hw0 : τ 0 7 = nI m) {post : ss_S → Prop}
    (hp : ∀ τ' : ss_S, OthM τ τ' → τ' 0 7 = nI (m + d) → (∀ j, j < m → τ' 2 j = τ 2 j) → (∀ i, i < d → τ' 2 (m + i) = τ 5 (6 * k + i)) → post τ') : wX5_load (nI k) τ post := by
  have key : ∀ e i, i + e = d → ∀ τ1 : ss_S, OthM τ τ1 → τ1 0 7 = nI (m + i) → (∀ j, j < m → τ1 2 j = τ 2 j) → (∀ j, j < i → τ1 2 (m + j) = τ 5 (6 * k + j)) → lX5_load_2 (nI k) post (fun _ σ => post σ) (e + 1) (nI i) τ1 := by
    intro e
    induction e with
    | zero =>
      intro i hi τ1 hO h7 h1 h2
      have ei : i = d := by omega
      subst ei
      refine And.intro (vp_in_nI hk (by omega)) (And.intro (fun _ => hp τ1 hO h7 h1 h2) (fun hc => absurd ?_ hc))
      rw [nI_clamp (by omega), hO.1 4 (by omega) (by omega), hdim]; exact nI_le (Nat.le_refl _) (by omega)
    | succ e ih =>
      intro i hi τ1 hO h7 h1 h2
      refine And.intro (vp_in_nI hk (by omega)) (And.intro (fun hc => absurd hc ?_) (fun _ => ?_))
      · rw [nI_clamp (by omega), hO.1 4 (by omega) (by omega), hdim]; exact nI_ge (by omega) (by omega)
      · rw [nI_6m, nI_add, h7]
        refine And.intro (vp_in_nI (by omega) (by omega)) (And.intro (vp_in_nI (by omega) (by omega)) ?_)
        rw [nI_clamp (by omega), nI_clamp (by omega), hO.1 5 (by omega) (by omega), u2_ne _ _ _ (show 0 ≠ 2 by omega), h7, nI_1, nI_1]
        refine ih (i + 1) (by omega) _ (hO.trans ⟨fun j a b => by rw [u2_ne _ _ _ a, u2_ne _ _ _ b], fun j hj => by rw [u2_at, pk_un hj, u2_ne _ _ _ (by omega)]⟩) (by rw [u2_at, pk_us, Nat.add_assoc]) (fun j hj => ?_) (fun j hj => ?_)
        · rw [u2_ne _ _ _ (by omega), u2_at, pk_un (by omega)]; exact h1 j hj
        · rw [u2_ne _ _ _ (by omega), u2_at]
          by_cases ej : j = i
          · rw [ej, pk_us]
          · rw [pk_un (by omega)]; exact h2 j (by omega)
  exact ⟨d + 1, key d 0 (by omega) τ OthM.rf hw0 (fun _ _ => rfl) (fun j hj => absurd hj (Nat.not_lt_zero _))⟩
theorem pX5_loadHeap {τ : ss_S} {k d m : Nat} (hk : k < 40) (hd : d ≤ 6) (hdim : τ 8 k = nI d) (hm : m + d ≤ 24) (hw0 : τ 0 7 = nI m) {post : ss_S → Prop}
    (hp : ∀ τ' : ss_S, OthM τ τ' → τ' 0 7 = nI (m + d) → (∀ j, j < m → τ' 2 j = τ 2 j) → (∀ i, i < d → τ' 2 (m + i) = τ 9 (6 * k + i)) → post τ') : wX5_loadHeap (nI k) τ post := by
  have key : ∀ e i, i + e = d → ∀ τ1 : ss_S, OthM τ τ1 → τ1 0 7 = nI (m + i) → (∀ j, j < m → τ1 2 j = τ 2 j) → (∀ j, j < i → τ1 2 (m + j) = τ 9 (6 * k + j)) → lX5_loadHeap_2 (nI k) post (fun _ σ => post σ) (e + 1) (nI i) τ1 := by
    intro e
    induction e with
    | zero =>
      intro i hi τ1 hO h7 h1 h2
      have ei : i = d := by omega
      subst ei
      refine And.intro (vp_in_nI hk (by omega)) (And.intro (fun _ => hp τ1 hO h7 h1 h2) (fun hc => absurd ?_ hc))
      rw [nI_clamp (by omega), hO.1 8 (by omega) (by omega), hdim]; exact nI_le (Nat.le_refl _) (by omega)
    | succ e ih =>
      intro i hi τ1 hO h7 h1 h2
      refine And.intro (vp_in_nI hk (by omega)) (And.intro (fun hc => absurd hc ?_) (fun _ => ?_))
      · rw [nI_clamp (by omega), hO.1 8 (by omega) (by omega), hdim]; exact nI_ge (by omega) (by omega)
      · rw [nI_6m, nI_add, h7]
        refine And.intro (vp_in_nI (by omega) (by omega)) (And.intro (vp_in_nI (by omega) (by omega)) ?_)
        rw [nI_clamp (by omega), nI_clamp (by omega), hO.1 9 (by omega) (by omega), u2_ne _ _ _ (show 0 ≠ 2 by omega), h7, nI_1, nI_1]
        refine ih (i + 1) (by omega) _ (hO.trans ⟨fun j a b => by rw [u2_ne _ _ _ a, u2_ne _ _ _ b], fun j hj => by rw [u2_at, pk_un hj, u2_ne _ _ _ (by omega)]⟩) (by rw [u2_at, pk_us, Nat.add_assoc]) (fun j hj => ?_) (fun j hj => ?_)
        · rw [u2_ne _ _ _ (by omega), u2_at, pk_un (by omega)]; exact h1 j hj
        · rw [u2_ne _ _ _ (by omega), u2_at]
          by_cases ej : j = i
          · rw [ej, pk_us]
          · rw [pk_un (by omega)]; exact h2 j (by omega)
  exact ⟨d + 1, key d 0 (by omega) τ OthM.rf hw0 (fun _ _ => rfl) (fun j hj => absurd hj (Nat.not_lt_zero _))⟩
theorem pX5_save {τ : ss_S} {t m : Nat} (ht : t < 12) (hm : m ≤ 6) (hw0 : τ 0 7 = nI m) {post : Int32 → ss_S → Prop}
    (hp : ∀ (f g : Nat → Int32), (∀ k, k ≠ t → f k = τ 4 k) → f t = nI m → (∀ j, j < m → g (6 * t + j) = τ 2 j) → (∀ k j, k ≠ t → j < 6 → g (6 * k + j) = τ 5 (6 * k + j)) → post (nI m) (sA (sA τ 4 f) 5 g)) : wX5_save (nI t) τ post := by
  refine And.intro (vp_in_nI ht (by omega)) ?_
  rw [nI_clamp (by omega), hw0]
  have key : ∀ e i, i + e = m → ∀ g : Nat → Int32, (∀ j, j < i → g (6 * t + j) = τ 2 j) → (∀ k j, k ≠ t → j < 6 → g (6 * k + j) = τ 5 (6 * k + j)) → lX5_save_12 (nI t) post (fun _ σ_1 => post (σ_1 0 7) σ_1) (e + 1) (nI i) (sA (u2 τ 4 t (nI m)) 5 g) := by
    intro e
    induction e with
    | zero =>
      intro i hi g h1 h2
      have ei : i = m := by omega
      subst ei
      have e7 : sA (u2 τ 4 t (nI i)) 5 g 0 7 = nI i := by rw [sA_ne _ _ (by omega), u2_ne _ _ _ (by omega)]; exact hw0
      refine And.intro (fun _ => ?_) (fun hc => absurd (by rw [e7]; exact nI_le (Nat.le_refl _) (by omega)) hc)
      dsimp only
      rw [e7]
      exact hp (upd (τ 4) t (nI i)) g (fun k hk => pk_un hk) pk_us h1 h2
    | succ e ih =>
      intro i hi g h1 h2
      have e7 : sA (u2 τ 4 t (nI m)) 5 g 0 7 = nI m := by rw [sA_ne _ _ (by omega), u2_ne _ _ _ (by omega)]; exact hw0
      refine And.intro (fun hc => absurd hc (by rw [e7]; exact nI_ge (by omega) (by omega))) (fun _ => ?_)
      rw [nI_6m, nI_add]
      refine And.intro (vp_in_nI (by omega) (by omega)) (And.intro (vp_in_nI (by omega) (by omega)) ?_)
      rw [nI_clamp (by omega), nI_clamp (by omega), u2_sA, sA_ne _ _ (show 2 ≠ 5 by omega), u2_ne _ _ _ (show 2 ≠ 4 by omega), nI_1]
      refine ih (i + 1) (by omega) _ (fun j hj => ?_) (fun k j hk hj => ?_)
      · by_cases ej : j = i
        · rw [ej, pk_us]
        · rw [pk_un (by omega)]; exact h1 j (by omega)
      · rw [pk_un (by omega)]; exact h2 k j hk hj
  have := key m 0 (by omega) (τ 5) (fun j hj => absurd hj (Nat.not_lt_zero _)) (fun _ _ _ _ => rfl)
  have e5 : u2 τ 4 t (nI m) 5 = τ 5 := u2_ne _ _ _ (by omega)
  rw [← e5, sA_id] at this
  exact ⟨m + 1, this⟩
theorem pX5_toHeap {τ : ss_S} {h m : Nat} (hh : h < 40) (hm : m ≤ 6) (h13 : τ 0 13 = nI h) (hw0 : τ 0 7 = nI m) {post : ss_S → Prop}
    (hp : ∀ (f g : Nat → Int32), (∀ k, k ≠ h → f k = τ 8 k) → f h = nI m → (∀ j, j < m → g (6 * h + j) = τ 2 j) → (∀ k j, k ≠ h → j < 6 → g (6 * k + j) = τ 9 (6 * k + j)) → post (u2 (sA (sA τ 8 f) 9 g) 0 13 (nI (h + 1)))) : wX5_toHeap τ post := by
  unfold wX5_toHeap
  rw [h13]
  refine And.intro (vp_in_nI hh (by omega)) ?_
  rw [nI_clamp (by omega), hw0]
  have key : ∀ e i, i + e = m → ∀ g : Nat → Int32, (∀ j, j < i → g (6 * h + j) = τ 2 j) → (∀ k j, k ≠ h → j < 6 → g (6 * k + j) = τ 9 (6 * k + j)) → lX5_toHeap_15 post (fun _ σ_1 => post (u2 σ_1 0 13 ((σ_1 0 13) + 1))) (e + 1) (nI i) (sA (u2 τ 8 h (nI m)) 9 g) := by
    intro e
    induction e with
    | zero =>
      intro i hi g h1 h2
      have ei : i = m := by omega
      subst ei
      have e7 : sA (u2 τ 8 h (nI i)) 9 g 0 7 = nI i := by rw [sA_ne _ _ (by omega), u2_ne _ _ _ (by omega)]; exact hw0
      have e13 : sA (u2 τ 8 h (nI i)) 9 g 0 13 = nI h := by rw [sA_ne _ _ (by omega), u2_ne _ _ _ (by omega)]; exact h13
      refine And.intro (fun _ => ?_) (fun hc => absurd (by rw [e7]; exact nI_le (Nat.le_refl _) (by omega)) hc)
      dsimp only
      rw [e13, nI_1]
      exact hp (upd (τ 8) h (nI i)) g (fun k hk => pk_un hk) pk_us h1 h2
    | succ e ih =>
      intro i hi g h1 h2
      have e7 : sA (u2 τ 8 h (nI m)) 9 g 0 7 = nI m := by rw [sA_ne _ _ (by omega), u2_ne _ _ _ (by omega)]; exact hw0
      have e13 : sA (u2 τ 8 h (nI m)) 9 g 0 13 = nI h := by rw [sA_ne _ _ (by omega), u2_ne _ _ _ (by omega)]; exact h13
      refine And.intro (fun hc => absurd hc (by rw [e7]; exact nI_ge (by omega) (by omega))) (fun _ => ?_)
      rw [e13, nI_6m, nI_add]
      refine And.intro (vp_in_nI (by omega) (by omega)) (And.intro (vp_in_nI (by omega) (by omega)) ?_)
      rw [nI_clamp (by omega), nI_clamp (by omega), u2_sA, sA_ne _ _ (show 2 ≠ 9 by omega), u2_ne _ _ _ (show 2 ≠ 8 by omega), nI_1]
      refine ih (i + 1) (by omega) _ (fun j hj => ?_) (fun k j hk hj => ?_)
      · by_cases ej : j = i
        · rw [ej, pk_us]
        · rw [pk_un (by omega)]; exact h1 j (by omega)
      · rw [pk_un (by omega)]; exact h2 k j hk hj
  have := key m 0 (by omega) (τ 9) (fun j hj => absurd hj (Nat.not_lt_zero _)) (fun _ _ _ _ => rfl)
  have e5 : u2 τ 8 h (nI m) 9 = τ 9 := u2_ne _ _ _ (by omega)
  rw [← e5, sA_id] at this
  exact ⟨m + 1, this⟩
def LnM (τ : ss_S) (q n : Nat) (T : Nat → la_W) : Prop := ∀ p, p < n → la_V q n (T p) ∧ τ 1 p = nI (la_val q (T p) n)
theorem pX5_mappedOf {τ : ss_S} {q n : Nat} (hF : FrM τ q n) {T : Nat → la_W} (hT : LnM τ q n T) {v : la_W} (hv : la_V q n v) {post : Int32 → ss_S → Prop} (hp : post (nI (la_val q (la_ap q T v n) n)) τ) : wX5_mappedOf (nI (la_val q v n)) τ post := by
  have hq := hF.1
  have h6 := hq.n6
  have h5 := hq.five
  have hq0 := hq.pos
  have hpw := la_pow_le hq
  have bv := la_val_lt (n := n) (fun c _ => hv.1 c)
  have key : ∀ d i, i + d = n → lX5_mappedOf_4 (nI (la_val q v n)) post (fun x2 _ σ => post x2 σ) (d + 1) (nI (la_val q (la_ap q T v i) n)) (nI i) τ := by
    intro d
    induction d with
    | zero =>
      intro i hi
      refine And.intro (fun _ => ?_) (fun h => absurd (by rw [hF.2.2.1]; exact nI_le (by omega) (by omega)) h)
      rw [show i = n by omega]; exact hp
    | succ d ih =>
      intro i hi
      refine And.intro (fun h => absurd h (by rw [hF.2.2.1]; exact nI_ge (by omega) (by omega))) (fun _ => And.intro (vp_in_nI (by omega) (by omega)) ?_)
      refine pX5_figure hF (by omega) (by omega) ?_
      have hvi := hv.1 i
      rw [la_dig_val hv, nI_clamp (by omega), (hT i (by omega)).2]
      refine pX5_sum hF (la_ap_V hq0 (fun p hp => (hT p hp).1) v i (by omega)) (hT i (by omega)).1 (by omega) ?_
      rw [nI_1]
      exact ih (i + 1) (by omega)
  have := key n 0 (by omega)
  rw [show la_ap q T v 0 = la_z from rfl, la_val_z] at this
  exact ⟨n + 1, this⟩
theorem pX5_step {τ : ss_S} {q n : Nat} (hF : FrM τ q n) {T : Nat → la_W} (hT : LnM τ q n T) {m : Nat} (hm : m ≤ 24) (hw0 : τ 0 7 = nI m) {g : Nat → la_W} (hg : ∀ i, i < m → la_V q n (g i)) (hgτ : ∀ i, i < m → τ 2 i = nI (la_val q (g i) n)) {post : ss_S → Prop}
    (hp : ∀ (τ' : ss_S) (pv : Nat → Bool) (M : Nat → la_W), OthM τ τ' → la_R q n pv M → (∀ v, la_S q pv M v ↔ la_Sp q (la_hG (fun i => la_ap q T (g i) n) m) v) → fb_ct pv n ≤ m → τ' 0 7 = nI (fb_ct pv n) → (∀ p, pv p = true → τ' 2 (fb_ct pv p) = nI (la_val q (M p) n)) → post τ') : wX5_step τ post := by
  have hq := hF.1
  have hq0 := hq.pos
  have hVa : ∀ i, i < m → la_V q n (la_ap q T (g i) n) := fun i hi => la_ap_V hq0 (fun p hp => (hT p hp).1) (g i) n (Nat.le_refl n)
  have key : ∀ d i, i + d = m → ∀ w : Nat → Int32, (∀ j, j < i → w j = nI (la_val q (la_ap q T (g j) n) n)) → (∀ j, i ≤ j → j < m → w j = nI (la_val q (g j) n)) → lX5_step_2 post (fun _ σ_3 => wX5_settle σ_3 (fun σ4 => post σ4)) (d + 1) (nI i) (sA τ 2 w) := by
    intro d
    induction d with
    | zero =>
      intro i hi w h1 h2
      have e7 : sA τ 2 w 0 7 = nI m := by rw [sA_ne _ _ (by omega)]; exact hw0
      refine And.intro (fun _ => ?_) (fun h => absurd (by rw [e7]; exact nI_le (by omega) (by omega)) h)
      refine pX5_settle (hF.sA (by omega) w) hm e7 (g := fun i => la_ap q T (g i) n) hVa (fun j hj => by rw [sA_same]; exact h1 j (by omega)) (fun τ' pv M hO hR hS hct h7 hr => hp τ' pv M ((OthM.work w).trans hO) hR hS hct h7 hr)
    | succ d ih =>
      intro i hi w h1 h2
      have e7 : sA τ 2 w 0 7 = nI m := by rw [sA_ne _ _ (by omega)]; exact hw0
      refine And.intro (fun h => absurd h (by rw [e7]; exact nI_ge (by omega) (by omega))) (fun _ => And.intro (vp_in_nI (by omega) (by omega)) ?_)
      rw [nI_clamp (by omega), sA_same, h2 i (Nat.le_refl _) (by omega)]
      refine pX5_mappedOf (hF.sA (by omega) w) (fun p hp => ⟨(hT p hp).1, by rw [sA_ne _ _ (by omega)]; exact (hT p hp).2⟩) (hg i (by omega)) ?_
      refine And.intro (vp_in_nI (by omega) (by omega)) ?_
      rw [u2_sA, nI_1]
      refine ih (i + 1) (by omega) _ (fun j hj => ?_) (fun j hj hjm => by rw [pk_un (by omega)]; exact h2 j (by omega) hjm)
      by_cases ej : j = i
      · rw [ej, pk_us]
      · rw [pk_un ej]; exact h1 j (by omega)
  have := key m 0 (by omega) (τ 2) (fun j hj => absurd hj (Nat.not_lt_zero _)) (fun j _ hj => hgτ j hj)
  rw [sA_id] at this
  exact ⟨m + 1, this⟩
