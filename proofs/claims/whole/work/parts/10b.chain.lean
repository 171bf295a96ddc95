def la_WG (q n : Nat) (T : Nat → la_W) (W : la_W → Prop) (e : Nat) (v : la_W) : la_W → Prop := fun y => W y ∨ ∃ j, j < e ∧ y = la_it q n T j v
theorem la_dec {q n : Nat} (hq : 0 < q) {T : Nat → la_W} (hT : ∀ p, p < n → la_V q n (T p)) {W : la_W → Prop} (hW : la_sub q W) (hWV : ∀ u, W u → la_V q n u) {e : Nat} {v : la_W} (hv : la_V q n v) {x : la_W} (hx : la_Sp q (la_WG q n T W e v) x) : ∃ w r, W w ∧ x = la_ad q w (la_ln q n T r e v) 1 := by
  refine hx (fun x => ∃ w r, W w ∧ x = la_ad q w (la_ln q n T r e v) 1) ⟨⟨la_z, la_z, hW.1, ?_⟩, fun a b k ha hb => ?_⟩ (fun y hy => ?_)
  · show la_z = la_ad q la_z (la_ap q _ la_z e) 1
    rw [la_ap_z, la_ad_zz]
  · obtain ⟨w1, r1, h1, rfl⟩ := ha
    obtain ⟨w2, r2, h2, rfl⟩ := hb
    refine ⟨la_ad q w1 w2 k, la_ad q r1 r2 k, hW.2 _ _ _ h1 h2, ?_⟩
    have : la_ln q n T (la_ad q r1 r2 k) e v = la_ad q (la_ln q n T r1 e v) (la_ln q n T r2 e v) k := la_ap_ad q _ r1 r2 k e
    rw [this, la_ex]
  · rcases hy with hy | ⟨j, hj, rfl⟩
    · refine ⟨y, la_z, hy, ?_⟩
      have : la_ln q n T la_z e v = la_z := la_ap_z q _ e
      rw [this]
      funext c
      show y c = (y c + 1 * 0) % q
      rw [Nat.mul_zero, Nat.add_zero, Nat.mod_eq_of_lt ((hWV y hy).1 c)]
    · refine ⟨la_z, la_un1 j, hW.1, ?_⟩
      have hV := la_it_V hq hT hv j
      have : la_ln q n T (la_un1 j) e v = la_it q n T j v := by
        unfold la_ln
        rw [la_ap_un hq (T := fun j => la_it q n T j v) hV.1 e, if_pos hj]
      rw [this]
      funext c
      show _ = (0 + 1 * la_it q n T j v c) % q
      rw [Nat.zero_add, Nat.one_mul, Nat.mod_eq_of_lt (hV.1 c)]
theorem la_it_W {q n : Nat} {T : Nat → la_W} {W : la_W → Prop} (hinv : ∀ u, W u → W (la_ap q T u n)) {u : la_W} (hu : W u) : ∀ j, W (la_it q n T j u) := by
  intro j
  induction j with
  | zero => exact hu
  | succ j ih => exact hinv _ ih
theorem la_ln_W {q n : Nat} {T : Nat → la_W} {W : la_W → Prop} (hW : la_sub q W) (hinv : ∀ u, W u → W (la_ap q T u n)) {u : la_W} (hu : W u) (c : la_W) : ∀ d, W (la_ln q n T c d u) := by
  intro d
  induction d with
  | zero => exact hW.1
  | succ d ih => exact hW.2 _ _ _ ih (la_it_W hinv hu d)
theorem la_close {q n : Nat} (hq : 1 < q) {T : Nat → la_W} (hT : ∀ p, p < n → la_V q n (T p)) {W : la_W → Prop} (hW : la_sub q W) (hWV : ∀ u, W u → la_V q n u) (hinv : ∀ u, W u → W (la_ap q T u n)) {d e : Nat} {c1 : la_W} (hann : ∀ u, W u → la_it q n T d u = la_ln q n T c1 d u) {v : la_W} (hv : la_V q n v) (hin : la_Sp q (la_WG q n T W e v) (la_it q n T e v)) :
    (∀ u, la_Sp q (la_WG q n T W e v) u → la_Sp q (la_WG q n T W e v) (la_ap q T u n)) ∧ ∃ c2 : la_W, ∀ u, la_Sp q (la_WG q n T W e v) u → la_it q n T (d + e) u = la_ln q n T c2 (d + e) u := by
  have hq0 : 0 < q := by omega
  have hGV : ∀ y, la_WG q n T W e v y → la_V q n y := fun y hy => by
    rcases hy with hy | ⟨j, _, rfl⟩
    · exact hWV y hy
    · exact la_it_V hq0 hT hv j
  refine ⟨fun u hu => ?_, ?_⟩
  · refine hu (fun u => la_Sp q (la_WG q n T W e v) (la_ap q T u n)) ⟨by dsimp only; rw [la_ap_z]; exact la_Sp.zero, fun a b k ha hb => by dsimp only; rw [la_ap_ad]; exact la_Sp.ad ha hb k⟩ (fun y hy => ?_)
    rcases hy with hy | ⟨j, hj, rfl⟩
    · exact la_Sp.gen (Or.inl (hinv y hy))
    · by_cases h : j + 1 < e
      · exact la_Sp.gen (Or.inr ⟨j + 1, h, rfl⟩)
      · have : e = j + 1 := by omega
        rw [this] at hin ⊢
        exact hin
  · obtain ⟨w, r, hw, hwr⟩ := la_dec hq0 hT hW hWV hv hin
    have gW : ∀ u, la_Sp q (la_WG q n T W e v) u → W (la_ad q (la_it q n T e u) (la_ln q n T r e u) (q - 1)) := by
      intro u hu
      refine hu (fun u => W (la_ad q (la_it q n T e u) (la_ln q n T r e u) (q - 1))) ⟨?_, fun a b k ha hb => ?_⟩ (fun y hy => ?_)
      · have e2 : la_ln q n T r e la_z = la_z := by
          have := la_ln_ad (q := q) (n := n) (T := T) r la_z la_z 0 e
          rw [la_ad_zz] at this
          rw [this]
          funext c
          have hz := la_ln_ad (q := q) (n := n) (T := T) r la_z la_z q e
          have h1 : ∀ c, la_ln q n T r e la_z c < q := fun c => la_ap_lt hq0 _ _ _ c
          have h2 := la_ln_ad (q := q) (n := n) (T := T) r la_z la_z (q - 1) e
          rw [la_ad_zz] at h2
          have h3 := congrFun h2 c
          have h4 : la_ad q (la_ln q n T r e la_z) (la_ln q n T r e la_z) (q - 1) c = 0 := by
            show (_ + (q - 1) * _) % q = 0
            generalize la_ln q n T r e la_z c = t
            rw [show t + (q - 1) * t = q * t by
              obtain ⟨q', rfl⟩ : ∃ q', q = q' + 1 := ⟨q - 1, by omega⟩
              rw [Nat.add_sub_cancel, Nat.add_mul, Nat.one_mul, Nat.add_comm], Nat.mul_mod_right]
          rw [h4] at h3
          show (la_ln q n T r e la_z c + 0 * la_ln q n T r e la_z c) % q = 0
          rw [h3]; simp
        show W (la_ad q (la_it q n T e la_z) (la_ln q n T r e la_z) (q - 1))
        rw [la_it_z, e2, la_ad_zz]; exact hW.1
      · show W (la_ad q (la_it q n T e (la_ad q a b k)) (la_ln q n T r e (la_ad q a b k)) (q - 1))
        rw [la_it_ad, la_ln_ad, la_ex]
        exact hW.2 _ _ _ ha hb
      · rcases hy with hy | ⟨j, hj, rfl⟩
        · exact hW.2 _ _ _ (la_it_W hinv hy e) (la_ln_W hW hinv hy r e)
        · have hg : la_ad q (la_it q n T e v) (la_ln q n T r e v) (q - 1) = w := by
            rw [hwr]; exact la_ad_back' (hWV w hw).1 (by omega)
          have e1 : la_it q n T e (la_it q n T j v) = la_it q n T j (la_it q n T e v) := by rw [← la_it_add, ← la_it_add, Nat.add_comm]
          show W (la_ad q (la_it q n T e (la_it q n T j v)) (la_ln q n T r e (la_it q n T j v)) (q - 1))
          rw [e1, ← la_ln_it, ← la_it_ad, hg]
          exact la_it_W hinv hw j
    have pd : Pol q n T d (fun u => la_ln q n T c1 d u) := ⟨c1, fun _ => rfl⟩
    have pe : Pol q n T e (fun u => la_ln q n T r e u) := ⟨r, fun _ => rfl⟩
    have p1 : Pol q n T (d + e) (fun u => la_it q n T e (la_ln q n T c1 d u)) := pd.it e
    have p2 : Pol q n T (d + e) (fun u => la_it q n T d (la_ln q n T r e u)) := by rw [Nat.add_comm]; exact pe.it d
    have p3 : Pol q n T (d + e) (fun u => la_ln q n T c1 d (la_ln q n T r e u)) := by rw [Nat.add_comm]; exact pe.ln hq0 c1 d
    obtain ⟨c2, hc2⟩ := (p1.ad p3 (q - 1)).ad p2 1
    refine ⟨c2, fun u hu => ?_⟩
    rw [← hc2 u]
    dsimp only
    have hV := hu.V hq0 hGV
    have h := hann _ (gW u hu)
    rw [la_it_ad, la_ln_ad, ← la_it_add, ← la_ln_it c1 u d e] at h
    rw [← h]
    exact (la_ad_back (la_it_V hq0 hT hV (d + e)).1 (show 1 ≤ q by omega)).symm
theorem la_chain {q n : Nat} (hq : la_q q n) {T : Nat → la_W} (hT : ∀ p, p < n → la_V q n (T p)) : ∀ k (pv : Nat → Bool) (M : Nat → la_W), la_R q n pv M → fb_ct pv n + k = n → ∀ (W : la_W → Prop) (d e : Nat) (v c1 : la_W), la_sub q W → (∀ u, W u → la_V q n u) → (∀ u, W u → W (la_ap q T u n)) → (∀ u, W u → la_it q n T d u = la_ln q n T c1 d u) → la_V q n v → (∀ x, la_S q pv M x ↔ la_Sp q (la_WG q n T W e v) x) → d + e ≤ fb_ct pv n → ∃ (D : Nat) (c : la_W), D ≤ n ∧ ∀ u, la_V q n u → la_it q n T D u = la_ln q n T c D u := by
  intro k
  have hq0 := hq.pos
  induction k with
  | zero =>
    intro pv M hR hk W d e v c1 hW hWV hinv hann hv hS hde
    have hall : ∀ u, la_V q n u → la_S q pv M u := fun u hu => by
      apply Classical.byContradiction
      intro hno
      obtain ⟨pv', M', _, _, h3⟩ := la_ext hq hR hu hno
      have := fb_ct_le pv' n
      omega
    obtain ⟨_, c2, hc2⟩ := la_close hq.two hT hW hWV hinv hann hv ((hS _).mp (hall _ (la_it_V hq0 hT hv e)))
    exact ⟨d + e, c2, by omega, fun u hu => hc2 u ((hS u).mp (hall u hu))⟩
  | succ k ih =>
    intro pv M hR hk W d e v c1 hW hWV hinv hann hv hS hde
    by_cases hin : la_S q pv M (la_it q n T e v)
    · obtain ⟨hinv2, c2, hc2⟩ := la_close hq.two hT hW hWV hinv hann hv ((hS _).mp hin)
      by_cases hall : ∀ u, la_V q n u → la_S q pv M u
      · exact ⟨d + e, c2, by omega, fun u hu => hc2 u ((hS u).mp (hall u hu))⟩
      · obtain ⟨u, hu⟩ := Classical.not_forall.mp hall
        obtain ⟨hu, hno⟩ := Classical.not_imp.mp hu
        obtain ⟨pv', M', h1, h2, h3⟩ := la_ext hq hR hu hno
        refine ih pv' M' h1 (by omega) (la_S q pv M) (d + e) 1 u c2 la_Sp.is (fun x hx => hx.V hq0 (fun y hy => by obtain ⟨p, hp, rfl⟩ := hy; exact (hR.2 p hp).1)) (fun x hx => (hS _).mpr (hinv2 x ((hS x).mp hx))) (fun x hx => hc2 x ((hS x).mp hx)) hu (fun x => (h2 x).trans (la_Sp.iff (fun y hy => ?_) (fun y hy => ?_) x)) (by omega)
        · rcases hy with hy | rfl
          · exact la_Sp.gen (Or.inl (la_Sp.gen hy))
          · exact la_Sp.gen (Or.inr ⟨0, by omega, rfl⟩)
        · rcases hy with hy | ⟨j, hj, rfl⟩
          · exact la_Sp.le (fun z hz => la_Sp.gen (Or.inl hz)) hy
          · have : j = 0 := by omega
            subst this
            exact la_Sp.gen (Or.inr rfl)
    · obtain ⟨pv', M', h1, h2, h3⟩ := la_ext hq hR (la_it_V hq0 hT hv e) hin
      refine ih pv' M' h1 (by omega) W d (e + 1) v c1 hW hWV hinv hann hv (fun x => (h2 x).trans (la_Sp.iff (fun y hy => ?_) (fun y hy => ?_) x)) (by omega)
      · rcases hy with hy | rfl
        · refine la_Sp.le (fun z hz => ?_) ((hS y).mp (la_Sp.gen hy))
          rcases hz with hz | ⟨j, hj, rfl⟩
          · exact la_Sp.gen (Or.inl hz)
          · exact la_Sp.gen (Or.inr ⟨j, by omega, rfl⟩)
        · exact la_Sp.gen (Or.inr ⟨e, by omega, rfl⟩)
      · have up : ∀ z, la_S q pv M z → la_Sp q (la_up (la_G pv M) (la_it q n T e v)) z := fun z hz => la_Sp.le (fun z hz => la_Sp.gen (Or.inl hz)) hz
        rcases hy with hy | ⟨j, hj, rfl⟩
        · exact up _ ((hS y).mpr (la_Sp.gen (Or.inl hy)))
        · rcases Nat.lt_or_ge j e with h | h
          · exact up _ ((hS _).mpr (la_Sp.gen (Or.inr ⟨j, h, rfl⟩)))
          · have : j = e := by omega
            subst this
            exact la_Sp.gen (Or.inr rfl)
theorem la_ann {q n : Nat} (hq : la_q q n) {T : Nat → la_W} (hT : ∀ p, p < n → la_V q n (T p)) : ∃ (D : Nat) (c : la_W), D ≤ n ∧ ∀ u, la_V q n u → la_it q n T D u = la_ln q n T c D u := by
  have h0 : fb_ct la_no n = 0 := by
    have : ∀ m, fb_ct la_no m = 0 := by
      intro m
      induction m with
      | zero => rfl
      | succ m ih => rw [fb_ct_succ, ih]; rfl
    exact this n
  refine la_chain hq hT n la_no (fun _ => la_z) (la_R_no q n _) (by omega) (fun u => u = la_z) 0 0 la_z la_z ⟨rfl, fun a b k ha hb => by rw [ha, hb, la_ad_zz]⟩ (fun u hu => by rw [hu]; exact la_V.z hq.pos) (fun u hu => by rw [hu, la_ap_z]) (fun u hu => by rw [hu]; rfl) (la_V.z hq.pos) (fun x => ?_) (by omega)
  refine la_Sp.iff (fun y hy => ?_) (fun y hy => ?_) x
  · obtain ⟨p, hp, _⟩ := hy; cases hp
  · rcases hy with rfl | ⟨j, hj, _⟩
    · exact la_Sp.zero
    · exact absurd hj (Nat.not_lt_zero _)
theorem la_pow {q n : Nat} (hq : la_q q n) {T : Nat → la_W} {D : Nat} {c : la_W} (h : ∀ u, la_V q n u → la_it q n T D u = la_ln q n T c D u) : ∀ i, ∃ c' : la_W, ∀ u, la_V q n u → la_it q n T (i + D) u = la_ln q n T c' D u := by
  intro i
  induction i with
  | zero => exact ⟨c, fun u hu => by rw [Nat.zero_add]; exact h u hu⟩
  | succ i ih =>
    obtain ⟨c', hc'⟩ := ih
    refine ⟨la_ad q (fun j => if j = 0 then 0 else c' (j - 1)) c (if D = 0 then 0 else c' (D - 1)), fun u hu => ?_⟩
    have e : la_it q n T (i + 1 + D) u = la_ap q T (la_it q n T (i + D) u) n := by rw [Nat.add_right_comm]; rfl
    rw [e, hc' u hu, la_ln_sh]
    show la_ad q (la_ln q n T (fun j => if j = 0 then 0 else c' (j - 1)) D u) (la_it q n T D u) (if D = 0 then 0 else c' (D - 1)) = _
    rw [h u hu]
    exact (la_ap_ad q _ _ _ _ D).symm
theorem la_again {q n : Nat} (hq : la_q q n) {T : Nat → la_W} (hT : ∀ p, p < n → la_V q n (T p)) : ∃ i m, 1 ≤ m ∧ m ≤ q ^ n ∧ ∀ u, la_V q n u → la_it q n T (i + m) u = la_it q n T i u := by
  have hq0 := hq.pos
  obtain ⟨D, c, hD, hc⟩ := la_ann hq hT
  have hp := la_pow hq hc
  have hx : ∀ i, ∃ x, x < q ^ D ∧ ∀ u, la_V q n u → la_it q n T (i + D) u = la_ln q n T (la_dig q D x) D u := by
    intro i
    obtain ⟨c', hc'⟩ := hp i
    have hV : la_V q D (fun j => if j < D then c' j % q else 0) := ⟨fun j => by
      show (if j < D then c' j % q else 0) < q
      split
      · exact Nat.mod_lt _ hq0
      · exact hq0, fun j hj => by show (if j < D then c' j % q else 0) = 0; rw [if_neg (by omega)]⟩
    refine ⟨la_val q (fun j => if j < D then c' j % q else 0) D, la_val_lt (fun j _ => hV.1 j), fun u hu => ?_⟩
    rw [hc' u hu, la_dig_val hV]
    have e1 : la_ap q (fun j => la_it q n T j u) (fun j => c' j % q) D = la_ap q (fun j => la_it q n T j u) c' D := la_ap_mod D
    show la_ap q (fun j => la_it q n T j u) c' D = la_ap q (fun j => la_it q n T j u) (fun j => if j < D then c' j % q else 0) D
    rw [← e1]
    exact la_ap_cong D (fun j hj => by rw [if_pos hj])
  have hle : q ^ D ≤ q ^ n := Nat.pow_le_pow_right hq0 hD
  obtain ⟨i, j, hij, hj, e⟩ := fb_twice (m := q ^ D) (n := q ^ D + 1) (f := fun i => (hx i).choose) (fun i _ => (hx i).choose_spec.1) (by omega)
  refine ⟨i + D, j - i, by omega, by omega, fun u hu => ?_⟩
  rw [show i + D + (j - i) = j + D by omega, (hx i).choose_spec.2 u hu, (hx j).choose_spec.2 u hu]
  rw [e]
