def OthT (τ τ' : ss_S) : Prop := (∀ i, i ≠ 0 → i ≠ 2 → i ≠ 3 → τ' i = τ i) ∧ ∀ j, j ≠ 7 → τ' 0 j = τ 0 j
theorem OthM.toT {τ τ' : ss_S} (h : OthM τ τ') : OthT τ τ' := ⟨fun i a b _ => h.1 i a b, h.2⟩
theorem OthT.rf {τ : ss_S} : OthT τ τ := ⟨fun _ _ _ _ => rfl, fun _ _ => rfl⟩
theorem OthT.trans {τ τ' τ'' : ss_S} (h : OthT τ τ') (h' : OthT τ' τ'') : OthT τ τ'' := ⟨fun i a b c => (h'.1 i a b c).trans (h.1 i a b c), fun j hj => (h'.2 j hj).trans (h.2 j hj)⟩
theorem OthM.rf {τ : ss_S} : OthM τ τ := ⟨fun _ _ _ => rfl, fun _ _ => rfl⟩
theorem OthM.trans {τ τ' τ'' : ss_S} (h : OthM τ τ') (h' : OthM τ' τ'') : OthM τ τ'' := ⟨fun i a b => (h'.1 i a b).trans (h.1 i a b), fun j hj => (h'.2 j hj).trans (h.2 j hj)⟩
theorem OthT.Fr {τ τ' : ss_S} {q n : Nat} (h : OthT τ τ') (hF : FrM τ q n) : FrM τ' q n := by
  obtain ⟨a, b, c, d⟩ := hF
  exact ⟨a, by rw [h.2 0 (by omega)]; exact b, by rw [h.2 1 (by omega)]; exact c, by rw [h.2 2 (by omega)]; exact d⟩
theorem OthM.w7 {τ : ss_S} (x : Int32) : OthM τ (u2 τ 0 7 x) := ⟨fun i a _ => u2_ne _ _ _ a, fun j hj => by rw [u2_at, pk_un hj]⟩
theorem OthM.work {τ : ss_S} (f : Nat → Int32) : OthM τ (sA τ 2 f) := ⟨fun i _ b => sA_ne _ _ b, fun j _ => by rw [sA_ne _ _ (by omega)]⟩
theorem la_val_sm {q : Nat} {v : la_W} : ∀ n, la_val q v n = fb_sm (fun c => v c * q ^ (n - 1 - c)) n := by
  intro n
  induction n with
  | zero => rfl
  | succ n ih =>
    simp only [la_val]
    rw [fb_sm_succ, ih, Nat.add_sub_cancel, Nat.sub_self, Nat.pow_zero, Nat.mul_one]
    congr 1
    have : ∀ k, k ≤ n → fb_sm (fun c => v c * q ^ (n - 1 - c)) k * q = fb_sm (fun c => v c * q ^ (n - c)) k := by
      intro k
      induction k with
      | zero => intro _; simp [fb_sm]
      | succ k ihk =>
        intro hk
        rw [fb_sm_succ, fb_sm_succ, Nat.add_mul, ihk (by omega), Nat.mul_assoc, ← Nat.pow_succ, show (n - 1 - k).succ = n - k by omega]
    exact this n (Nat.le_refl n)
theorem nar_b0 : vp_nar .boolean 0 = 0 := by decide
theorem nar_b1 : vp_nar .boolean 1 = 1 := by decide
theorem la_dv_val {q n : Nat} (pv : Nat → Bool) (M : Nat → la_W) {fr : Nat} (hfr : fr < n) (hp : pv fr = false) : la_val q (la_dv q n pv M fr) n = q ^ (n - 1 - fr) + fb_sm (fun p => if pv p = true then (q - M p fr) % q * q ^ (n - 1 - p) else 0) n := by
  rw [la_val_sm]
  have e := fb_sm_upd (fun p => if pv p = true then (q - M p fr) % q * q ^ (n - 1 - p) else 0) (q ^ (n - 1 - fr)) (i := fr) (n := n) hfr
  have e2 : (if pv fr = true then (q - M fr fr) % q * q ^ (n - 1 - fr) else 0) = 0 := by rw [hp]; rfl
  rw [e2, Nat.add_zero] at e
  rw [Nat.add_comm, ← e]
  refine fb_sm_cong (fun c hc => ?_)
  unfold la_dv
  by_cases h1 : c = fr
  · subst h1; rw [if_pos rfl, if_pos rfl, Nat.one_mul]
  · rw [if_neg h1, if_neg h1]
    by_cases h2 : pv c = true
    · rw [if_pos ⟨hc, h2⟩, if_pos h2]
    · rw [if_neg (fun hx => h2 hx.2), if_neg h2, Nat.zero_mul]
theorem pX5_turn {τ : ss_S} {q n : Nat} (hF : FrM τ q n) {pv : Nat → Bool} {M : Nat → la_W} (hR : la_R q n pv M) (hw0 : τ 0 7 = nI (fb_ct pv n)) (hrows : ∀ p, pv p = true → τ 2 (fb_ct pv p) = nI (la_val q (M p) n)) {post : ss_S → Prop}
    (hp : ∀ (τ' : ss_S) (pv' : Nat → Bool) (M' : Nat → la_W), OthT τ τ' → la_R q n pv' M' → (∀ v, la_S q pv' M' v ↔ la_Sp q (la_dG q n pv M n) v) → τ' 0 7 = nI (fb_ct pv' n) → (∀ p, pv' p = true → τ' 2 (fb_ct pv' p) = nI (la_val q (M' p) n)) → post τ') : wX5_turn τ post := by
  have hq := hF.1
  have h6 := hq.n6
  have h5 := hq.five
  have hq0 := hq.pos
  have hpw := la_pow_le hq
  have hd6 : fb_ct pv n ≤ n := fb_ct_le pv n
  have hbv : ∀ v : la_W, la_V q n v → la_val q v n < 2 ^ 31 := fun v hv => by have := la_val_lt (n := n) (fun c _ => hv.1 c); omega
  have hrow : ∀ i, i < fb_ct pv n → ∃ p, p < n ∧ pv p = true ∧ fb_ct pv p = i ∧ τ 2 i = nI (la_val q (M p) n) := by
    intro i hi
    obtain ⟨p, h1, h2, h3⟩ := fb_ct_kth hi
    exact ⟨p, h1, h2, h3, by rw [← h3]; exact hrows p h2⟩
  have hpiv : ∀ (τ1 : ss_S), FrM τ1 q n → ∀ p, pv p = true → ∀ (P : Int32 → ss_S → Prop), P (nI p) τ1 → wX5_pivot (nI (la_val q (M p) n)) τ1 P := by
    intro τ1 hF1 p hp P hP
    obtain ⟨a, b, c, d⟩ := hR.2 p hp
    exact pX5_pivot hF1 a (hR.1 p hp) c (by rw [b]; omega) hP
  unfold wX5_turn
  rw [hw0]
  have L1 : ∀ (K : Int32 → ss_S → Prop), (∀ f : Nat → Int32, (∀ c, c < 6 → f c = 0) → K (nI 6) (sA τ 3 f)) → ∀ d i, i + d = 6 → ∀ f : Nat → Int32, (∀ c, c < i → f c = 0) → lX5_turn_7 (nI (fb_ct pv n)) post K (d + 1) (nI i) (sA τ 3 f) := by
    intro K hK d
    induction d with
    | zero =>
      intro i hi f hf
      have e : i = 6 := by omega
      subst e
      exact And.intro (fun _ => hK f hf) (fun hc => absurd (nI_le (a := 6) (b := 6) (Nat.le_refl _) (by omega)) hc)
    | succ d ih =>
      intro i hi f hf
      refine And.intro (fun hc => absurd hc (nI_ge (b := 6) (by omega) (by omega))) (fun _ => And.intro (vp_in_nI (by omega) (by omega)) ?_)
      rw [nI_clamp (by omega), u2_sA, nar_b0, nI_1]
      refine ih (i + 1) (by omega) _ (fun c hc => ?_)
      by_cases e : c = i
      · rw [e, pk_us]
      · rw [pk_un e]; exact hf c (by omega)
  have L1' : ∀ (K : Int32 → ss_S → Prop), (∀ f : Nat → Int32, (∀ c, c < 6 → f c = 0) → K (nI 6) (sA τ 3 f)) → lX5_turn_7 (nI (fb_ct pv n)) post K 7 0 τ := by
    intro K hK
    have := L1 K hK 6 0 (by omega) (τ 3) (fun c hc => absurd hc (Nat.not_lt_zero _))
    rw [sA_id] at this
    exact this
  refine ⟨7, L1' _ (fun f hf => ?_)⟩
  have L2 : ∀ (K : Int32 → ss_S → Prop), (∀ f : Nat → Int32, (∀ c, c < n → f c = nI (la_b pv c)) → K (nI (fb_ct pv n)) (sA τ 3 f)) → ∀ d i, i + d = fb_ct pv n → ∀ f : Nat → Int32, (∀ c, c < n → f c = nI (if pv c = true ∧ fb_ct pv c < i then 1 else 0)) → lX5_turn_28 (nI (fb_ct pv n)) post K (d + 1) (nI i) (sA τ 3 f) := by
    intro K hK d
    induction d with
    | zero =>
      intro i hi f hf
      have e : i = fb_ct pv n := by omega
      refine And.intro (fun _ => ?_) (fun hc => absurd (nI_le (by omega) (by omega)) hc)
      rw [e]
      refine hK f (fun c hc => ?_)
      rw [hf c hc]
      unfold la_b
      by_cases hpc : pv c = true
      · rw [if_pos hpc, if_pos ⟨hpc, by have := la_ct_lt hpc hc; omega⟩]
      · rw [if_neg hpc, if_neg (fun hx => hpc hx.1)]
    | succ d ih =>
      intro i hi f hf
      obtain ⟨p, hpn, hpp, hpi, hpr⟩ := hrow i (by omega)
      refine And.intro (fun hc => absurd hc (nI_ge (by omega) (by omega))) (fun _ => And.intro (vp_in_nI (by omega) (by omega)) ?_)
      rw [nI_clamp (by omega), sA_ne _ _ (by omega), hpr]
      refine hpiv _ (hF.sA (by omega) f) p hpp _ ?_
      refine And.intro (vp_in_nI (by omega) (by omega)) ?_
      rw [nI_clamp (by omega), u2_sA, nar_b1, nI_1]
      refine ih (i + 1) (by omega) _ (fun c hc => ?_)
      by_cases e : c = p
      · rw [e, pk_us, if_pos ⟨hpp, by omega⟩]; rfl
      · rw [pk_un e, hf c hc]
        by_cases h2 : pv c = true ∧ fb_ct pv c < i
        · rw [if_pos h2, if_pos ⟨h2.1, by omega⟩]
        · rw [if_neg h2, if_neg (fun hx => by
            obtain ⟨x1, x2⟩ := hx
            rcases Nat.lt_or_ge (fb_ct pv c) i with y | y
            · exact h2 ⟨x1, y⟩
            · exact e (fb_ct_kth_one x1 hpp (by omega)))]
  have L2' : ∀ (K : Int32 → ss_S → Prop), (∀ f : Nat → Int32, (∀ c, c < n → f c = nI (la_b pv c)) → K (nI (fb_ct pv n)) (sA τ 3 f)) → lX5_turn_28 (nI (fb_ct pv n)) post K (fb_ct pv n + 1) 0 (sA τ 3 f) := fun K hK => L2 K hK (fb_ct pv n) 0 (by omega) f (fun c hc => by rw [hf c (by omega), if_neg (fun hx => absurd hx.2 (Nat.not_lt_zero _))]; rfl)
  refine ⟨fb_ct pv n + 1, L2' _ ?_⟩
  clear L2' hf f
  intro f hf
  have hnp : ∀ k, fb_ct pv k + fb_ct (fun j => !pv j) k = k := fun k => fb_ct_not pv k
  have L3 : ∀ (K : Int32 → Int32 → ss_S → Prop), (∀ w : Nat → Int32, (∀ fr, fr < n → pv fr = false → w (fb_ct pv n + fb_ct (fun j => !pv j) fr) = nI (la_val q (la_dv q n pv M fr) n)) → K (nI (fb_ct pv n + fb_ct (fun j => !pv j) n)) (nI n) (sA (sA τ 3 f) 2 w)) → ∀ d col, col + d = n → ∀ w : Nat → Int32, (∀ i, i < fb_ct pv n → w i = τ 2 i) → (∀ fr, fr < col → pv fr = false → w (fb_ct pv n + fb_ct (fun j => !pv j) fr) = nI (la_val q (la_dv q n pv M fr) n)) → lX5_turn_59 (nI (fb_ct pv n)) post K (d + 1) (nI (fb_ct pv n + fb_ct (fun j => !pv j) col)) (nI col) (sA (sA τ 3 f) 2 w) := by
    intro K hK d
    induction d with
    | zero =>
      intro col hcol w hw1 hw2
      have e : col = n := by omega
      subst e
      refine And.intro (fun _ => hK w hw2) (fun hc => absurd (by rw [sA_ne _ _ (by omega), sA_ne _ _ (by omega), hF.2.2.1]; exact nI_le (Nat.le_refl _) (by omega)) hc)
    | succ d ih =>
      intro col hcol w hw1 hw2
      have hFx : FrM (sA (sA τ 3 f) 2 w) q n := (hF.sA (by omega) f).sA (by omega) w
      have hsuc := fb_ct_succ (fun j => !pv j) col
      have hnpc := hnp col
      have hctl : fb_ct pv col ≤ fb_ct pv n := fb_ct_mono pv (by omega)
      refine And.intro (fun hc => absurd hc (by rw [hFx.2.2.1]; exact nI_ge (by omega) (by omega))) (fun _ => And.intro (vp_in_nI (by omega) (by omega)) ?_)
      rw [nI_clamp (by omega), sA_ne _ _ (show 3 ≠ 2 by omega), sA_same, hf col (by omega), nI_1 col]
      by_cases hpc : pv col = true
      · rw [la_b_t hpc]
        refine And.intro (fun _ => ?_) (fun hc => absurd hc i1_0)
        have e : fb_ct (fun j => !pv j) (col + 1) = fb_ct (fun j => !pv j) col := by rw [hsuc, hpc]; rfl
        rw [← e]
        refine ih (col + 1) (by omega) w hw1 (fun fr hfr hpf => hw2 fr ?_ hpf)
        rcases Nat.lt_or_ge fr col with x | x
        · exact x
        · rw [show fr = col by omega, hpc] at hpf; cases hpf
      · have hpf : pv col = false := by cases e : pv col with
          | false => rfl
          | true => exact absurd e hpc
        rw [la_b_f hpc]
        refine And.intro (fun hc => absurd rfl hc) (fun _ => ?_)
        rw [hFx.2.1, hFx.2.2.1, nI_sub1 (show col < n by omega)]
        refine pX5_power _ (by omega) ?_
        have Ssucc : ∀ i p, p < n → pv p = true → fb_ct pv p = i → fb_sm (fun p => if pv p = true ∧ fb_ct pv p < i + 1 then (q - M p col) % q * q ^ (n - 1 - p) else 0) n = fb_sm (fun p => if pv p = true ∧ fb_ct pv p < i then (q - M p col) % q * q ^ (n - 1 - p) else 0) n + (q - M p col) % q * q ^ (n - 1 - p) := by
          intro i p hpn hpp hpi
          have e := fb_sm_upd (fun p => if pv p = true ∧ fb_ct pv p < i then (q - M p col) % q * q ^ (n - 1 - p) else 0) ((q - M p col) % q * q ^ (n - 1 - p)) (i := p) (n := n) hpn
          have e2 : (if pv p = true ∧ fb_ct pv p < i then (q - M p col) % q * q ^ (n - 1 - p) else 0) = 0 := if_neg (fun hx => by omega)
          rw [e2, Nat.add_zero] at e
          rw [← e]
          refine fb_sm_cong (fun k hk => ?_)
          by_cases ek : k = p
          · subst ek; rw [if_pos ⟨hpp, by omega⟩, if_pos rfl]
          · rw [if_neg ek]
            by_cases h2 : pv k = true ∧ fb_ct pv k < i
            · rw [if_pos h2, if_pos ⟨h2.1, by omega⟩]
            · rw [if_neg h2, if_neg (fun hx => by
                obtain ⟨x1, x2⟩ := hx
                rcases Nat.lt_or_ge (fb_ct pv k) i with y | y
                · exact h2 ⟨x1, y⟩
                · exact ek (fb_ct_kth_one x1 hpp (by omega)))]
        have L4 : ∀ (K2 : Int32 → Int32 → ss_S → Prop), K2 (nI (la_val q (la_dv q n pv M col) n)) (nI (fb_ct pv n)) (sA (sA τ 3 f) 2 w) → ∀ e i, i + e = fb_ct pv n → lX5_turn_96 (nI (fb_ct pv n)) (nI (fb_ct pv n + fb_ct (fun j => !pv j) col)) (nI col) post K2 (e + 1) (nI (q ^ (n - 1 - col) + fb_sm (fun p => if pv p = true ∧ fb_ct pv p < i then (q - M p col) % q * q ^ (n - 1 - p) else 0) n)) (nI i) (sA (sA τ 3 f) 2 w) := by
          intro K2 hK2 e
          induction e with
          | zero =>
            intro i hi
            have ei : i = fb_ct pv n := by omega
            refine And.intro (fun _ => ?_) (fun hc => absurd (nI_le (by omega) (by omega)) hc)
            rw [la_dv_val pv M (by omega) hpf] at hK2
            have es : fb_sm (fun p => if pv p = true ∧ fb_ct pv p < i then (q - M p col) % q * q ^ (n - 1 - p) else 0) n = fb_sm (fun p => if pv p = true then (q - M p col) % q * q ^ (n - 1 - p) else 0) n := by
              refine fb_sm_cong (fun k hk => ?_)
              by_cases h2 : pv k = true
              · rw [if_pos h2, if_pos ⟨h2, by have := la_ct_lt h2 hk; omega⟩]
              · rw [if_neg h2, if_neg (fun hx => h2 hx.1)]
            rw [es, ei]
            exact hK2
          | succ e ihe =>
            intro i hi
            obtain ⟨p, hpn, hpp, hpi, hpr⟩ := hrow i (by omega)
            have hVp := (hR.2 p hpp).1
            have hMq := hVp.1 col
            refine And.intro (fun hc => absurd hc (nI_ge (by omega) (by omega))) (fun _ => And.intro (vp_in_nI (by omega) (by omega)) ?_)
            rw [nI_clamp (by omega), sA_same, hw1 i (by omega), hpr]
            refine pX5_figure hFx (hbv _ hVp) (by omega) ?_
            rw [la_dig_val hVp, hFx.2.1, pk_sub (by omega), pk_rem (by omega) hq0 (by omega)]
            refine And.intro (nI_q0 hq0 (by omega)) (And.intro (vp_in_nI (by omega) (by omega)) ?_)
            rw [sA_same, hw1 i (by omega), hpr]
            refine hpiv _ hFx p hpp _ ?_
            rw [hFx.2.2.1, nI_sub1 hpn]
            refine pX5_power _ (by omega) ?_
            rw [pk_mul, nI_add, nI_1, Nat.add_assoc, ← Ssucc i p hpn hpp hpi]
            exact ihe (i + 1) (by omega)
        have S0 : fb_sm (fun p => if pv p = true ∧ fb_ct pv p < 0 then (q - M p col) % q * q ^ (n - 1 - p) else 0) n = 0 := la_sm_zero (fun j _ => if_neg (fun hx => absurd hx.2 (Nat.not_lt_zero _)))
        have st := fun K2 hK2 => L4 K2 hK2 (fb_ct pv n) 0 (by omega)
        rw [S0, Nat.add_zero] at st
        refine ⟨_, st _ ?_⟩
        refine And.intro (vp_in_nI (by omega) (by omega)) ?_
        have e : fb_ct (fun j => !pv j) (col + 1) = fb_ct (fun j => !pv j) col + 1 := by rw [hsuc, hpf]; rfl
        rw [nI_clamp (by omega), u2_sA, nI_1, Nat.add_assoc, ← e]
        refine ih (col + 1) (by omega) _ (fun i hi => by rw [pk_un (by omega)]; exact hw1 i hi) (fun fr hfr hpfr => ?_)
        rcases Nat.lt_or_ge fr col with x | x
        · have hlt : fb_ct (fun j => !pv j) fr < fb_ct (fun j => !pv j) col := la_ct_lt (pv := fun j => !pv j) (by rw [hpfr]; rfl) x
          rw [pk_un (by omega)]
          exact hw2 fr x hpfr
        · have efr : fr = col := by omega
          subst efr
          rw [pk_us]
  have L3' : ∀ (K : Int32 → Int32 → ss_S → Prop), (∀ w : Nat → Int32, (∀ fr, fr < n → pv fr = false → w (fb_ct pv n + fb_ct (fun j => !pv j) fr) = nI (la_val q (la_dv q n pv M fr) n)) → K (nI (fb_ct pv n + fb_ct (fun j => !pv j) n)) (nI n) (sA (sA τ 3 f) 2 w)) → lX5_turn_59 (nI (fb_ct pv n)) post K (n + 1) (nI (fb_ct pv n)) 0 (sA τ 3 f) := by
    intro K hK
    have := L3 K hK n 0 (by omega) (sA τ 3 f 2) (fun i hi => by rw [sA_ne _ _ (by omega)]) (fun fr hfr => absurd hfr (Nat.not_lt_zero _))
    rw [sA_id] at this
    exact this
  refine ⟨n + 1, L3' _ (fun w hw => ?_)⟩
  have hm' := hnp n
  generalize hme : fb_ct (fun j => !pv j) n = m' at hm' ⊢
  rw [show nI (fb_ct pv n + m') - nI (fb_ct pv n) = nI m' by rw [pk_sub (by omega), Nat.add_sub_cancel_left]]
  have e57 : ∀ w1 : Nat → Int32, sA (u2 (sA (sA τ 3 f) 2 w) 0 7 (nI m')) 2 w1 0 7 = nI m' := fun w1 => by rw [sA_ne _ _ (by omega), u2_at, pk_us]
  have L5 : ∀ (K : Int32 → ss_S → Prop), (∀ w1 : Nat → Int32, (∀ j, j < m' → w1 j = w (fb_ct pv n + j)) → K (nI m') (sA (u2 (sA (sA τ 3 f) 2 w) 0 7 (nI m')) 2 w1)) → ∀ d i, i + d = m' → ∀ w1 : Nat → Int32, (∀ j, j < i → w1 j = w (fb_ct pv n + j)) → (∀ j, i ≤ j → w1 j = w j) → lX5_turn_187 (nI (fb_ct pv n)) post K (d + 1) (nI i) (sA (u2 (sA (sA τ 3 f) 2 w) 0 7 (nI m')) 2 w1) := by
    intro K hK d
    induction d with
    | zero =>
      intro i hi w1 h1 h2
      have e : i = m' := by omega
      subst e
      exact And.intro (fun _ => hK w1 h1) (fun hc => absurd (by rw [e57]; exact nI_le (Nat.le_refl _) (by omega)) hc)
    | succ d ih =>
      intro i hi w1 h1 h2
      refine And.intro (fun hc => absurd hc (by rw [e57]; exact nI_ge (by omega) (by omega))) (fun _ => ?_)
      rw [nI_add]
      refine And.intro (vp_in_nI (by omega) (by omega)) (And.intro (vp_in_nI (by omega) (by omega)) ?_)
      rw [nI_clamp (by omega), nI_clamp (by omega), sA_same, u2_sA, nI_1]
      refine ih (i + 1) (by omega) _ (fun j hj => ?_) (fun j hj => by rw [pk_un (by omega)]; exact h2 j (by omega))
      by_cases e : j = i
      · rw [e, pk_us]; exact h2 _ (by omega)
      · rw [pk_un e]; exact h1 j (by omega)
  have L5' : ∀ (K : Int32 → ss_S → Prop), (∀ w1 : Nat → Int32, (∀ j, j < m' → w1 j = w (fb_ct pv n + j)) → K (nI m') (sA (u2 (sA (sA τ 3 f) 2 w) 0 7 (nI m')) 2 w1)) → lX5_turn_187 (nI (fb_ct pv n)) post K (m' + 1) 0 (u2 (sA (sA τ 3 f) 2 w) 0 7 (nI m')) := by
    intro K hK
    have e : u2 (sA (sA τ 3 f) 2 w) 0 7 (nI m') 2 = w := by rw [u2_ne _ _ _ (by omega), sA_same]
    have := L5 K hK m' 0 (by omega) w (fun j hj => absurd hj (Nat.not_lt_zero _)) (fun j _ => rfl)
    have e2 := sA_id (u2 (sA (sA τ 3 f) 2 w) 0 7 (nI m')) 2
    rw [e] at e2
    rw [e2] at this
    exact this
  refine ⟨m' + 1, L5' _ (fun w1 hw1 => ?_)⟩
  have hO : OthT τ (sA (u2 (sA (sA τ 3 f) 2 w) 0 7 (nI m')) 2 w1) := by
    refine ⟨fun i a b c => ?_, fun j hj => ?_⟩
    · rw [sA_ne _ _ b, u2_ne _ _ _ a, sA_ne _ _ b, sA_ne _ _ c]
    · rw [sA_ne _ _ (by omega), u2_at, pk_un hj, sA_ne _ _ (by omega), sA_ne _ _ (by omega)]
  have hfr : ∀ i, i < m' → ∃ fr, fr < n ∧ pv fr = false ∧ fb_ct (fun j => !pv j) fr = i := by
    intro i hi
    rw [← hme] at hi
    obtain ⟨fr, h1, h2, h3⟩ := fb_ct_kth hi
    exact ⟨fr, h1, by simpa using h2, h3⟩
  obtain ⟨fc, hfc⟩ : ∃ fc : Nat → Nat, ∀ i, i < m' → fc i < n ∧ pv (fc i) = false ∧ fb_ct (fun j => !pv j) (fc i) = i := by
    refine ⟨fun i => if h : i < m' then (hfr i h).choose else 0, fun i hi => ?_⟩
    dsimp only
    rw [dif_pos hi]
    exact (hfr i hi).choose_spec
  refine pX5_settle (hO.Fr hF) (m := m') (by omega) (e57 w1) (g := fun i => la_dv q n pv M (fc i)) (fun i hi => la_dv_V hq.two pv M (hfc i hi).1) (fun i hi => ?_) (fun τ' pv' M' hO' hR' hS' _ h7 hr' => hp τ' pv' M' (hO.trans hO'.toT) hR' (fun v => (hS' v).trans (la_Sp.congr (fun x => ?_) v)) h7 hr')
  · obtain ⟨a, b, c⟩ := hfc i hi
    have := hw (fc i) a b
    rw [c] at this
    rw [sA_same, hw1 i hi, this]
  · constructor
    · rintro ⟨i, hi, rfl⟩
      exact ⟨fc i, (hfc i hi).1, (hfc i hi).2.1, rfl⟩
    · rintro ⟨fr, h1, h2, rfl⟩
      have hnf : (fun j => !pv j) fr = true := by dsimp only; rw [h2]; rfl
      have hlt := la_ct_lt (pv := fun j => !pv j) hnf h1
      rw [hme] at hlt
      refine ⟨fb_ct (fun j => !pv j) fr, hlt, ?_⟩
      obtain ⟨a, b, c⟩ := hfc _ hlt
      have hnf' : (fun j => !pv j) (fc (fb_ct (fun j => !pv j) fr)) = true := by dsimp only; rw [b]; rfl
      dsimp only
      rw [fb_ct_kth_one hnf' hnf c]
