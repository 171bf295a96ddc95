abbrev la_W : Type := Nat → Nat
def la_ad (q : Nat) (v w : la_W) (k : Nat) : la_W := fun c => (v c + k * w c) % q
def la_V (q n : Nat) (v : la_W) : Prop := (∀ c, v c < q) ∧ ∀ c, n ≤ c → v c = 0
def la_z : la_W := fun _ => 0
def la_sub (q : Nat) (S : la_W → Prop) : Prop := S la_z ∧ ∀ v w k, S v → S w → S (la_ad q v w k)
def la_Sp (q : Nat) (G : la_W → Prop) (v : la_W) : Prop := ∀ S : la_W → Prop, la_sub q S → (∀ w, G w → S w) → S v
theorem la_Sp.gen {q : Nat} {G : la_W → Prop} {v : la_W} (h : G v) : la_Sp q G v := fun _ _ hG => hG v h
theorem la_Sp.zero {q : Nat} {G : la_W → Prop} : la_Sp q G la_z := fun _ hS _ => hS.1
theorem la_Sp.ad {q : Nat} {G : la_W → Prop} {v w : la_W} (hv : la_Sp q G v) (hw : la_Sp q G w) (k : Nat) : la_Sp q G (la_ad q v w k) := fun S hS hG => hS.2 _ _ _ (hv S hS hG) (hw S hS hG)
theorem la_Sp.is {q : Nat} {G : la_W → Prop} : la_sub q (la_Sp q G) := ⟨la_Sp.zero, fun _ _ k hv hw => hv.ad hw k⟩
theorem la_Sp.le {q : Nat} {G G' : la_W → Prop} {v : la_W} (h : ∀ w, G w → la_Sp q G' w) (hv : la_Sp q G v) : la_Sp q G' v := hv _ la_Sp.is h
theorem la_Sp.iff {q : Nat} {G G' : la_W → Prop} (h : ∀ w, G w → la_Sp q G' w) (h' : ∀ w, G' w → la_Sp q G w) (v : la_W) : la_Sp q G v ↔ la_Sp q G' v := ⟨la_Sp.le h, la_Sp.le h'⟩
theorem la_V.z {q n : Nat} (hq : 0 < q) : la_V q n la_z := ⟨fun _ => hq, fun _ _ => rfl⟩
theorem la_V.ad {q n : Nat} (hq : 0 < q) {v w : la_W} (hv : la_V q n v) (hw : la_V q n w) (k : Nat) : la_V q n (la_ad q v w k) :=
  ⟨fun c => Nat.mod_lt _ hq, fun c hc => by simp only [la_ad, hv.2 c hc, hw.2 c hc]; simp⟩
theorem la_V.sub {q n : Nat} (hq : 0 < q) : la_sub q (la_V q n) := ⟨la_V.z hq, fun _ _ k hv hw => hv.ad hq hw k⟩
theorem la_Sp.V {q n : Nat} (hq : 0 < q) {G : la_W → Prop} {v : la_W} (hG : ∀ w, G w → la_V q n w) (hv : la_Sp q G v) : la_V q n v := hv _ (la_V.sub hq) hG
theorem la_ad_0 {q : Nat} {v w : la_W} (hv : ∀ c, v c < q) : la_ad q v w 0 = v := by
  funext c; simp only [la_ad, Nat.zero_mul, Nat.add_zero]; exact Nat.mod_eq_of_lt (hv c)
theorem la_ad_q {q : Nat} {v w : la_W} (hv : ∀ c, v c < q) : la_ad q v w q = v := by
  funext c; simp only [la_ad, Nat.add_mul_mod_self_left]; exact Nat.mod_eq_of_lt (hv c)
theorem la_ad_ad {q : Nat} (v w : la_W) (j k : Nat) : la_ad q (la_ad q v w j) w k = la_ad q v w (j + k) := by
  funext c
  simp only [la_ad, Nat.mod_add_mod, Nat.add_mul, Nat.add_assoc]
theorem la_ad_back {q : Nat} {v w : la_W} (hv : ∀ c, v c < q) {k : Nat} (hk : k ≤ q) : la_ad q (la_ad q v w (q - k)) w k = v := by
  rw [la_ad_ad, Nat.sub_add_cancel hk, la_ad_q hv]
theorem la_ad_back' {q : Nat} {v w : la_W} (hv : ∀ c, v c < q) {k : Nat} (hk : k ≤ q) : la_ad q (la_ad q v w k) w (q - k) = v := by
  rw [la_ad_ad, Nat.add_sub_cancel' hk, la_ad_q hv]
def la_sc (q : Nat) (v : la_W) (k : Nat) : la_W := la_ad q la_z v k
theorem la_sc_at (q : Nat) (v : la_W) (k c : Nat) : la_sc q v k c = (k * v c) % q := by simp [la_sc, la_ad, la_z]
theorem la_Sp.sc {q : Nat} {G : la_W → Prop} {v : la_W} (hv : la_Sp q G v) (k : Nat) : la_Sp q G (la_sc q v k) := la_Sp.zero.ad hv k
theorem la_V.sc {q n : Nat} (hq : 0 < q) {v : la_W} (hv : la_V q n v) (k : Nat) : la_V q n (la_sc q v k) := (la_V.z hq).ad hq hv k
theorem la_sc_sc {q : Nat} (v : la_W) (j k : Nat) : la_sc q (la_sc q v j) k = la_sc q v (k * j) := by
  funext c
  rw [la_sc_at, la_sc_at, la_sc_at, Nat.mul_mod_mod, Nat.mul_assoc]
theorem la_sc_1 {q : Nat} {v : la_W} (hv : ∀ c, v c < q) {k : Nat} (hk : k % q = 1) : la_sc q v k = v := by
  funext c
  rw [la_sc_at, Nat.mul_mod, hk, Nat.one_mul, Nat.mod_mod, Nat.mod_eq_of_lt (hv c)]
def la_R (q n : Nat) (pv : Nat → Bool) (M : Nat → la_W) : Prop := (∀ p, pv p = true → p < n) ∧ ∀ p, pv p = true → la_V q n (M p) ∧ M p p = 1 ∧ (∀ c, c < p → M p c = 0) ∧ ∀ p', pv p' = true → p' ≠ p → M p p' = 0
def la_G (pv : Nat → Bool) (M : Nat → la_W) (v : la_W) : Prop := ∃ p, pv p = true ∧ v = M p
def la_S (q : Nat) (pv : Nat → Bool) (M : Nat → la_W) : la_W → Prop := la_Sp q (la_G pv M)
def la_cb (q n : Nat) (pv : Nat → Bool) (M : Nat → la_W) (v : la_W) (c : Nat) : Nat := fb_sm (fun p => if pv p = true then v p * M p c else 0) n % q
def la_H (q n : Nat) (pv : Nat → Bool) (M : Nat → la_W) (v : la_W) : Prop := la_V q n v ∧ ∀ c, c < n → v c = la_cb q n pv M v c
theorem la_sm_one {f : Nat → Nat} {p : Nat} : ∀ {n : Nat}, p < n → (∀ j, j < n → j ≠ p → f j = 0) → fb_sm f n = f p := by
  intro n
  induction n with
  | zero => intro h; exact absurd h (Nat.not_lt_zero _)
  | succ n ih =>
    intro h hf
    rw [fb_sm_succ]
    by_cases e : n = p
    · subst e
      have : fb_sm f n = 0 := by
        have h0 : fb_sm f n = fb_sm (fun _ => 0) n := fb_sm_cong (fun k hk => hf k (by omega) (by omega))
        rw [h0, fb_sm_const, Nat.mul_zero]
      omega
    · rw [ih (by omega) (fun j hj hne => hf j (by omega) hne), hf n (by omega) e, Nat.add_zero]
theorem la_sm_zero {f : Nat → Nat} {n : Nat} (h : ∀ j, j < n → f j = 0) : fb_sm f n = 0 := by
  rw [fb_sm_cong (g := fun _ => 0) h, fb_sm_const, Nat.mul_zero]
theorem la_sm_lin (q : Nat) (a b m : Nat → Nat) (pv : Nat → Bool) (k : Nat) : ∀ n, fb_sm (fun p => if pv p = true then (a p + k * b p) % q * m p else 0) n % q = (fb_sm (fun p => if pv p = true then a p * m p else 0) n + k * fb_sm (fun p => if pv p = true then b p * m p else 0) n) % q := by
  intro n
  induction n with
  | zero => simp [fb_sm]
  | succ n ih =>
    simp only [fb_sm_succ]
    rw [Nat.add_mod, ih]
    by_cases h : pv n = true
    · simp only [if_pos h]
      rw [Nat.mul_mod ((a n + k * b n) % q), Nat.mod_mod, ← Nat.mul_mod, ← Nat.add_mod, Nat.add_mul, Nat.mul_add, Nat.mul_assoc]
      congr 1
      omega
    · simp only [if_neg h, Nat.add_zero, Nat.zero_mod, Nat.mod_mod]
theorem la_H.sub {q n : Nat} (hq : 0 < q) (pv : Nat → Bool) (M : Nat → la_W) : la_sub q (la_H q n pv M) := by
  refine ⟨⟨la_V.z hq, fun c _ => ?_⟩, fun v w k hv hw => ⟨hv.1.ad hq hw.1 k, fun c hc => ?_⟩⟩
  · unfold la_cb
    rw [la_sm_zero (fun j _ => by simp [la_z])]
    simp [la_z]
  · show (v c + k * w c) % q = fb_sm (fun p => if pv p = true then (v p + k * w p) % q * M p c else 0) n % q
    rw [la_sm_lin q v w (fun p => M p c) pv k n, hv.2 c hc, hw.2 c hc]
    unfold la_cb
    rw [Nat.add_mod, Nat.mul_mod, Nat.mod_mod, Nat.mod_mod, ← Nat.mul_mod, ← Nat.add_mod]
theorem la_H.row {q n : Nat} {pv : Nat → Bool} {M : Nat → la_W} (hR : la_R q n pv M) {p : Nat} (hp : pv p = true) : la_H q n pv M (M p) := by
  obtain ⟨hV, h1, h0, hd⟩ := hR.2 p hp
  refine ⟨hV, fun c hc => ?_⟩
  unfold la_cb
  rw [la_sm_one (p := p) (hR.1 p hp) (fun j hj hne => by
    by_cases h : pv j = true
    · simp only [if_pos h]; rw [hd j h hne, Nat.zero_mul]
    · simp only [if_neg h])]
  simp only [if_pos hp]
  rw [h1, Nat.one_mul, Nat.mod_eq_of_lt (hV.1 c)]
theorem la_S.H {q n : Nat} (hq : 0 < q) {pv : Nat → Bool} {M : Nat → la_W} (hR : la_R q n pv M) (v : la_W) : la_S q pv M v ↔ la_H q n pv M v := by
  constructor
  · intro h
    exact h _ (la_H.sub hq pv M) (fun w hw => by obtain ⟨p, hp, rfl⟩ := hw; exact la_H.row hR hp)
  · intro h
    have key : ∀ k, k ≤ n → la_S q pv M (fun c => fb_sm (fun p => if pv p = true then v p * M p c else 0) k % q) := by
      intro k
      induction k with
      | zero =>
        intro _
        have e : (fun c => fb_sm (fun p => if pv p = true then v p * M p c else 0) 0 % q) = la_z := by funext c; simp [fb_sm, la_z]
        rw [e]; exact la_Sp.zero
      | succ k ih =>
        intro hk
        by_cases hp : pv k = true
        · have e : (fun c => fb_sm (fun p => if pv p = true then v p * M p c else 0) (k + 1) % q) = la_ad q (fun c => fb_sm (fun p => if pv p = true then v p * M p c else 0) k % q) (M k) (v k) := by
            funext c
            simp only [fb_sm_succ, if_pos hp, la_ad, Nat.mod_add_mod]
          rw [e]
          exact (ih (by omega)).ad (la_Sp.gen ⟨k, hp, rfl⟩) (v k)
        · have e : (fun c => fb_sm (fun p => if pv p = true then v p * M p c else 0) (k + 1) % q) = (fun c => fb_sm (fun p => if pv p = true then v p * M p c else 0) k % q) := by
            funext c
            simp only [fb_sm_succ, if_neg hp, Nat.add_zero]
          rw [e]
          exact ih (by omega)
    have e : v = (fun c => fb_sm (fun p => if pv p = true then v p * M p c else 0) n % q) := by
      funext c
      by_cases hc : c < n
      · exact h.2 c hc
      · rw [h.1.2 c (by omega), la_sm_zero (fun j hj => by
          by_cases hp : pv j = true
          · simp only [if_pos hp]; rw [(hR.2 j hp).1.2 c (by omega), Nat.mul_zero]
          · simp only [if_neg hp])]
        simp
    rw [e]
    exact key n (Nat.le_refl n)
theorem la_piv_le {q n : Nat} (hq : 1 < q) {pv1 pv2 : Nat → Bool} {M1 M2 : Nat → la_W} (h1 : la_R q n pv1 M1) (h2 : la_R q n pv2 M2) (h : ∀ v, la_S q pv1 M1 v → la_S q pv2 M2 v) {p : Nat} (hp : pv1 p = true) : pv2 p = true := by
  have hH := (la_S.H (by omega) h2 _).mp (h _ (la_Sp.gen ⟨p, hp, rfl⟩))
  obtain ⟨hV, h11, h10, h1d⟩ := h1.2 p hp
  have hpn := h1.1 p hp
  cases h2p : pv2 p with
  | true => rfl
  | false =>
    have e := hH.2 p hpn
    unfold la_cb at e
    rw [la_sm_zero (fun j hj => by
      by_cases hj2 : pv2 j = true
      · simp only [if_pos hj2]
        rcases Nat.lt_trichotomy j p with q1 | q1 | q1
        · rw [h10 j q1, Nat.zero_mul]
        · subst q1; rw [h2p] at hj2; cases hj2
        · rw [(h2.2 j hj2).2.2.1 p q1, Nat.mul_zero]
      · simp only [if_neg hj2])] at e
    rw [h11] at e
    simp at e
theorem la_uniq {q n : Nat} (hq : 1 < q) {pv1 pv2 : Nat → Bool} {M1 M2 : Nat → la_W} (h1 : la_R q n pv1 M1) (h2 : la_R q n pv2 M2) (h : ∀ v, la_S q pv1 M1 v ↔ la_S q pv2 M2 v) : pv1 = pv2 ∧ ∀ p, pv1 p = true → M1 p = M2 p := by
  have epv : pv1 = pv2 := by
    funext p
    cases e1 : pv1 p with
    | true => exact (la_piv_le hq h1 h2 (fun v => (h v).mp) e1).symm
    | false =>
      cases e2 : pv2 p with
      | false => rfl
      | true => rw [la_piv_le hq h2 h1 (fun v => (h v).mpr) e2] at e1; cases e1
  subst epv
  refine ⟨rfl, fun p hp => ?_⟩
  have hH := (la_S.H (by omega) h2 _).mp ((h _).mp (la_Sp.gen ⟨p, hp, rfl⟩))
  obtain ⟨hV, h11, h10, h1d⟩ := h1.2 p hp
  funext c
  by_cases hc : c < n
  · rw [hH.2 c hc]
    unfold la_cb
    rw [la_sm_one (p := p) (h1.1 p hp) (fun j hj hne => by
      by_cases h : pv1 j = true
      · simp only [if_pos h]; rw [h1d j h hne, Nat.zero_mul]
      · simp only [if_neg h])]
    simp only [if_pos hp]
    rw [h11, Nat.one_mul, Nat.mod_eq_of_lt ((h2.2 p hp).1.1 c)]
  · rw [hV.2 c (by omega), (h2.2 p hp).1.2 c (by omega)]
def la_up (G : la_W → Prop) (f : la_W) (v : la_W) : Prop := G v ∨ v = f
theorem la_up_ad {q n : Nat} {G : la_W → Prop} {f w : la_W} (hf : ∀ c, f c < q) (hw : la_Sp q G w) {k : Nat} (hk : k ≤ q) (v : la_W) : la_Sp q (la_up G (la_ad q f w k)) v ↔ la_Sp q (la_up G f) v := by
  have hG : ∀ (g x : la_W), la_Sp q G x → la_Sp q (la_up G g) x := fun g x hx => hx.le (fun y hy => la_Sp.gen (Or.inl hy))
  refine la_Sp.iff (fun x hx => ?_) (fun x hx => ?_) v
  · rcases hx with hx | rfl
    · exact la_Sp.gen (Or.inl hx)
    · exact (la_Sp.gen (Or.inr rfl)).ad (hG _ _ hw) k
  · rcases hx with hx | rfl
    · exact la_Sp.gen (Or.inl hx)
    · have := (la_Sp.gen (q := q) (G := la_up G (la_ad q x w k)) (Or.inr rfl)).ad (hG _ _ hw) (q - k)
      rwa [la_ad_back' hf hk] at this
theorem la_up_z {q : Nat} {G : la_W → Prop} (v : la_W) : la_Sp q (la_up G la_z) v ↔ la_Sp q G v :=
  la_Sp.iff (fun x hx => hx.elim la_Sp.gen (fun e => e ▸ la_Sp.zero)) (fun x hx => la_Sp.gen (Or.inl hx)) v
def la_jp (pv : Nat → Bool) (a : Nat) : Nat → Bool := fun p => if p = a then true else pv p
def la_jM (q : Nat) (M : Nat → la_W) (N : la_W) (a : Nat) : Nat → la_W := fun p => if p = a then N else if p < a then la_ad q (M p) N (q - M p a) else M p
theorem la_join_R {q n : Nat} (hq : 1 < q) {pv : Nat → Bool} {M : Nat → la_W} (hR : la_R q n pv M) {N : la_W} {a : Nat} (ha : a < n) (hN : la_V q n N) (hNa : N a = 1) (hN0 : ∀ c, c < a → N c = 0) (hNp : ∀ p, pv p = true → N p = 0) : la_R q n (la_jp pv a) (la_jM q M N a) := by
  have hpa : pv a = true → False := fun h => by rw [hNp a h] at hNa; cases hNa
  refine ⟨fun p hp => ?_, fun p hp => ?_⟩
  · unfold la_jp at hp
    by_cases e : p = a
    · omega
    · rw [if_neg e] at hp; exact hR.1 p hp
  · by_cases e : p = a
    · subst e
      simp only [la_jM, if_true]
      refine ⟨hN, hNa, hN0, fun p' hp' hne => ?_⟩
      unfold la_jp at hp'
      rw [if_neg hne] at hp'
      exact hNp p' hp'
    · have hp0 : pv p = true := by unfold la_jp at hp; rwa [if_neg e] at hp
      obtain ⟨hV, h1, h0, hd⟩ := hR.2 p hp0
      by_cases l : p < a
      · simp only [la_jM, if_neg e, if_pos l]
        refine ⟨hV.ad (by omega) hN _, ?_, fun c hc => ?_, fun p' hp' hne => ?_⟩
        · simp only [la_ad, h1, hNp p hp0, Nat.mul_zero]; exact Nat.mod_eq_of_lt hq
        · simp only [la_ad, h0 c hc, hN0 c (by omega), Nat.mul_zero]; rfl
        · simp only [la_ad]
          by_cases e' : p' = a
          · subst e'
            rw [hNa, Nat.mul_one, Nat.add_sub_cancel' (Nat.le_of_lt (hV.1 p')), Nat.mod_self]
          · unfold la_jp at hp'
            rw [if_neg e'] at hp'
            rw [hd p' hp' hne, hNp p' hp', Nat.mul_zero]; rfl
      · simp only [la_jM, if_neg e, if_neg l]
        refine ⟨hV, h1, h0, fun p' hp' hne => ?_⟩
        by_cases e' : p' = a
        · subst e'; exact h0 p' (by omega)
        · unfold la_jp at hp'
          rw [if_neg e'] at hp'
          exact hd p' hp' hne
theorem la_join_S {q n : Nat} (hq : 1 < q) {pv : Nat → Bool} {M : Nat → la_W} (hR : la_R q n pv M) {N : la_W} {a : Nat} (hNa : N a = 1) (hNp : ∀ p, pv p = true → N p = 0) (v : la_W) : la_S q (la_jp pv a) (la_jM q M N a) v ↔ la_Sp q (la_up (la_G pv M) N) v := by
  have hpa : pv a = true → False := fun h => by rw [hNp a h] at hNa; cases hNa
  have hN : la_S q (la_jp pv a) (la_jM q M N a) N := la_Sp.gen ⟨a, by simp [la_jp], by simp [la_jM]⟩
  refine la_Sp.iff (fun x hx => ?_) (fun x hx => ?_) v
  · obtain ⟨p, hp, rfl⟩ := hx
    by_cases e : p = a
    · simp only [la_jM, if_pos e]; exact la_Sp.gen (Or.inr rfl)
    · have hp0 : pv p = true := by unfold la_jp at hp; rwa [if_neg e] at hp
      have hM : la_Sp q (la_up (la_G pv M) N) (M p) := la_Sp.gen (Or.inl ⟨p, hp0, rfl⟩)
      by_cases l : p < a
      · simp only [la_jM, if_neg e, if_pos l]
        exact hM.ad (la_Sp.gen (Or.inr rfl)) _
      · simp only [la_jM, if_neg e, if_neg l]; exact hM
  · rcases hx with ⟨p, hp, rfl⟩ | rfl
    · have e : p ≠ a := fun e => hpa (e ▸ hp)
      have hg : la_S q (la_jp pv a) (la_jM q M N a) (la_jM q M N a p) := la_Sp.gen ⟨p, by simp [la_jp, e, hp], rfl⟩
      by_cases l : p < a
      · simp only [la_jM, if_neg e, if_pos l] at hg
        have hb := la_Sp.ad hg hN (M p a)
        rwa [la_ad_back (hR.2 p hp).1.1 (Nat.le_of_lt ((hR.2 p hp).1.1 a))] at hb
      · simp only [la_jM, if_neg e, if_neg l] at hg; exact hg
    · exact hN
theorem la_up_sc {q : Nat} {G : la_W → Prop} {f : la_W} (hf : ∀ c, f c < q) {k j : Nat} (hk : (j * k) % q = 1) (v : la_W) : la_Sp q (la_up G (la_sc q f k)) v ↔ la_Sp q (la_up G f) v := by
  refine la_Sp.iff (fun x hx => ?_) (fun x hx => ?_) v
  · rcases hx with hx | rfl
    · exact la_Sp.gen (Or.inl hx)
    · exact (la_Sp.gen (Or.inr rfl)).sc k
  · rcases hx with hx | rfl
    · exact la_Sp.gen (Or.inl hx)
    · have := (la_Sp.gen (q := q) (G := la_up G (la_sc q x k)) (Or.inr rfl)).sc j
      rwa [la_sc_sc, la_sc_1 hf hk] at this
