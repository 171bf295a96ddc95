theorem mq1 (q x y k a b t : Nat) : ((x + k * y) % q + ((a + k * b) % q) * t) % q = ((x + a * t) % q + k * ((y + b * t) % q)) % q := by
  rw [Nat.mod_add_mod, Nat.add_mod (x + k * y), Nat.mod_mul_mod, ← Nat.add_mod, Nat.mod_add_mod, Nat.add_mod (x + a * t), Nat.mul_mod_mod, ← Nat.add_mod]
  congr 1
  rw [Nat.add_mul, Nat.mul_add, Nat.mul_assoc]
  omega
theorem mq2 (q x y k p r s : Nat) : ((x + k * y) % q + s * ((p + k * r) % q)) % q = ((x + s * p) % q + k * ((y + s * r) % q)) % q := by
  rw [Nat.mod_add_mod, Nat.add_mod (x + k * y), Nat.mul_mod_mod, ← Nat.add_mod, Nat.mod_add_mod, Nat.add_mod (x + s * p), Nat.mul_mod_mod, ← Nat.add_mod]
  congr 1
  rw [Nat.mul_add, Nat.mul_add, Nat.mul_left_comm s k r]
  omega
theorem la_ex (q : Nat) (X Y P Q : la_W) (k s : Nat) : la_ad q (la_ad q X Y k) (la_ad q P Q k) s = la_ad q (la_ad q X P s) (la_ad q Y Q s) k := by
  funext c
  exact mq2 q (X c) (Y c) k (P c) (Q c) s
theorem la_ad_zz (q k : Nat) : la_ad q la_z la_z k = la_z := by funext c; simp [la_ad, la_z]
theorem la_ap_ad (q : Nat) (T : Nat → la_W) (v w : la_W) (k : Nat) : ∀ m, la_ap q T (la_ad q v w k) m = la_ad q (la_ap q T v m) (la_ap q T w m) k := by
  intro m
  induction m with
  | zero => exact (la_ad_zz q k).symm
  | succ m ih =>
    show la_ad q (la_ap q T (la_ad q v w k) m) (T m) ((v m + k * w m) % q) = la_ad q (la_ad q (la_ap q T v m) (T m) (v m)) (la_ad q (la_ap q T w m) (T m) (w m)) k
    rw [ih]
    funext c
    exact mq1 q _ _ k _ _ _
theorem la_ap_z (q : Nat) (T : Nat → la_W) : ∀ m, la_ap q T la_z m = la_z := by
  intro m
  induction m with
  | zero => rfl
  | succ m ih =>
    show la_ad q (la_ap q T la_z m) (T m) 0 = la_z
    rw [ih]; funext c; simp [la_ad, la_z]
theorem la_ap_lt {q : Nat} (hq : 0 < q) (T : Nat → la_W) (v : la_W) : ∀ m c, la_ap q T v m c < q := by
  intro m
  cases m with
  | zero => intro c; exact hq
  | succ m => intro c; exact Nat.mod_lt _ hq
theorem la_ap_cong {q : Nat} {T : Nat → la_W} {v w : la_W} : ∀ m, (∀ j, j < m → v j = w j) → la_ap q T v m = la_ap q T w m := by
  intro m
  induction m with
  | zero => intro _; rfl
  | succ m ih =>
    intro h
    show la_ad q (la_ap q T v m) (T m) (v m) = la_ad q (la_ap q T w m) (T m) (w m)
    rw [ih (fun j hj => h j (by omega)), h m (by omega)]
theorem la_ap_mod {q : Nat} {T : Nat → la_W} {v : la_W} : ∀ m, la_ap q T (fun j => v j % q) m = la_ap q T v m := by
  intro m
  induction m with
  | zero => rfl
  | succ m ih =>
    show la_ad q (la_ap q T (fun j => v j % q) m) (T m) (v m % q) = la_ad q (la_ap q T v m) (T m) (v m)
    rw [ih]
    funext c
    show (_ + v m % q * T m c) % q = (_ + v m * T m c) % q
    rw [Nat.add_mod, Nat.mod_mul_mod, ← Nat.add_mod]
def la_un1 (j : Nat) : la_W := fun i => if i = j then 1 else 0
theorem la_ap_un {q : Nat} (hq : 0 < q) {T : Nat → la_W} {j : Nat} (hT : ∀ c, T j c < q) : ∀ m, la_ap q T (la_un1 j) m = if j < m then T j else la_z := by
  intro m
  induction m with
  | zero => rfl
  | succ m ih =>
    show la_ad q (la_ap q T (la_un1 j) m) (T m) (la_un1 j m) = _
    rw [ih]
    unfold la_un1
    rcases Nat.lt_trichotomy j m with x | x | x
    · rw [if_pos x, if_neg (show ¬ m = j by omega), if_pos (show j < m + 1 by omega)]; exact la_ad_0 hT
    · subst x
      rw [if_neg (Nat.lt_irrefl _), if_pos rfl, if_pos (show j < j + 1 by omega)]
      funext c
      show (0 + 1 * T j c) % q = T j c
      rw [Nat.zero_add, Nat.one_mul, Nat.mod_eq_of_lt (hT c)]
    · rw [if_neg (show ¬ j < m by omega), if_neg (show ¬ m = j by omega), if_neg (show ¬ j < m + 1 by omega)]
      exact la_ad_0 (fun c => hq)
def la_it (q n : Nat) (T : Nat → la_W) : Nat → la_W → la_W
  | 0, v => v
  | j + 1, v => la_ap q T (la_it q n T j v) n
theorem la_it_V {q n : Nat} (hq : 0 < q) {T : Nat → la_W} (hT : ∀ p, p < n → la_V q n (T p)) {v : la_W} (hv : la_V q n v) : ∀ j, la_V q n (la_it q n T j v) := by
  intro j
  induction j with
  | zero => exact hv
  | succ j ih => exact la_ap_V hq hT _ n (Nat.le_refl n)
theorem la_it_ad {q n : Nat} {T : Nat → la_W} (v w : la_W) (k : Nat) : ∀ j, la_it q n T j (la_ad q v w k) = la_ad q (la_it q n T j v) (la_it q n T j w) k := by
  intro j
  induction j with
  | zero => rfl
  | succ j ih => show la_ap q T (la_it q n T j (la_ad q v w k)) n = _; rw [ih, la_ap_ad]; rfl
theorem la_it_z {q n : Nat} {T : Nat → la_W} : ∀ j, la_it q n T j la_z = la_z := by
  intro j
  induction j with
  | zero => rfl
  | succ j ih => show la_ap q T (la_it q n T j la_z) n = _; rw [ih, la_ap_z]
theorem la_it_add {q n : Nat} {T : Nat → la_W} (i : Nat) (v : la_W) : ∀ j, la_it q n T (j + i) v = la_it q n T j (la_it q n T i v) := by
  intro j
  induction j with
  | zero => rw [Nat.zero_add]; rfl
  | succ j ih => rw [Nat.add_right_comm]; show la_ap q T (la_it q n T (j + i) v) n = _; rw [ih]; rfl
theorem la_it_s {q n : Nat} {T : Nat → la_W} (v : la_W) (j : Nat) : la_it q n T j (la_ap q T v n) = la_it q n T (j + 1) v := (la_it_add (q := q) (n := n) (T := T) 1 v j).symm
def la_ln (q n : Nat) (T : Nat → la_W) (c : la_W) (d : Nat) (v : la_W) : la_W := la_ap q (fun j => la_it q n T j v) c d
theorem la_ln_A {q n : Nat} {T : Nat → la_W} (c v : la_W) : ∀ d, la_ap q T (la_ln q n T c d v) n = la_ln q n T c d (la_ap q T v n) := by
  intro d
  induction d with
  | zero => exact la_ap_z q T n
  | succ d ih =>
    show la_ap q T (la_ad q (la_ln q n T c d v) (la_it q n T d v) (c d)) n = la_ad q (la_ln q n T c d (la_ap q T v n)) (la_it q n T d (la_ap q T v n)) (c d)
    rw [la_ap_ad, ih, la_it_s]; rfl
theorem la_ln_it {q n : Nat} {T : Nat → la_W} (c v : la_W) (d : Nat) : ∀ j, la_it q n T j (la_ln q n T c d v) = la_ln q n T c d (la_it q n T j v) := by
  intro j
  induction j with
  | zero => rfl
  | succ j ih => show la_ap q T (la_it q n T j (la_ln q n T c d v)) n = _; rw [ih, la_ln_A]; rfl
theorem la_ln_ad {q n : Nat} {T : Nat → la_W} (c v w : la_W) (k : Nat) : ∀ d, la_ln q n T c d (la_ad q v w k) = la_ad q (la_ln q n T c d v) (la_ln q n T c d w) k := by
  intro d
  induction d with
  | zero => exact (la_ad_zz q k).symm
  | succ d ih =>
    show la_ad q (la_ln q n T c d (la_ad q v w k)) (la_it q n T d (la_ad q v w k)) (c d) = la_ad q (la_ad q (la_ln q n T c d v) (la_it q n T d v) (c d)) (la_ad q (la_ln q n T c d w) (la_it q n T d w) (c d)) k
    rw [ih, la_it_ad, la_ex]
theorem la_ln_V {q n : Nat} (hq : 0 < q) {T : Nat → la_W} (hT : ∀ p, p < n → la_V q n (T p)) (c : la_W) {v : la_W} (hv : la_V q n v) : ∀ d, la_V q n (la_ln q n T c d v) := by
  intro d
  induction d with
  | zero => exact la_V.z hq
  | succ d ih => exact ih.ad hq (la_it_V hq hT hv d) _
def Pol (q n : Nat) (T : Nat → la_W) (m : Nat) (f : la_W → la_W) : Prop := ∃ c : la_W, ∀ u, f u = la_ln q n T c m u
theorem Pol.ad {q n : Nat} {T : Nat → la_W} {m : Nat} {f g : la_W → la_W} (hf : Pol q n T m f) (hg : Pol q n T m g) (k : Nat) : Pol q n T m (fun u => la_ad q (f u) (g u) k) := by
  obtain ⟨c, hc⟩ := hf
  obtain ⟨c', hc'⟩ := hg
  refine ⟨la_ad q c c' k, fun u => ?_⟩
  dsimp only
  rw [hc u, hc' u]
  exact (la_ap_ad q _ c c' k m).symm
theorem la_ln_sh {q n : Nat} {T : Nat → la_W} (c u : la_W) : ∀ m, la_ap q T (la_ln q n T c m u) n = la_ln q n T (fun j => if j = 0 then 0 else c (j - 1)) (m + 1) u := by
  intro m
  induction m with
  | zero =>
    show la_ap q T la_z n = la_ad q la_z (la_it q n T 0 u) 0
    rw [la_ap_z]; funext c; simp [la_ad, la_z]
  | succ m ih =>
    show la_ap q T (la_ad q (la_ln q n T c m u) (la_it q n T m u) (c m)) n = la_ad q (la_ln q n T (fun j => if j = 0 then 0 else c (j - 1)) (m + 1) u) (la_it q n T (m + 1) u) (if m + 1 = 0 then 0 else c (m + 1 - 1))
    rw [la_ap_ad, ih, if_neg (by omega), Nat.add_sub_cancel]; rfl
theorem Pol.A {q n : Nat} {T : Nat → la_W} {m : Nat} {f : la_W → la_W} (hf : Pol q n T m f) : Pol q n T (m + 1) (fun u => la_ap q T (f u) n) := by
  obtain ⟨c, hc⟩ := hf
  exact ⟨_, fun u => by dsimp only; rw [hc u]; exact la_ln_sh c u m⟩
theorem Pol.it {q n : Nat} {T : Nat → la_W} {m : Nat} {f : la_W → la_W} (hf : Pol q n T m f) : ∀ j, Pol q n T (m + j) (fun u => la_it q n T j (f u)) := by
  intro j
  induction j with
  | zero => exact hf
  | succ j ih => exact ih.A
theorem Pol.mono {q n : Nat} (hq : 0 < q) {T : Nat → la_W} {m : Nat} {f : la_W → la_W} (hf : Pol q n T m f) : ∀ e, Pol q n T (m + e) f := by
  intro e
  induction e with
  | zero => exact hf
  | succ e ih =>
    obtain ⟨c, hc⟩ := ih
    refine ⟨fun j => if j < m + e then c j else 0, fun u => ?_⟩
    show f u = la_ad q (la_ln q n T (fun j => if j < m + e then c j else 0) (m + e) u) (la_it q n T (m + e) u) (if m + e < m + e then c (m + e) else 0)
    rw [if_neg (Nat.lt_irrefl _), la_ad_0 (v := la_ln q n T (fun j => if j < m + e then c j else 0) (m + e) u) (fun x => la_ap_lt hq _ _ _ x), hc u]
    exact la_ap_cong _ (fun j hj => by rw [if_pos hj])
theorem Pol.ln {q n : Nat} (hq : 0 < q) {T : Nat → la_W} {e : Nat} {f : la_W → la_W} (hf : Pol q n T e f) (c : la_W) : ∀ d, Pol q n T (e + d) (fun u => la_ln q n T c d (f u)) := by
  intro d
  induction d with
  | zero => exact ⟨la_z, fun u => (la_ap_z q _ _).symm⟩
  | succ d ih => exact (ih.mono hq 1).ad ((hf.it d).mono hq 1) (c d)
theorem la_ext {q n : Nat} (hq : la_q q n) {pv : Nat → Bool} {M : Nat → la_W} (hR : la_R q n pv M) {u : la_W} (hu : la_V q n u) (hno : ¬ la_S q pv M u) : ∃ pv' M', la_R q n pv' M' ∧ (∀ x, la_S q pv' M' x ↔ la_Sp q (la_up (la_G pv M) u) x) ∧ fb_ct pv' n = fb_ct pv n + 1 := by
  have hq0 := hq.pos
  have hcb : la_S q pv M (fun c => la_cb q n pv M u c) := by
    refine (la_S.H hq0 hR _).mpr ⟨⟨fun c => Nat.mod_lt _ hq0, fun c hc => ?_⟩, fun c hc => ?_⟩
    · show la_cb q n pv M u c = 0
      unfold la_cb
      rw [la_sm_zero (fun j hj => by
        by_cases h : pv j = true
        · simp only [if_pos h]; rw [(hR.2 j h).1.2 c hc, Nat.mul_zero]
        · simp only [if_neg h]), Nat.zero_mod]
    · show la_cb q n pv M u c = la_cb q n pv M (fun c => la_cb q n pv M u c) c
      conv => rhs; unfold la_cb
      unfold la_cb
      congr 1
      refine fb_sm_cong (fun p hp => ?_)
      by_cases h : pv p = true
      · simp only [if_pos h]
        have := la_cb_piv hR h (hu.1 p)
        unfold la_cb at this
        rw [this]
      · simp only [if_neg h]
  generalize hw : (fun c => la_cb q n pv M u c) = w at hcb
  have hwp : ∀ p, pv p = true → w p = u p := fun p hp => by rw [← hw]; exact la_cb_piv hR hp (hu.1 p)
  have hV' : la_V q n (la_ad q u w (q - 1)) := hu.ad hq0 (hcb.V hq0 (fun y hy => by obtain ⟨p, hp, rfl⟩ := hy; exact (hR.2 p hp).1)) _
  have hx : ∃ a, a < n ∧ la_ad q u w (q - 1) a ≠ 0 := by
    apply Classical.byContradiction
    intro hx
    apply hno
    refine (la_S.H hq0 hR _).mpr ⟨hu, fun c hc => ?_⟩
    have h0 : la_ad q u w (q - 1) c = 0 := by
      apply Classical.byContradiction
      intro h
      exact hx ⟨c, hc, h⟩
    have hb := congrFun (la_ad_back (q := q) (v := u) (w := w) hu.1 (show 1 ≤ q by omega)) c
    have e : la_ad q (la_ad q u w (q - 1)) w 1 c = (la_ad q u w (q - 1) c + 1 * w c) % q := rfl
    rw [e, h0, Nat.zero_add, Nat.one_mul] at hb
    rw [← hb, ← hw]
    exact Nat.mod_eq_of_lt (Nat.mod_lt _ hq0)
  obtain ⟨a, ha, hna, hfst⟩ := fb_first hx
  obtain ⟨b, hb1, hb2, hb3, _⟩ := la_by_ex hq (Nat.pos_of_ne_zero hna) (hV'.1 a)
  have hNp : ∀ p, pv p = true → la_sc q (la_ad q u w (q - 1)) b p = 0 := fun p hp => by
    rw [la_sc_at]
    have : la_ad q u w (q - 1) p = 0 := by
      show (u p + (q - 1) * w p) % q = 0
      rw [hwp p hp, show u p + (q - 1) * u p = q * u p by
        obtain ⟨q', rfl⟩ : ∃ q', q = q' + 1 := ⟨q - 1, by omega⟩
        rw [Nat.add_sub_cancel, Nat.add_mul, Nat.one_mul, Nat.add_comm], Nat.mul_mod_right]
    rw [this, Nat.mul_zero, Nat.zero_mod]
  have hNa : la_sc q (la_ad q u w (q - 1)) b a = 1 := by rw [la_sc_at]; exact hb3
  have hpa : ¬ pv a = true := fun h => by rw [hNp a h] at hNa; cases hNa
  refine ⟨_, _, la_join_R hq.two hR ha (hV'.sc hq0 b) hNa (fun c hc => ?_) hNp, fun x => ?_, la_ct_jp ha hpa⟩
  · rw [la_sc_at]
    have : la_ad q u w (q - 1) c = 0 := by
      apply Classical.byContradiction
      intro h
      exact hfst c hc h
    rw [this, Nat.mul_zero, Nat.zero_mod]
  · rw [la_join_S hq.two hR hNa hNp, la_up_sc hV'.1 (j := la_ad q u w (q - 1) a) (by rw [Nat.mul_comm]; exact hb3)]
    exact la_up_ad (n := n) hu.1 hcb (by omega) x
