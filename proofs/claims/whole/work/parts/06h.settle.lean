def la_hG (h : Nat → la_W) (m : Nat) (w : la_W) : Prop := ∃ i, i < m ∧ w = h i
def la_by (q f b : Nat) : Prop := 1 ≤ b ∧ b < q ∧ (b * f) % q = 1 ∧ ∀ j, 1 ≤ j → j < b → (j * f) % q ≠ 1
theorem la_by_ex {q n f : Nat} (h : la_q q n) (h0 : 0 < f) (hf : f < q) : ∃ b, la_by q f b := by
  have hq : q = 2 ∨ q = 3 ∨ q = 5 := by unfold la_q at h; omega
  have hx : ∃ i, i < q ∧ (i * f) % q = 1 := by
    refine ⟨f * f * f % q, Nat.mod_lt _ h.pos, ?_⟩
    rw [Nat.mul_comm]; exact la_inv h h0 hf
  obtain ⟨i, h1, h2, h3⟩ := fb_first hx
  refine ⟨i, ?_, h1, h2, fun j _ hj => h3 j hj⟩
  rcases Nat.eq_zero_or_pos i with e | e
  · rw [e, Nat.zero_mul, Nat.zero_mod] at h2; omega
  · exact e
theorem la_ct_jp_le {pv : Nat → Bool} {a : Nat} : ∀ {k : Nat}, k ≤ a → fb_ct (la_jp pv a) k = fb_ct pv k := fun {k} hk => fb_ct_cong (fun j hj => by unfold la_jp; rw [if_neg (by omega)])
theorem la_ct_jp {pv : Nat → Bool} {a n : Nat} (ha : a < n) (hpa : ¬ pv a = true) : fb_ct (la_jp pv a) n = fb_ct pv n + 1 := by
  have e : pv a = false := by cases h : pv a with
    | false => rfl
    | true => exact absurd h hpa
  have := fb_ct_upd pv true (i := a) (n := n) ha
  rw [e] at this
  have e2 : (fun k => if k = a then true else pv k) = la_jp pv a := rfl
  rw [e2] at this
  simpa using this
theorem la_ct_out {pv : Nat → Bool} {c : Nat} (h : ∀ p, pv p = true → p < c) : ∀ n, c ≤ n → fb_ct pv n = fb_ct pv c := by
  intro n hn
  obtain ⟨d, rfl⟩ : ∃ d, n = c + d := ⟨n - c, by omega⟩
  induction d with
  | zero => rfl
  | succ d ih =>
    show fb_ct pv (c + d + 1) = _
    rw [fb_ct_succ, ih (by omega)]
    have : ¬ pv (c + d) = true := fun hc => by have := h _ hc; omega
    rw [if_neg this]; rfl
def la_sw (h : Nat → la_W) (r at_ : Nat) : Nat → la_W := fun i => if i = at_ then h r else h i
def la_el (q : Nat) (h : Nat → la_W) (N : la_W) (r at_ col : Nat) : Nat → la_W := fun i => if i = r then N else la_ad q (la_sw h r at_ i) N (q - la_sw h r at_ i col)
def la_I (q n m : Nat) (h : Nat → la_W) (pv : Nat → Bool) (col : Nat) : Prop :=
  (∀ i, i < m → la_V q n (h i)) ∧ (∀ p, pv p = true → p < col) ∧ fb_ct pv n ≤ m ∧
  (∀ p, pv p = true → h (fb_ct pv p) p = 1 ∧ (∀ c, c < p → h (fb_ct pv p) c = 0) ∧ ∀ j, j < m → j ≠ fb_ct pv p → h j p = 0) ∧
  (∀ j, fb_ct pv n ≤ j → j < m → ∀ c, c < col → h j c = 0)
theorem la_I.none {q n m col : Nat} {h : Nat → la_W} {pv : Nat → Bool} (I : la_I q n m h pv col) (hz : ∀ j, fb_ct pv n ≤ j → j < m → h j col = 0) : la_I q n m h pv (col + 1) := by
  obtain ⟨a, b, c, d, e⟩ := I
  refine ⟨a, fun p hp => by have := b p hp; omega, c, d, fun j h1 h2 k hk => ?_⟩
  rcases Nat.lt_or_ge k col with x | x
  · exact e j h1 h2 k x
  · rw [show k = col by omega]; exact hz j h1 h2
theorem la_ct_lt {pv : Nat → Bool} {p n : Nat} (hp : pv p = true) (hpn : p < n) : fb_ct pv p < fb_ct pv n := by
  have h1 : fb_ct pv (p + 1) = fb_ct pv p + 1 := by rw [fb_ct_succ, if_pos hp]
  have h2 := fb_ct_mono pv (show p + 1 ≤ n by omega)
  omega
theorem la_I.step {q n m col at_ b : Nat} (hq : 1 < q) {h : Nat → la_W} {pv : Nat → Bool} (I : la_I q n m h pv col) (hcol : col < n) (h1 : fb_ct pv n ≤ at_) (h2 : at_ < m) (hb : (b * h at_ col) % q = 1) :
    la_I q n m (la_el q h (la_sc q (h at_) b) (fb_ct pv n) at_ col) (la_jp pv col) (col + 1) ∧ fb_ct (la_jp pv col) n = fb_ct pv n + 1 := by
  obtain ⟨hV, hpc, hcm, hP, hD⟩ := I
  have hq0 : 0 < q := by omega
  have hpcol : ¬ pv col = true := fun hc => by have := hpc _ hc; omega
  have hct := la_ct_jp hcol hpcol
  have ectcol : fb_ct (la_jp pv col) col = fb_ct pv n := by
    rw [la_ct_jp_le (Nat.le_refl _), la_ct_out hpc n (by omega)]
  generalize hr : fb_ct pv n = r at *
  have hNV : la_V q n (la_sc q (h at_) b) := (hV at_ h2).sc hq0 b
  have hN1 : la_sc q (h at_) b col = 1 := by rw [la_sc_at]; exact hb
  have hN0 : ∀ c, c < col → la_sc q (h at_) b c = 0 := fun c hc => by rw [la_sc_at, hD at_ h1 h2 c hc, Nat.mul_zero]; rfl
  generalize la_sc q (h at_) b = N at hNV hN1 hN0 ⊢
  have hswV : ∀ i, i < m → la_V q n (la_sw h r at_ i) := fun i hi => by
    unfold la_sw
    split
    · exact hV r (by omega)
    · exact hV i hi
  have hswp : ∀ p, pv p = true → ∀ j, j < m → j ≠ r → la_sw h r at_ j p = h j p := fun p hp j hj hjr => by
    unfold la_sw
    have hl := la_ct_lt hp (show p < n by have := hpc p hp; omega)
    rw [hr] at hl
    by_cases e : j = at_
    · rw [if_pos e, (hP p hp).2.2 r (by omega) (by omega), (hP p hp).2.2 j hj (by omega)]
    · rw [if_neg e]
  refine ⟨⟨fun i hi => ?_, fun p hp => ?_, by rw [hct]; omega, fun p hp => ?_, fun j hj1 hj2 c hc => ?_⟩, hct⟩
  · unfold la_el
    split
    · exact hNV
    · exact (hswV i hi).ad hq0 hNV _
  · unfold la_jp at hp
    by_cases e : p = col
    · omega
    · rw [if_neg e] at hp; have := hpc p hp; omega
  · by_cases e : p = col
    · subst e
      rw [ectcol]
      unfold la_el
      rw [if_pos rfl]
      refine ⟨hN1, hN0, fun j hj hne => ?_⟩
      rw [if_neg hne]
      simp only [la_ad]
      rw [hN1, Nat.mul_one, Nat.add_sub_cancel' (Nat.le_of_lt ((hswV j hj).1 p)), Nat.mod_self]
    · have hp0 : pv p = true := by unfold la_jp at hp; rwa [if_neg e] at hp
      have hpl := hpc p hp0
      have hl := la_ct_lt hp0 (show p < n by omega)
      rw [hr] at hl
      rw [la_ct_jp_le (show p ≤ col by omega)]
      obtain ⟨p1, p2, p3⟩ := hP p hp0
      have esw : la_sw h r at_ (fb_ct pv p) = h (fb_ct pv p) := by unfold la_sw; rw [if_neg (by omega)]
      refine ⟨?_, fun c hc => ?_, fun j hj hne => ?_⟩
      · unfold la_el
        rw [if_neg (by omega), esw]
        simp only [la_ad]
        rw [p1, hN0 p hpl, Nat.mul_zero, Nat.add_zero, Nat.mod_eq_of_lt hq]
      · unfold la_el
        rw [if_neg (by omega), esw]
        simp only [la_ad]
        rw [p2 c hc, hN0 c (by omega), Nat.mul_zero, Nat.add_zero, Nat.zero_mod]
      · unfold la_el
        by_cases ej : j = r
        · rw [if_pos ej]; exact hN0 p hpl
        · rw [if_neg ej]
          simp only [la_ad]
          rw [hswp p hp0 j hj ej, p3 j hj hne, hN0 p hpl, Nat.mul_zero, Nat.add_zero, Nat.zero_mod]
  · rw [hct] at hj1
    unfold la_el
    rw [if_neg (by omega)]
    simp only [la_ad]
    rcases Nat.lt_or_ge c col with x | x
    · have e0 : la_sw h r at_ j c = 0 := by
        unfold la_sw
        split
        · exact hD r (by omega) (by omega) c x
        · exact hD j (by omega) hj2 c x
      rw [e0, hN0 c x, Nat.mul_zero, Nat.add_zero, Nat.zero_mod]
    · rw [show c = col by omega, hN1, Nat.mul_one, Nat.add_sub_cancel' (Nat.le_of_lt ((hswV j hj2).1 col)), Nat.mod_self]
theorem la_el_Sp {q n m r at_ col b : Nat} (hq : 1 < q) {h : Nat → la_W} (hV : ∀ i, i < m → la_V q n (h i)) (hr : r < m) (h2 : at_ < m) (hb : (b * h at_ col) % q = 1) (v : la_W) :
    la_Sp q (la_hG (la_el q h (la_sc q (h at_) b) r at_ col) m) v ↔ la_Sp q (la_hG h m) v := by
  have hq0 : 0 < q := by omega
  have hswV : ∀ i, i < m → la_V q n (la_sw h r at_ i) := fun i hi => by
    unfold la_sw
    split
    · exact hV r hr
    · exact hV i hi
  have hatV := hV at_ h2
  refine la_Sp.iff (fun x hx => ?_) (fun x hx => ?_) v
  · obtain ⟨i, hi, rfl⟩ := hx
    have hN : la_Sp q (la_hG h m) (la_sc q (h at_) b) := (la_Sp.gen ⟨at_, h2, rfl⟩).sc b
    unfold la_el
    split
    · exact hN
    · have hsw : la_Sp q (la_hG h m) (la_sw h r at_ i) := by
        unfold la_sw
        split
        · exact la_Sp.gen ⟨r, hr, rfl⟩
        · exact la_Sp.gen ⟨i, hi, rfl⟩
      exact hsw.ad hN _
  · obtain ⟨j, hj, rfl⟩ := hx
    have hN : la_Sp q (la_hG (la_el q h (la_sc q (h at_) b) r at_ col) m) (la_sc q (h at_) b) := la_Sp.gen ⟨r, hr, by unfold la_el; rw [if_pos rfl]⟩
    have hsw : ∀ i, i < m → i ≠ r → la_Sp q (la_hG (la_el q h (la_sc q (h at_) b) r at_ col) m) (la_sw h r at_ i) := fun i hi hne => by
      have hg : la_Sp q (la_hG (la_el q h (la_sc q (h at_) b) r at_ col) m) (la_ad q (la_sw h r at_ i) (la_sc q (h at_) b) (q - la_sw h r at_ i col)) := la_Sp.gen ⟨i, hi, by unfold la_el; rw [if_neg hne]⟩
      have hx := hg.ad hN (la_sw h r at_ i col)
      rwa [la_ad_back (hswV i hi).1 (Nat.le_of_lt ((hswV i hi).1 col))] at hx
    by_cases e : j = at_
    · subst e
      have hx := hN.sc (h j col)
      rw [la_sc_sc, la_sc_1 (k := h j col * b) hatV.1 (by rw [Nat.mul_comm]; exact hb)] at hx
      exact hx
    · by_cases e2 : j = r
      · subst e2
        have hx := hsw at_ h2 (Ne.symm e)
        unfold la_sw at hx
        rwa [if_pos rfl] at hx
      · have hx := hsw j hj e2
        unfold la_sw at hx
        rwa [if_neg e] at hx
theorem la_I.done {q n m : Nat} (hq : 1 < q) {h : Nat → la_W} {pv : Nat → Bool} (I : la_I q n m h pv n) : la_R q n pv (fun p => h (fb_ct pv p)) ∧ ∀ v, la_S q pv (fun p => h (fb_ct pv p)) v ↔ la_Sp q (la_hG h m) v := by
  obtain ⟨hV, hpc, hcm, hP, hD⟩ := I
  have hlt : ∀ p, pv p = true → fb_ct pv p < m := fun p hp => by have := la_ct_lt hp (hpc p hp); omega
  refine ⟨⟨hpc, fun p hp => ⟨hV _ (hlt p hp), (hP p hp).1, (hP p hp).2.1, fun p' hp' hne => ?_⟩⟩, fun v => la_Sp.iff (fun x hx => ?_) (fun x hx => ?_) v⟩
  · exact (hP p' hp').2.2 _ (hlt p hp) (fun e => hne (fb_ct_kth_one hp' hp e.symm))
  · obtain ⟨p, hp, rfl⟩ := hx
    exact la_Sp.gen ⟨_, hlt p hp, rfl⟩
  · obtain ⟨i, hi, rfl⟩ := hx
    rcases Nat.lt_or_ge i (fb_ct pv n) with c | c
    · obtain ⟨p, hpn, hp, hpe⟩ := fb_ct_kth c
      exact la_Sp.gen ⟨p, hp, by dsimp only; rw [hpe]⟩
    · have e : h i = la_z := by
        funext k
        rcases Nat.lt_or_ge k n with y | y
        · exact hD i c hi k y
        · exact (hV i hi).2 k y
      rw [e]; exact la_Sp.zero
def OthM (τ τ' : ss_S) : Prop := (∀ i, i ≠ 0 → i ≠ 2 → τ' i = τ i) ∧ ∀ j, j ≠ 7 → τ' 0 j = τ 0 j
theorem pX5_settle {τ : ss_S} {q n : Nat} (hF : FrM τ q n) {m : Nat} (hm : m ≤ 24) (hw0 : τ 0 7 = nI m) {g : Nat → la_W} (hg : ∀ i, i < m → la_V q n (g i)) (hgτ : ∀ i, i < m → τ 2 i = nI (la_val q (g i) n)) {post : ss_S → Prop}
    (hp : ∀ (τ' : ss_S) (pv : Nat → Bool) (M : Nat → la_W), OthM τ τ' → la_R q n pv M → (∀ v, la_S q pv M v ↔ la_Sp q (la_hG g m) v) → fb_ct pv n ≤ m → τ' 0 7 = nI (fb_ct pv n) → (∀ p, pv p = true → τ' 2 (fb_ct pv p) = nI (la_val q (M p) n)) → post τ') : wX5_settle τ post := by
  have hq := hF.1
  have h6 := hq.n6
  have h5 := hq.five
  have hq0 := hq.pos
  have hpw := la_pow_le hq
  have hbv : ∀ v : la_W, la_V q n v → la_val q v n < 2 ^ 31 := fun v hv => by have := la_val_lt (n := n) (fun c _ => hv.1 c); omega
  have key : ∀ d col, col + d = n → ∀ (w : Nat → Int32) (h : Nat → la_W) (pv : Nat → Bool), la_I q n m h pv col → (∀ i, i < m → w i = nI (la_val q (h i) n)) → (∀ v, la_Sp q (la_hG h m) v ↔ la_Sp q (la_hG g m) v) → lX5_settle_4 post (fun x1_14 _ σ_14 => post (u2 σ_14 0 7 x1_14)) (d + 1) (nI (fb_ct pv n)) (nI col) (sA τ 2 w) := by
    intro d
    induction d with
    | zero =>
      intro col hcol w h pv I hwh hsp
      have e : col = n := by omega
      subst e
      refine And.intro (fun _ => ?_) (fun hc => absurd (by rw [sA_ne _ _ (by omega), hF.2.2.1]; exact nI_le (Nat.le_refl _) (by omega)) hc)
      obtain ⟨hR, hS⟩ := I.done hq.two
      refine hp _ pv _ ⟨fun i a b => by rw [u2_ne _ _ _ a, sA_ne _ _ b], fun j hj => by rw [u2_at, pk_un hj, sA_ne _ _ (by omega)]⟩ hR (fun v => (hS v).trans (hsp v)) I.2.2.1 (by rw [u2_at, pk_us]) (fun p hpp => ?_)
      rw [u2_ne _ _ _ (by omega), sA_same]
      exact hwh _ (by have := la_ct_lt hpp (hR.1 p hpp); have := I.2.2.1; omega)
    | succ d ih =>
      intro col hcol w h pv I hwh hsp
      have hF1 : FrM (sA τ 2 w) q n := hF.sA (by omega) w
      have hw1 : sA τ 2 w 0 7 = nI m := by rw [sA_ne _ _ (by omega)]; exact hw0
      have hrm := I.2.2.1
      refine And.intro (fun hc => absurd hc (by rw [hF1.2.2.1]; exact nI_ge (by omega) (by omega))) (fun _ => ?_)
      obtain ⟨at_, ha1, ha2, ha3, ha4⟩ : ∃ at_, fb_ct pv n ≤ at_ ∧ at_ ≤ m ∧ (∀ j, fb_ct pv n ≤ j → j < at_ → h j col = 0) ∧ (at_ < m → h at_ col ≠ 0) := by
        by_cases hex : ∃ i, i < m ∧ (fb_ct pv n ≤ i ∧ h i col ≠ 0)
        · obtain ⟨i, hi, hne, hlt⟩ := fb_first hex
          exact ⟨i, hne.1, by omega, fun j h1 h2 => Classical.byContradiction fun hn => hlt j h2 ⟨h1, hn⟩, fun _ => hne.2⟩
        · exact ⟨m, hrm, Nat.le_refl m, fun j h1 h2 => Classical.byContradiction fun hn => hex ⟨j, h2, h1, hn⟩, fun hc => absurd hc (Nat.lt_irrefl m)⟩
      have find : ∀ (K : Int32 → ss_S → Prop), K (nI at_) (sA τ 2 w) → ∀ e j, j + e = at_ → fb_ct pv n ≤ j → lX5_settle_14 (nI (fb_ct pv n)) (nI col) post K (e + 1) (nI j) (sA τ 2 w) := by
        intro K hK e
        induction e with
        | zero =>
          intro j hj hjr
          have ej : j = at_ := by omega
          subst ej
          refine And.intro (fun _ => hK) (fun hc => ?_)
          rw [hw1] at hc
          have hlt : j < m := by
            rcases Nat.lt_or_ge j m with x | x
            · exact x
            · exact absurd (nI_le x (by omega)) hc
          refine And.intro (vp_in_nI (by omega) (by omega)) ?_
          rw [nI_clamp (by omega), sA_same, hwh j hlt]
          refine pX5_figure hF1 (hbv _ (I.1 j hlt)) (by omega) ?_
          rw [la_dig_val (I.1 j hlt)]
          have := ha4 hlt
          have := (I.1 j hlt).1 col
          exact And.intro (fun _ => hK) (fun hc => absurd hc (nI_ne0 (by omega) (by omega)))
        | succ e ihe =>
          intro j hj hjr
          refine And.intro (fun hc => absurd hc (by rw [hw1]; exact nI_ge (by omega) (by omega))) (fun _ => ?_)
          refine And.intro (vp_in_nI (by omega) (by omega)) ?_
          rw [nI_clamp (by omega), sA_same, hwh j (by omega)]
          refine pX5_figure hF1 (hbv _ (I.1 j (by omega))) (by omega) ?_
          rw [la_dig_val (I.1 j (by omega)), ha3 j hjr (by omega), nI_1]
          exact And.intro (fun hc => absurd rfl hc) (fun _ => ihe (j + 1) (by omega) (by omega))
      refine ⟨_, find _ ?_ (at_ - fb_ct pv n) (fb_ct pv n) (by omega) (Nat.le_refl _)⟩
      rw [hw1]
      refine And.intro (fun hc => ?_) (fun hc => ?_)
      · have hge : m ≤ at_ := by rw [nI_leI (by omega) (by omega)] at hc; exact hc
        rw [nI_1]
        exact ih (col + 1) (by omega) w h pv (I.none (fun j h1 h2 => ha3 j h1 (by omega))) hwh hsp
      · have hlt : at_ < m := by rw [nI_leI (by omega) (by omega)] at hc; omega
        have hne := ha4 hlt
        have haV := I.1 at_ hlt
        have haq := haV.1 col
        refine And.intro (vp_in_nI (by omega) (by omega)) (And.intro (vp_in_nI (by omega) (by omega)) (And.intro (vp_in_nI (by omega) (by omega)) ?_))
        rw [nI_clamp (show at_ < 2 ^ 31 by omega), nI_clamp (show fb_ct pv n < 2 ^ 31 by omega), sA_same, hwh at_ hlt, u2_sA, hwh (fb_ct pv n) (by omega)]
        obtain ⟨b, hb1, hb2, hb3, hb4⟩ := la_by_ex hq (show 0 < h at_ col by omega) haq
        obtain ⟨I', hct⟩ := I.step hq.two (show col < n by omega) ha1 hlt hb3
        have hsp' := fun v => (la_el_Sp (col := col) (b := b) hq.two I.1 (show fb_ct pv n < m by omega) hlt hb3 v).trans (hsp v)
        have hNV : la_V q n (la_sc q (h at_) b) := haV.sc hq0 b
        have hF2 : FrM (sA τ 2 (upd w at_ (nI (la_val q (h (fb_ct pv n)) n)))) q n := hF.sA (by omega) _
        have byl : ∀ (K : Int32 → ss_S → Prop), K (nI b) (sA τ 2 (upd w at_ (nI (la_val q (h (fb_ct pv n)) n)))) → ∀ e j, j + e = b → 1 ≤ j → lX5_settle_73 (nI (fb_ct pv n)) (nI col) (nI (la_val q (h at_) n)) post K (e + 1) (nI j) (sA τ 2 (upd w at_ (nI (la_val q (h (fb_ct pv n)) n)))) := by
          intro K hK e
          induction e with
          | zero =>
            intro j hj hj1
            have ej : j = b := by omega
            subst ej
            refine pX5_figure hF2 (hbv _ haV) (by omega) ?_
            have hmul : j * h at_ col ≤ 5 * 5 := Nat.mul_le_mul (by omega) (by omega)
            rw [la_dig_val haV, hF2.2.1, pk_mul, pk_rem (by omega) hq0 (by omega), hb3]
            exact ⟨nI_q0 hq0 (by omega), fun _ => hK, fun hc => absurd rfl hc⟩
          | succ e ihe =>
            intro j hj hj1
            refine pX5_figure hF2 (hbv _ haV) (by omega) ?_
            have hmul : j * h at_ col ≤ 5 * 5 := Nat.mul_le_mul (by omega) (by omega)
            rw [la_dig_val haV, hF2.2.1, pk_mul, pk_rem (by omega) hq0 (by omega), nI_1]
            have hmq : j * h at_ col % q < q := Nat.mod_lt _ hq0
            refine ⟨nI_q0 hq0 (by omega), fun hc => absurd hc ?_, fun _ => ihe (j + 1) (by omega) (by omega)⟩
            intro hx
            exact hb4 j hj1 (by omega) ((nI_eq (a := j * h at_ col % q) (b := 1) (by omega) (by omega)).mp hx)
        refine ⟨_, byl _ ?_ (b - 1) 1 (by omega) (Nat.le_refl _)⟩
        have esum : wX5_sum (nI (la_val q la_z n)) (nI (la_val q (h at_) n)) (nI b) (sA τ 2 (upd w at_ (nI (la_val q (h (fb_ct pv n)) n)))) (fun r8 σ7 => (vp_in (nI (fb_ct pv n)) 24 ∧ (∃ f_120, lX5_settle_120 (nI (fb_ct pv n)) (nI col) r8 post (fun x6_13 σ_13 => lX5_settle_4 post (fun x1_14 _ σ_14 => post (u2 σ_14 0 7 x1_14)) (d + 1) (nI (fb_ct pv n) + 1) (nI col + 1) σ_13) f_120 0 (u2 σ7 2 (fb_ct pv n) r8)))) := by
          refine pX5_sum hF2 (la_V.z hq0) haV (by omega) ?_
          refine And.intro (vp_in_nI (by omega) (by omega)) ?_
          rw [u2_sA]
          have elim : ∀ e j, j + e = m → ∀ w1 : Nat → Int32, (∀ i, i < m → w1 i = nI (la_val q (if i < j ∨ i = fb_ct pv n then la_el q h (la_sc q (h at_) b) (fb_ct pv n) at_ col i else la_sw h (fb_ct pv n) at_ i) n)) → lX5_settle_120 (nI (fb_ct pv n)) (nI col) (nI (la_val q (la_sc q (h at_) b) n)) post (fun x6_13 σ_13 => lX5_settle_4 post (fun x1_14 _ σ_14 => post (u2 σ_14 0 7 x1_14)) (d + 1) (nI (fb_ct pv n) + 1) (nI col + 1) σ_13) (e + 1) (nI j) (sA τ 2 w1) := by
            intro e
            induction e with
            | zero =>
              intro j hj w1 hw1'
              have hw2 : sA τ 2 w1 0 7 = nI m := by rw [sA_ne _ _ (by omega)]; exact hw0
              refine And.intro (fun _ => ?_) (fun hc => absurd (by rw [hw2]; exact nI_le (by omega) (by omega)) hc)
              rw [nI_1, nI_1, ← hct]
              refine ih (col + 1) (by omega) w1 _ _ I' (fun i hi => ?_) hsp'
              rw [hw1' i hi, if_pos (Or.inl (by omega))]
            | succ e ihe =>
              intro j hj w1 hw1'
              have hw2 : sA τ 2 w1 0 7 = nI m := by rw [sA_ne _ _ (by omega)]; exact hw0
              have hF3 : FrM (sA τ 2 w1) q n := hF.sA (by omega) w1
              refine And.intro (fun hc => absurd hc (by rw [hw2]; exact nI_ge (by omega) (by omega))) (fun _ => ?_)
              refine And.intro (vp_in_nI (by omega) (by omega)) ?_
              rw [nI_clamp (by omega), sA_same, hw1' j (by omega)]
              by_cases ejr : j = fb_ct pv n
              · rw [if_pos (Or.inr ejr)]
                refine pX5_figure hF3 (hbv _ (I'.1 j (by omega))) (by omega) ?_
                refine And.intro (fun _ => ?_) (fun hc => absurd (by rw [ejr]) hc)
                rw [nI_1 j]
                refine ihe (j + 1) (by omega) w1 (fun i hi => ?_)
                rw [hw1' i hi]
                by_cases c1 : i < j ∨ i = fb_ct pv n
                · rw [if_pos c1, if_pos (by omega)]
                · rw [if_neg c1, if_neg (by omega)]
              · rw [if_neg (by omega)]
                have hswV : la_V q n (la_sw h (fb_ct pv n) at_ j) := by
                  unfold la_sw
                  split
                  · exact I.1 _ (by omega)
                  · exact I.1 j (by omega)
                refine pX5_figure hF3 (hbv _ hswV) (by omega) ?_
                rw [la_dig_val hswV]
                have eel : la_el q h (la_sc q (h at_) b) (fb_ct pv n) at_ col j = la_ad q (la_sw h (fb_ct pv n) at_ j) (la_sc q (h at_) b) (q - la_sw h (fb_ct pv n) at_ j col) := by unfold la_el; rw [if_neg ejr]
                have hsq := hswV.1 col
                refine And.intro (fun hc => absurd ((nI_eq (by omega) (by omega)).mp hc) ejr) (fun _ => And.intro (fun hc => ?_) (fun hc => ?_))
                · have h0 : la_sw h (fb_ct pv n) at_ j col = 0 := by
                    rcases Nat.eq_zero_or_pos (la_sw h (fb_ct pv n) at_ j col) with x | x
                    · exact x
                    · exact absurd hc (nI_ne0 x (by omega))
                  rw [nI_1 j]
                  refine ihe (j + 1) (by omega) w1 (fun i hi => ?_)
                  by_cases c0 : i = j
                  · subst c0
                    rw [hw1' i hi, if_neg (by omega), if_pos (Or.inl (by omega)), eel, h0, Nat.sub_zero, la_ad_q hswV.1]
                  · rw [hw1' i hi]
                    by_cases c1 : i < j ∨ i = fb_ct pv n
                    · rw [if_pos c1, if_pos (by omega)]
                    · rw [if_neg c1, if_neg (by omega)]
                · refine And.intro (vp_in_nI (by omega) (by omega)) ?_
                  rw [hF3.2.1, pk_sub (by omega), sA_same, hw1' j (by omega), if_neg (by omega)]
                  refine pX5_sum hF3 hswV hNV (by omega) ?_
                  refine And.intro (vp_in_nI (by omega) (by omega)) ?_
                  rw [u2_sA, nI_1 j]
                  refine ihe (j + 1) (by omega) _ (fun i hi => ?_)
                  by_cases c0 : i = j
                  · subst c0
                    rw [pk_us, if_pos (Or.inl (by omega)), eel]
                  · rw [pk_un c0, hw1' i hi]
                    by_cases c1 : i < j ∨ i = fb_ct pv n
                    · rw [if_pos c1, if_pos (by omega)]
                    · rw [if_neg c1, if_neg (by omega)]
          refine ⟨m + 1, elim m 0 (by omega) _ (fun i hi => ?_)⟩
          by_cases c0 : i = fb_ct pv n
          · subst c0
            rw [pk_us, if_pos (Or.inr rfl)]
            unfold la_el
            rw [if_pos rfl]; rfl
          · rw [pk_un c0, if_neg (by omega)]
            unfold la_sw
            by_cases c1 : i = at_
            · rw [if_pos c1, c1, pk_us]
            · rw [if_neg c1, pk_un c1]; exact hwh i hi
        rw [la_val_z] at esum
        exact esum
  have I0 : la_I q n m g la_no 0 := by
    have e0 : fb_ct la_no n = 0 := fb_ct_zero.mpr (fun k _ => rfl)
    exact ⟨hg, fun p h => absurd h (by simp [la_no]), by omega, fun p h => absurd h (by simp [la_no]), fun j _ _ c hc => absurd hc (Nat.not_lt_zero _)⟩
  have := key n 0 (by omega) (τ 2) g la_no I0 hgτ (fun v => Iff.rfl)
  have e0 : fb_ct la_no n = 0 := fb_ct_zero.mpr (fun k _ => rfl)
  rw [sA_id, e0] at this
  exact ⟨n + 1, this⟩
