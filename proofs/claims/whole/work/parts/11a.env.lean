def ss_ceX (L : Nat → Nat) (cI : ClassId) (ex : Nat → va_E) : ss_CE := fun i f => match i with
  | 1 => .inr (0, [.int (f 0), .int (f 1), .int (f 2)])
  | 5 => .inr (2, [.ref (L 1), .ref (L 7), .ref (L 8)])
  | 7 => .inl (cI, 36, .inl f)
  | 8 => .inl (cI, 6, .inl f)
  | j => ex j
theorem ceX_7 {L : Nat → Nat} {cI : ClassId} {ex : Nat → va_E} {s0 : Nat} (h : s0 = 7) (f : Nat → Int32) : ss_ceX L cI ex s0 f = .inl (cI, lenC s0, .inl f) := by subst h; rfl
abbrev ss_E2 (D : va_G) (A : Nat → Prop) (L : Nat → Nat) (wr : va_W) (cI cZ cS : ClassId) (ex : Nat → va_E) : ss_E := (D, A, 2, L, ss_ceX L cI ex, wr, ss_tys cI cZ cS)
abbrev ss_E9 (D : va_G) (A : Nat → Prop) (L : Nat → Nat) (wr : va_W) (cI cZ cS : ClassId) (ex : Nat → va_E) : ss_E := (D, A, 9, L, ss_ceX L cI ex, wr, ss_tys cI cZ cS)
section
variable {p : Program} {l : Launch} {e : Env} {R : Room} {s : State} {m : MethodId} {args : Array Value} {below : List Frame} {meth : Method} {c : Code} {D : va_G} {A : Nat → Prop} {L : Nat → Nat} {wr : va_W} {cI cZ cS : ClassId} {ex : Nat → va_E}
set_option maxHeartbeats 4000000 in
set_option maxRecDepth 100000 in
theorem tX0_power_4y {x1 : Int32} {post : Int32 → ss_S → Prop} (F : ss_F p R s m args meth c (ss_E2 D A L wr cI cZ cS ex) cX0_power 4 wsX0_power RX0 (some .int) rmX0_power)  (k22 : Int32 → Int32 → ss_S → Prop) : ∀ (n : Nat) (x2 : Int32) (x3 : Int32) (σ : ss_S) (H : Heap) (locs : List Loc) (ls : Array Slot), ss_C (ss_E2 D A L wr cI cZ cS ex) σ s H locs → lv_has ls 4 [(0, .ref (L (1))), (1, .int (x1)), (2, .int (x2)), (3, .int (x3))] → lX0_power_4 x1 post k22 n x2 x3 σ →
    (∀ (x2 : Int32) (x3 : Int32) (σ : ss_S) (H : Heap) (locs : List Loc) (ls : Array Slot), ss_C (ss_E2 D A L wr cI cZ cS ex) σ s H locs → lv_has ls 4 [(2, .int (x2))] → k22 x2 x3 σ → W p l e R s m args below meth c H locs 0 0 (MQ below (va_Qi post (ss_B (ss_E2 D A L wr cI cZ cS ex)) A) args s 0 0 A) (F0 m 22 ls [])) →
    W p l e R s m args below meth c H locs 0 0 (MQ below (va_Qi post (ss_B (ss_E2 D A L wr cI cZ cS ex)) A) args s 0 0 A) (F0 m 4 ls []) := by
  have hx := F.1.1
  have hb := F.1.2.1
  have u_X0 : ∀ w ∈ u_ws RX0 TX0 3, w ∈ wsX0_power := by decide +kernel
  have f_13 : (Cond.fieldLink RX0 13 "SmallSpaces$Frame" "q" "I").before args s = true := F.1.2.2.2.2 _ (by decide +kernel)
  intro n
  induction n with
  | zero => intro x2 x3 σ H locs ls hC hl hw; exact hw.elim
  | succ n ih =>
    intro x2 x3 σ H locs ls hC hl hw hk22
    refine lv_iload_n hx hb dX0_power_4 rfl (lv_at hl 3 rfl) ?_
    refine lv_iload_n hx hb dX0_power_5 rfl (lv_at hl 1 rfl) ?_
    refine lv_icmp_ge (tgt := 22) hx hb dX0_power_6 (by decide) (fun hc => ?_) (fun hc => ?_)
    · replace hw := hw.1 hc
      exact hk22 x2 x3 σ _ _ _ hC (lv_sub hl [2] rfl) hw
    · replace hw := hw.2 hc
      refine lv_iload_n hx hb dX0_power_9 rfl (lv_at hl 2 rfl) ?_
      refine lv_aload_n hx hb dX0_power_10 rfl (lv_at hl 0 rfl) ?_
      refine ss_get (C := RX0) (T := TX0) (N := 3) (ci := 0) (v := .int (σ 1 0)) F hC (1) u_X0 (Nat.le_of_ble_eq_true rfl) rfl rfl 0 (by decide) f_13 rfl dX0_power_11 ?_
      refine lv_imul hx hb dX0_power_14 ?_
      refine lv_istore_n (lv' := [(2, .int (x2 * (σ 1 0))), (0, .ref (L (1))), (1, .int (x1)), (3, .int (x3))]) hx hb dX0_power_15 rfl hl (by decide) rfl (fun ls hl => ?_)
      refine lv_iinc (v := x3 + 1) (lv' := [(3, .int (x3 + 1)), (2, .int (x2 * (σ 1 0))), (0, .ref (L (1))), (1, .int (x1))]) hx hb dX0_power_16 hl (k := 3) rfl rfl (by decide) rfl (fun ls hl => ?_)
      refine lv_goto (tgt := 4) hx hb dX0_power_19 (by decide) ?_
      exact ih (x2 * (σ 1 0)) (x3 + 1) σ _ _ _ hC (lv_sub hl [2, 3, 1, 0] rfl) hw hk22
set_option maxHeartbeats 4000000 in
set_option maxRecDepth 100000 in
theorem bX0_powery {x1 : Int32} {post : Int32 → ss_S → Prop} (F : ss_F p R s m args meth c (ss_E2 D A L wr cI cZ cS ex) cX0_power 4 wsX0_power RX0 (some .int) rmX0_power)  : ∀ (σ : ss_S) (H : Heap) (locs : List Loc) (ls : Array Slot), ss_C (ss_E2 D A L wr cI cZ cS ex) σ s H locs → lv_has ls 4 [(0, .ref (L (1))), (1, .int (x1))] → wX0_power x1 σ post → W p l e R s m args below meth c H locs 0 0 (MQ below (va_Qi post (ss_B (ss_E2 D A L wr cI cZ cS ex)) A) args s 0 0 A) (F0 m 0 ls []) := by
  have hx := F.1.1
  have hb := F.1.2.1
  intro σ H locs ls hC hl hw
  unfold wX0_power at hw
  refine lv_iconst (v := 1) hx hb dX0_power_0 (by decide) ?_
  refine lv_istore_n (lv' := [(2, .int (1)), (0, .ref (L (1))), (1, .int (x1))]) hx hb dX0_power_1 rfl hl (by decide) rfl (fun ls hl => ?_)
  refine lv_iconst (v := 0) hx hb dX0_power_2 (by decide) ?_
  refine lv_istore_n (lv' := [(3, .int (0)), (2, .int (1)), (0, .ref (L (1))), (1, .int (x1))]) hx hb dX0_power_3 rfl hl (by decide) rfl (fun ls hl => ?_)
  obtain ⟨n_, hw⟩ := hw
  refine tX0_power_4y F  _ n_ 1 0 σ _ _ _ hC (lv_sub hl [2, 3, 1, 0] rfl) hw ?_
  · intro x2_1 x3_1 σ_1 H locs ls hC hl hw
    refine lv_iload_n hx hb dX0_power_22 rfl (lv_at hl 0 rfl) ?_
    exact ss_iret F hC hw dX0_power_23
theorem mX0_powery (l : Launch) (D : va_G) (A : Nat → Prop) (L : Nat → Nat) (wr : va_W) (cI cZ cS : ClassId) (ex : Nat → va_E) (σ : ss_S) (x1 : Int32)  : ss_MI l yX0_power wsX0_power rmX0_power (ss_E2 D A L wr cI cZ cS ex) [.ref (L (1)), .int (x1)] σ (fun post => wX0_power x1 σ post) :=
  ss_MI.of (cc := cX0_power) (nL := 4) (ret := (some .int)) (own := RX0) (by decide) rfl rfl (Nat.le_of_ble_eq_true rfl) (fun post p e R s m below meth c H locs ls F hC hl hw => bX0_powery F  σ H locs ls hC hl hw)
set_option maxHeartbeats 4000000 in
set_option maxRecDepth 100000 in
theorem bX0_becomey {x1 : Int32} {x2 : Int32} {post : ss_S → Prop} (F : ss_F p R s m args meth c (ss_E2 D A L wr cI cZ cS ex) cX0_become 3 wsX0_become RX0 none rmX0_become)  : ∀ (σ : ss_S) (H : Heap) (locs : List Loc) (ls : Array Slot), ss_C (ss_E2 D A L wr cI cZ cS ex) σ s H locs → lv_has ls 3 [(0, .ref (L (1))), (1, .int (x1)), (2, .int (x2))] → wX0_become x1 x2 σ post → W p l e R s m args below meth c H locs 0 0 (MQ below (va_Qv post (ss_B (ss_E2 D A L wr cI cZ cS ex)) A) args s 0 0 A) (F0 m 0 ls []) := by
  have hx := F.1.1
  have hb := F.1.2.1
  have u_X0 : ∀ w ∈ u_ws RX0 TX0 3, w ∈ wsX0_become := by decide +kernel
  have f_13 : (Cond.fieldLink RX0 13 "SmallSpaces$Frame" "q" "I").before args s = true := F.1.2.2.2.2 _ (by decide +kernel)
  have f_17 : (Cond.fieldLink RX0 17 "SmallSpaces$Frame" "n" "I").before args s = true := F.1.2.2.2.2 _ (by decide +kernel)
  have f_24 : (Cond.fieldLink RX0 24 "SmallSpaces$Frame" "vectors" "I").before args s = true := F.1.2.2.2.2 _ (by decide +kernel)
  intro σ H locs ls hC hl hw
  unfold wX0_become at hw
  refine lv_aload_n hx hb dX0_become_0 rfl (lv_at hl 0 rfl) ?_
  refine lv_iload_n hx hb dX0_become_1 rfl (lv_at hl 1 rfl) ?_
  refine ss_put (C := RX0) (T := TX0) (N := 3) (ci := 0) F hC (1) tyX0 tyX0_ok nmX0 u_X0 (Nat.le_of_ble_eq_true rfl) rfl rfl 0 (by decide) f_13 rfl (by decide +kernel) (Nat.le_of_ble_eq_true rfl) rfl dX0_become_2 (fun H locs hC => ?_)
  refine lv_aload_n hx hb dX0_become_5 rfl (lv_at hl 0 rfl) ?_
  refine lv_iload_n hx hb dX0_become_6 rfl (lv_at hl 2 rfl) ?_
  refine ss_put (C := RX0) (T := TX0) (N := 3) (ci := 0) F hC (1) tyX0 tyX0_ok nmX0 u_X0 (Nat.le_of_ble_eq_true rfl) rfl rfl 1 (by decide) f_17 rfl (by decide +kernel) (Nat.le_of_ble_eq_true rfl) rfl dX0_become_7 (fun H locs hC => ?_)
  refine lv_aload_n hx hb dX0_become_10 rfl (lv_at hl 0 rfl) ?_
  refine lv_aload_n hx hb dX0_become_11 rfl (lv_at hl 0 rfl) ?_
  refine lv_iload_n hx hb dX0_become_12 rfl (lv_at hl 2 rfl) ?_
  refine ss_ki (ss_rV (C := RX0) (As := [.int (x2)]) (rest := [.ref (L (1))]) F ((mX0_powery l D A L wr cI cZ cS ex (u2 (u2 σ 1 0 x1) 1 1 x2) x2) _) gX0_become_X0_power rfl ⟨rfl, rfl⟩ ⟨rfl, dvX0_power⟩ ⟨Nat.le_of_ble_eq_true rfl, Nat.le_of_ble_eq_true rfl⟩ (ss_preV F.2.2.2.2.1 F.2.2.2.2.2 hC (ss_rec (C := RX0) (T := TX0) (N := 3) (ci := 0) F.2.2.2.2.1 hC (1) (Nat.le_of_ble_eq_true rfl) rfl rfl) hw) rfl hl.1 rfl (Nat.le_of_ble_eq_true rfl) dX0_become_13 ⟨Nat.zero_le _, Nat.zero_le _⟩) hC (fun r2 σ1 H locs hC hw => ?_)
  refine ss_put (C := RX0) (T := TX0) (N := 3) (ci := 0) F hC (1) tyX0 tyX0_ok nmX0 u_X0 (Nat.le_of_ble_eq_true rfl) rfl rfl 2 (by decide) f_24 rfl (by decide +kernel) (Nat.le_of_ble_eq_true rfl) rfl dX0_become_16 (fun H locs hC => ?_)
  exact ss_vret F hC hw dX0_become_19
theorem mX0_becomey (l : Launch) (D : va_G) (A : Nat → Prop) (L : Nat → Nat) (wr : va_W) (cI cZ cS : ClassId) (ex : Nat → va_E) (σ : ss_S) (x1 : Int32) (x2 : Int32)  : ss_MV l yX0_become wsX0_become rmX0_become (ss_E2 D A L wr cI cZ cS ex) [.ref (L (1)), .int (x1), .int (x2)] σ (fun post => wX0_become x1 x2 σ post) :=
  ss_MV.of (cc := cX0_become) (nL := 3) (ret := none) (own := RX0) (by decide) rfl rfl (Nat.le_of_ble_eq_true rfl) (fun post p e R s m below meth c H locs ls F hC hl hw => bX0_becomey F  σ H locs ls hC hl hw)
set_option maxHeartbeats 4000000 in
set_option maxRecDepth 100000 in
theorem tJ7_fill_53178_5y {s0 : Nat} {x1 : Int32} {x3 : Int32} {post : ss_S → Prop} (F : ss_F p R s m args meth c (ss_E9 D A L wr cI cZ cS ex) cJ7_fill_53178 4 wsJ7_fill_53178 RJ7 none rmJ7_fill_53178) (h0 : s0 = 7) (k20 : Int32 → ss_S → Prop) : ∀ (n : Nat) (x2 : Int32) (σ : ss_S) (H : Heap) (locs : List Loc) (ls : Array Slot), ss_C (ss_E9 D A L wr cI cZ cS ex) σ s H locs → lv_has ls 4 [(0, .ref (L (s0))), (1, .int (x1)), (2, .int (x2)), (3, .int (x3))] → lJ7_fill_53178_5 s0 x1 x3 post k20 n x2 σ →
    (∀ (x2 : Int32) (σ : ss_S) (H : Heap) (locs : List Loc) (ls : Array Slot), ss_C (ss_E9 D A L wr cI cZ cS ex) σ s H locs → lv_has ls 4 [] → k20 x2 σ → W p l e R s m args below meth c H locs 0 0 (MQ below (va_Qv post (ss_B (ss_E9 D A L wr cI cZ cS ex)) A) args s 0 0 A) (F0 m 20 ls [])) →
    W p l e R s m args below meth c H locs 0 0 (MQ below (va_Qv post (ss_B (ss_E9 D A L wr cI cZ cS ex)) A) args s 0 0 A) (F0 m 5 ls []) := by
  have hx := F.1.1
  have hb := F.1.2.1
  intro n
  induction n with
  | zero => intro x2 σ H locs ls hC hl hw; exact hw.elim
  | succ n ih =>
    intro x2 σ H locs ls hC hl hw hk20
    refine lv_iload_n hx hb dJ7_fill_53178_5 rfl (lv_at hl 2 rfl) ?_
    refine lv_iload_n hx hb dJ7_fill_53178_6 rfl (lv_at hl 3 rfl) ?_
    refine lv_icmp_ge (tgt := 20) hx hb dJ7_fill_53178_7 (by decide) (fun hc => ?_) (fun hc => ?_)
    · replace hw := hw.1 hc
      exact hk20 x2 σ _ _ _ hC (lv_sub hl [] rfl) hw
    · replace hw := hw.2 hc
      refine lv_aload_n hx hb dJ7_fill_53178_10 rfl (lv_at hl 0 rfl) ?_
      refine lv_iload_n hx hb dJ7_fill_53178_11 rfl (lv_at hl 2 rfl) ?_
      refine lv_iload_n hx hb dJ7_fill_53178_12 rfl (lv_at hl 1 rfl) ?_
      refine ss_iast F hC (s0) 0 (show s0 < 9 by omega) (ceX_7 (L := L) (cI := cI) (ex := ex) h0) rfl hw.1 dJ7_fill_53178_13 (fun H locs hC => ?_)
      replace hw := hw.2
      refine lv_iinc (v := x2 + 1) (lv' := [(2, .int (x2 + 1)), (0, .ref (L (s0))), (1, .int (x1)), (3, .int (x3))]) hx hb dJ7_fill_53178_14 hl (k := 2) rfl rfl (by decide) rfl (fun ls hl => ?_)
      refine lv_goto (tgt := 5) hx hb dJ7_fill_53178_17 (by decide) ?_
      exact ih (x2 + 1) (u2 σ s0 (Int32.toNatClampNeg x2) x1) _ _ _ hC (lv_sub hl [1, 2, 0, 3] rfl) hw hk20
set_option maxHeartbeats 4000000 in
set_option maxRecDepth 100000 in
theorem bJ7_fill_53178y {s0 : Nat} {x1 : Int32} {post : ss_S → Prop} (F : ss_F p R s m args meth c (ss_E9 D A L wr cI cZ cS ex) cJ7_fill_53178 4 wsJ7_fill_53178 RJ7 none rmJ7_fill_53178) (h0 : s0 = 7) : ∀ (σ : ss_S) (H : Heap) (locs : List Loc) (ls : Array Slot), ss_C (ss_E9 D A L wr cI cZ cS ex) σ s H locs → lv_has ls 4 [(0, .ref (L (s0))), (1, .int (x1))] → wJ7_fill_53178 s0 x1 σ post → W p l e R s m args below meth c H locs 0 0 (MQ below (va_Qv post (ss_B (ss_E9 D A L wr cI cZ cS ex)) A) args s 0 0 A) (F0 m 0 ls []) := by
  have hx := F.1.1
  have hb := F.1.2.1
  intro σ H locs ls hC hl hw
  unfold wJ7_fill_53178 at hw
  refine lv_iconst (v := 0) hx hb dJ7_fill_53178_0 (by decide) ?_
  refine lv_istore_n (lv' := [(2, .int (0)), (0, .ref (L (s0))), (1, .int (x1))]) hx hb dJ7_fill_53178_1 rfl hl (by decide) rfl (fun ls hl => ?_)
  refine lv_aload_n hx hb dJ7_fill_53178_2 rfl (lv_at hl 1 rfl) ?_
  refine ss_alen F hC (s0) 0 (show s0 < 9 by omega) (ceX_7 (L := L) (cI := cI) (ex := ex) h0) rfl dJ7_fill_53178_3 ?_
  refine lv_istore_n (lv' := [(3, .int (Int32.ofNat (lenC (s0)))), (2, .int (0)), (0, .ref (L (s0))), (1, .int (x1))]) hx hb dJ7_fill_53178_4 rfl hl (by decide) rfl (fun ls hl => ?_)
  obtain ⟨n_, hw⟩ := hw
  refine tJ7_fill_53178_5y F h0 _ n_ 0 σ _ _ _ hC (lv_sub hl [2, 3, 1, 0] rfl) hw ?_
  · intro x2_1 σ_1 H locs ls hC hl hw
    exact ss_vret F hC hw dJ7_fill_53178_20
theorem mJ7_fill_53178y (l : Launch) (D : va_G) (A : Nat → Prop) (L : Nat → Nat) (wr : va_W) (cI cZ cS : ClassId) (ex : Nat → va_E) (σ : ss_S) (s0 : Nat) (x1 : Int32) (h0 : s0 = 7) : ss_MV l yJ7_fill_53178 wsJ7_fill_53178 rmJ7_fill_53178 (ss_E9 D A L wr cI cZ cS ex) [.ref (L (s0)), .int (x1)] σ (fun post => wJ7_fill_53178 s0 x1 σ post) :=
  ss_MV.of (cc := cJ7_fill_53178) (nL := 4) (ret := none) (own := RJ7) (by decide) rfl rfl (Nat.le_of_ble_eq_true rfl) (fun post p e R s m below meth c H locs ls F hC hl hw => bJ7_fill_53178y F h0 σ H locs ls hC hl hw)
set_option maxHeartbeats 4000000 in
set_option maxRecDepth 100000 in
theorem tX2_becomeIdentity_10y  {post : ss_S → Prop} (F : ss_F p R s m args meth c (ss_E9 D A L wr cI cZ cS ex) cX2_becomeIdentity 2 wsX2_becomeIdentity RX2 none rmX2_becomeIdentity)  (k39 : Int32 → ss_S → Prop) : ∀ (n : Nat) (x1 : Int32) (σ : ss_S) (H : Heap) (locs : List Loc) (ls : Array Slot), ss_C (ss_E9 D A L wr cI cZ cS ex) σ s H locs → lv_has ls 2 [(0, .ref (L (5))), (1, .int (x1))] → lX2_becomeIdentity_10 post k39 n x1 σ →
    (∀ (x1 : Int32) (σ : ss_S) (H : Heap) (locs : List Loc) (ls : Array Slot), ss_C (ss_E9 D A L wr cI cZ cS ex) σ s H locs → lv_has ls 2 [] → k39 x1 σ → W p l e R s m args below meth c H locs 0 0 (MQ below (va_Qv post (ss_B (ss_E9 D A L wr cI cZ cS ex)) A) args s 0 0 A) (F0 m 39 ls [])) →
    W p l e R s m args below meth c H locs 0 0 (MQ below (va_Qv post (ss_B (ss_E9 D A L wr cI cZ cS ex)) A) args s 0 0 A) (F0 m 10 ls []) := by
  have hx := F.1.1
  have hb := F.1.2.1
  have u_X2 : ∀ w ∈ u_ws RX2 TX2 3, w ∈ wsX2_becomeIdentity := by decide +kernel
  have f_18 : (Cond.fieldLink RX2 18 "SmallSpaces$Linear" "frame" "LSmallSpaces$Frame;").before args s = true := F.1.2.2.2.2 _ (by decide +kernel)
  have u_X0 : ∀ w ∈ u_ws RX0 TX0 3, w ∈ wsX2_becomeIdentity := by decide +kernel
  have f_9 : (Cond.fieldLink RX2 9 "SmallSpaces$Linear" "cells" "[I").before args s = true := F.1.2.2.2.2 _ (by decide +kernel)
  intro n
  induction n with
  | zero => intro x1 σ H locs ls hC hl hw; exact hw.elim
  | succ n ih =>
    intro x1 σ H locs ls hC hl hw hk39
    refine lv_iload_n hx hb dX2_becomeIdentity_10 rfl (lv_at hl 1 rfl) ?_
    refine lv_aload_n hx hb dX2_becomeIdentity_11 rfl (lv_at hl 0 rfl) ?_
    refine ss_get (C := RX2) (T := TX2) (N := 3) (ci := 2) (v := .ref (L (1))) F hC (5) u_X2 (Nat.le_of_ble_eq_true rfl) rfl rfl 0 (by decide) f_18 rfl dX2_becomeIdentity_12 ?_
    refine ss_getN (C := RX0) (T := TX0) (N := 3) (ci := 0) (host := RX4) (v := .int (σ 1 1)) F hC (1) u_X0 (Nat.le_of_ble_eq_true rfl) rfl rfl 1 (by decide) (by decide +kernel) rfl dX2_becomeIdentity_15 ?_
    refine lv_icmp_ge (tgt := 39) hx hb dX2_becomeIdentity_18 (by decide) (fun hc => ?_) (fun hc => ?_)
    · replace hw := hw.1 hc
      exact hk39 x1 σ _ _ _ hC (lv_sub hl [] rfl) hw
    · replace hw := hw.2 hc
      refine lv_aload_n hx hb dX2_becomeIdentity_21 rfl (lv_at hl 0 rfl) ?_
      refine ss_get (C := RX2) (T := TX2) (N := 3) (ci := 2) (v := .ref (L (7))) F hC (5) u_X2 (Nat.le_of_ble_eq_true rfl) rfl rfl 1 (by decide) f_9 rfl dX2_becomeIdentity_22 ?_
      refine lv_iload_n hx hb dX2_becomeIdentity_25 rfl (lv_at hl 1 rfl) ?_
      refine lv_bipush (v := 6) hx hb dX2_becomeIdentity_26 (by decide) ?_
      refine lv_imul hx hb dX2_becomeIdentity_28 ?_
      refine lv_iload_n hx hb dX2_becomeIdentity_29 rfl (lv_at hl 1 rfl) ?_
      refine lv_iadd hx hb dX2_becomeIdentity_30 ?_
      refine lv_iconst (v := 1) hx hb dX2_becomeIdentity_31 (by decide) ?_
      refine ss_iast F hC (7) 0 (Nat.le_of_ble_eq_true rfl) (ceX_7 (L := L) (cI := cI) (ex := ex) rfl) rfl hw.1 dX2_becomeIdentity_32 (fun H locs hC => ?_)
      replace hw := hw.2
      refine lv_iinc (v := x1 + 1) (lv' := [(1, .int (x1 + 1)), (0, .ref (L (5)))]) hx hb dX2_becomeIdentity_33 hl (k := 1) rfl rfl (by decide) rfl (fun ls hl => ?_)
      refine lv_goto (tgt := 10) hx hb dX2_becomeIdentity_36 (by decide) ?_
      exact ih (x1 + 1) (u2 σ 7 (Int32.toNatClampNeg ((x1 * 6) + x1)) 1) _ _ _ hC (lv_sub hl [1, 0] rfl) hw hk39
set_option maxHeartbeats 4000000 in
set_option maxRecDepth 100000 in
theorem bX2_becomeIdentityy  {post : ss_S → Prop} (F : ss_F p R s m args meth c (ss_E9 D A L wr cI cZ cS ex) cX2_becomeIdentity 2 wsX2_becomeIdentity RX2 none rmX2_becomeIdentity)  : ∀ (σ : ss_S) (H : Heap) (locs : List Loc) (ls : Array Slot), ss_C (ss_E9 D A L wr cI cZ cS ex) σ s H locs → lv_has ls 2 [(0, .ref (L (5)))] → wX2_becomeIdentity  σ post → W p l e R s m args below meth c H locs 0 0 (MQ below (va_Qv post (ss_B (ss_E9 D A L wr cI cZ cS ex)) A) args s 0 0 A) (F0 m 0 ls []) := by
  have hx := F.1.1
  have hb := F.1.2.1
  have u_X2 : ∀ w ∈ u_ws RX2 TX2 3, w ∈ wsX2_becomeIdentity := by decide +kernel
  have f_9 : (Cond.fieldLink RX2 9 "SmallSpaces$Linear" "cells" "[I").before args s = true := F.1.2.2.2.2 _ (by decide +kernel)
  intro σ H locs ls hC hl hw
  unfold wX2_becomeIdentity at hw
  refine lv_aload_n hx hb dX2_becomeIdentity_0 rfl (lv_at hl 0 rfl) ?_
  refine ss_get (C := RX2) (T := TX2) (N := 3) (ci := 2) (v := .ref (L (7))) F hC (5) u_X2 (Nat.le_of_ble_eq_true rfl) rfl rfl 1 (by decide) f_9 rfl dX2_becomeIdentity_1 ?_
  refine lv_iconst (v := 0) hx hb dX2_becomeIdentity_4 (by decide) ?_
  refine ss_kv (ss_rS (As := [.ref (L (7)), .int (0)]) (rest := []) F ((mJ7_fill_53178y l D A L wr cI cZ cS ex σ 7 0 rfl) _) gX2_becomeIdentity_J7_fill_53178 rfl ⟨rfl, rfl⟩ dvJ7_fill_53178 ⟨Nat.le_of_ble_eq_true rfl, Nat.le_of_ble_eq_true rfl⟩ (ss_preS F.2.2.2.2.1 F.2.2.2.2.2 hC hw) rfl hl.1 rfl (Nat.le_of_ble_eq_true rfl) dX2_becomeIdentity_5 ⟨Nat.zero_le _, Nat.zero_le _⟩) hC (fun σ1 H locs hC hw => ?_)
  refine lv_iconst (v := 0) hx hb dX2_becomeIdentity_8 (by decide) ?_
  refine lv_istore_n (lv' := [(1, .int (0)), (0, .ref (L (5)))]) hx hb dX2_becomeIdentity_9 rfl hl (by decide) rfl (fun ls hl => ?_)
  obtain ⟨n_, hw⟩ := hw
  refine tX2_becomeIdentity_10y F  _ n_ 0 σ1 _ _ _ hC (lv_sub hl [1, 0] rfl) hw ?_
  · intro x1_2 σ_2 H locs ls hC hl hw
    exact ss_vret F hC hw dX2_becomeIdentity_39
theorem mX2_becomeIdentityy (l : Launch) (D : va_G) (A : Nat → Prop) (L : Nat → Nat) (wr : va_W) (cI cZ cS : ClassId) (ex : Nat → va_E) (σ : ss_S)   : ss_MV l yX2_becomeIdentity wsX2_becomeIdentity rmX2_becomeIdentity (ss_E9 D A L wr cI cZ cS ex) [.ref (L (5))] σ (fun post => wX2_becomeIdentity  σ post) :=
  ss_MV.of (cc := cX2_becomeIdentity) (nL := 2) (ret := none) (own := RX2) (by decide) rfl rfl (Nat.le_of_ble_eq_true rfl) (fun post p e R s m below meth c H locs ls F hC hl hw => bX2_becomeIdentityy F  σ H locs ls hC hl hw)
end
