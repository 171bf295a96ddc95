section
variable {p : Program} {l : Launch} {e : Env} {R : Room} {s : State} {m : MethodId} {args : Array Value} {below : List Frame} {meth : Method} {c : Code} {D : va_G} {A : Nat → Prop} {L : Nat → Nat} {wr : va_W} {cI cZ cS : ClassId}
set_option maxHeartbeats 4000000 in
set_option maxRecDepth 100000 in
theorem bJ6_bitCount_0f7a4 {x0 : Int32} {post : Int32 → ss_S → Prop} (F : ss_F p R s m args meth c (ss_EC D A L wr cI cZ cS) cJ6_bitCount_0f7a4 1 wsJ6_bitCount_0f7a4 RJ6 (some .int) rmJ6_bitCount_0f7a4)  : ∀ (σ : ss_S) (H : Heap) (locs : List Loc) (ls : Array Slot), ss_C (ss_EC D A L wr cI cZ cS) σ s H locs → lv_has ls 1 [(0, .int (x0))] → wJ6_bitCount_0f7a4 x0 σ post → W p l e R s m args below meth c H locs 0 0 (MQ below (va_Qi post (ss_B (ss_EC D A L wr cI cZ cS)) A) args s 0 0 A) (F0 m 0 ls []) := by
  have hx := F.1.1
  have hb := F.1.2.1
  intro σ H locs ls hC hl hw
  unfold wJ6_bitCount_0f7a4 at hw
  refine lv_iload_n hx hb dJ6_bitCount_0f7a4_0 rfl (lv_at hl 0 rfl) ?_
  refine lv_iload_n hx hb dJ6_bitCount_0f7a4_1 rfl (lv_at hl 0 rfl) ?_
  refine lv_iconst (v := 1) hx hb dJ6_bitCount_0f7a4_2 (by decide) ?_
  refine lv_iushr hx hb dJ6_bitCount_0f7a4_3 rfl ?_
  refine lv_ldcw (v := 1431655765) hx hb F.1.2.2.2.1 (F.1.2.2.2.2 (.constant RJ6 265 (1431655765)) (by decide +kernel)) dJ6_bitCount_0f7a4_4 ?_
  refine lv_iand hx hb dJ6_bitCount_0f7a4_7 ?_
  refine lv_isub hx hb dJ6_bitCount_0f7a4_8 ?_
  refine lv_istore_n (lv' := [(0, .int (x0 - (((x0.toUInt32 >>> (Int32.toUInt32 1 &&& Int32.toUInt32 31)).toInt32) &&& 1431655765)))]) hx hb dJ6_bitCount_0f7a4_9 rfl hl (by decide) rfl (fun ls hl => ?_)
  refine lv_iload_n hx hb dJ6_bitCount_0f7a4_10 rfl (lv_at hl 0 rfl) ?_
  refine lv_ldcw (v := 858993459) hx hb F.1.2.2.2.1 (F.1.2.2.2.2 (.constant RJ6 266 (858993459)) (by decide +kernel)) dJ6_bitCount_0f7a4_11 ?_
  refine lv_iand hx hb dJ6_bitCount_0f7a4_14 ?_
  refine lv_iload_n hx hb dJ6_bitCount_0f7a4_15 rfl (lv_at hl 0 rfl) ?_
  refine lv_iconst (v := 2) hx hb dJ6_bitCount_0f7a4_16 (by decide) ?_
  refine lv_iushr hx hb dJ6_bitCount_0f7a4_17 rfl ?_
  refine lv_ldcw (v := 858993459) hx hb F.1.2.2.2.1 (F.1.2.2.2.2 (.constant RJ6 266 (858993459)) (by decide +kernel)) dJ6_bitCount_0f7a4_18 ?_
  refine lv_iand hx hb dJ6_bitCount_0f7a4_21 ?_
  refine lv_iadd hx hb dJ6_bitCount_0f7a4_22 ?_
  refine lv_topi (fun z1 ez1 => ?_)
  replace hw := hw z1 ez1
  refine lv_istore_n (lv' := [(0, .int (z1))]) hx hb dJ6_bitCount_0f7a4_23 rfl hl (by decide) rfl (fun ls hl => ?_)
  refine lv_iload_n hx hb dJ6_bitCount_0f7a4_24 rfl (lv_at hl 0 rfl) ?_
  refine lv_iload_n hx hb dJ6_bitCount_0f7a4_25 rfl (lv_at hl 0 rfl) ?_
  refine lv_iconst (v := 4) hx hb dJ6_bitCount_0f7a4_26 (by decide) ?_
  refine lv_iushr hx hb dJ6_bitCount_0f7a4_27 rfl ?_
  refine lv_iadd hx hb dJ6_bitCount_0f7a4_28 ?_
  refine lv_ldcw (v := 252645135) hx hb F.1.2.2.2.1 (F.1.2.2.2.2 (.constant RJ6 267 (252645135)) (by decide +kernel)) dJ6_bitCount_0f7a4_29 ?_
  refine lv_iand hx hb dJ6_bitCount_0f7a4_32 ?_
  refine lv_istore_n (lv' := [(0, .int ((z1 + ((z1.toUInt32 >>> (Int32.toUInt32 4 &&& Int32.toUInt32 31)).toInt32)) &&& 252645135))]) hx hb dJ6_bitCount_0f7a4_33 rfl hl (by decide) rfl (fun ls hl => ?_)
  refine lv_iload_n hx hb dJ6_bitCount_0f7a4_34 rfl (lv_at hl 0 rfl) ?_
  refine lv_iload_n hx hb dJ6_bitCount_0f7a4_35 rfl (lv_at hl 0 rfl) ?_
  refine lv_bipush (v := 8) hx hb dJ6_bitCount_0f7a4_36 (by decide) ?_
  refine lv_iushr hx hb dJ6_bitCount_0f7a4_38 rfl ?_
  refine lv_iadd hx hb dJ6_bitCount_0f7a4_39 ?_
  refine lv_topi (fun z2 ez2 => ?_)
  replace hw := hw z2 ez2
  refine lv_istore_n (lv' := [(0, .int (z2))]) hx hb dJ6_bitCount_0f7a4_40 rfl hl (by decide) rfl (fun ls hl => ?_)
  refine lv_iload_n hx hb dJ6_bitCount_0f7a4_41 rfl (lv_at hl 0 rfl) ?_
  refine lv_iload_n hx hb dJ6_bitCount_0f7a4_42 rfl (lv_at hl 0 rfl) ?_
  refine lv_bipush (v := 16) hx hb dJ6_bitCount_0f7a4_43 (by decide) ?_
  refine lv_iushr hx hb dJ6_bitCount_0f7a4_45 rfl ?_
  refine lv_iadd hx hb dJ6_bitCount_0f7a4_46 ?_
  refine lv_istore_n (lv' := [(0, .int (z2 + ((z2.toUInt32 >>> (Int32.toUInt32 16 &&& Int32.toUInt32 31)).toInt32)))]) hx hb dJ6_bitCount_0f7a4_47 rfl hl (by decide) rfl (fun ls hl => ?_)
  refine lv_iload_n hx hb dJ6_bitCount_0f7a4_48 rfl (lv_at hl 0 rfl) ?_
  refine lv_bipush (v := 63) hx hb dJ6_bitCount_0f7a4_49 (by decide) ?_
  refine lv_iand hx hb dJ6_bitCount_0f7a4_51 ?_
  exact ss_iret F hC hw dJ6_bitCount_0f7a4_52

theorem mJ6_bitCount_0f7a4 (l : Launch) (D : va_G) (A : Nat → Prop) (L : Nat → Nat) (wr : va_W) (cI cZ cS : ClassId) (σ : ss_S) (x0 : Int32)  : ss_MI l yJ6_bitCount_0f7a4 wsJ6_bitCount_0f7a4 rmJ6_bitCount_0f7a4 (ss_EC D A L wr cI cZ cS) [.int (x0)] σ (fun post => wJ6_bitCount_0f7a4 x0 σ post) :=
  ss_MI.of (cc := cJ6_bitCount_0f7a4) (nL := 1) (ret := (some .int)) (own := RJ6) (by decide) rfl rfl (Nat.le_of_ble_eq_true rfl) (fun post p e R s m below meth c H locs ls F hC hl hw => bJ6_bitCount_0f7a4 F  σ H locs ls hC hl hw)

set_option maxHeartbeats 4000000 in
set_option maxRecDepth 100000 in
theorem tJ7_fill_53178_5 {s0 : Nat} {x1 : Int32} {x3 : Int32} {post : ss_S → Prop} (F : ss_F p R s m args meth c (ss_EC D A L wr cI cZ cS) cJ7_fill_53178 4 wsJ7_fill_53178 RJ7 none rmJ7_fill_53178) (h0 : isAr s0) (k20 : Int32 → ss_S → Prop) : ∀ (n : Nat) (x2 : Int32) (σ : ss_S) (H : Heap) (locs : List Loc) (ls : Array Slot), ss_C (ss_EC D A L wr cI cZ cS) σ s H locs → lv_has ls 4 [(0, .ref (L (s0))), (1, .int (x1)), (2, .int (x2)), (3, .int (x3))] → lJ7_fill_53178_5 s0 x1 x3 post k20 n x2 σ →
    (∀ (x2 : Int32) (σ : ss_S) (H : Heap) (locs : List Loc) (ls : Array Slot), ss_C (ss_EC D A L wr cI cZ cS) σ s H locs → lv_has ls 4 [] → k20 x2 σ → W p l e R s m args below meth c H locs 0 0 (MQ below (va_Qv post (ss_B (ss_EC D A L wr cI cZ cS)) A) args s 0 0 A) (F0 m 20 ls [])) →
    W p l e R s m args below meth c H locs 0 0 (MQ below (va_Qv post (ss_B (ss_EC D A L wr cI cZ cS)) A) args s 0 0 A) (F0 m 5 ls []) := by
  have hx := F.1.1
  have hb := F.1.2.1
  intro n
  induction n with
  | zero => intro x2 σ H locs ls hC hl hw; exact hw.elim
  | succ n ih =>
    intro x2 σ H locs ls hC hl hw hk20
    refine lv_iload_n hx hb dJ7_fill_53178_5 rfl (lv_at hl 2 rfl) ?_
    refine lv_iload_n hx hb dJ7_fill_53178_6 rfl (lv_at hl 3 rfl) ?_
    refine lv_icmp_ge (tgt := 20) hx hb dJ7_fill_53178_7 (by decide) (fun hc => ?_) (fun hc => ?_)
    · replace hw := hw.1 hc
      exact hk20 x2 σ _ _ _ hC (lv_sub hl [] rfl) hw
    · replace hw := hw.2 hc
      refine lv_aload_n hx hb dJ7_fill_53178_10 rfl (lv_at hl 0 rfl) ?_
      refine lv_iload_n hx hb dJ7_fill_53178_11 rfl (lv_at hl 2 rfl) ?_
      refine lv_iload_n hx hb dJ7_fill_53178_12 rfl (lv_at hl 1 rfl) ?_
      refine ss_iast F hC (s0) 0 h0.lt (ceC_ar (L := L) (cI := cI) (cS := cS) h0) rfl hw.1 dJ7_fill_53178_13 (fun H locs hC => ?_)
      replace hw := hw.2
      refine lv_iinc (v := x2 + 1) (lv' := [(2, .int (x2 + 1)), (0, .ref (L (s0))), (1, .int (x1)), (3, .int (x3))]) hx hb dJ7_fill_53178_14 hl (k := 2) rfl rfl (by decide) rfl (fun ls hl => ?_)
      refine lv_goto (tgt := 5) hx hb dJ7_fill_53178_17 (by decide) ?_
      exact ih (x2 + 1) (u2 σ s0 (Int32.toNatClampNeg x2) x1) _ _ _ hC (lv_sub hl [1, 2, 0, 3] rfl) hw hk20

set_option maxHeartbeats 4000000 in
set_option maxRecDepth 100000 in
theorem bJ7_fill_53178 {s0 : Nat} {x1 : Int32} {post : ss_S → Prop} (F : ss_F p R s m args meth c (ss_EC D A L wr cI cZ cS) cJ7_fill_53178 4 wsJ7_fill_53178 RJ7 none rmJ7_fill_53178) (h0 : isAr s0) : ∀ (σ : ss_S) (H : Heap) (locs : List Loc) (ls : Array Slot), ss_C (ss_EC D A L wr cI cZ cS) σ s H locs → lv_has ls 4 [(0, .ref (L (s0))), (1, .int (x1))] → wJ7_fill_53178 s0 x1 σ post → W p l e R s m args below meth c H locs 0 0 (MQ below (va_Qv post (ss_B (ss_EC D A L wr cI cZ cS)) A) args s 0 0 A) (F0 m 0 ls []) := by
  have hx := F.1.1
  have hb := F.1.2.1
  intro σ H locs ls hC hl hw
  unfold wJ7_fill_53178 at hw
  refine lv_iconst (v := 0) hx hb dJ7_fill_53178_0 (by decide) ?_
  refine lv_istore_n (lv' := [(2, .int (0)), (0, .ref (L (s0))), (1, .int (x1))]) hx hb dJ7_fill_53178_1 rfl hl (by decide) rfl (fun ls hl => ?_)
  refine lv_aload_n hx hb dJ7_fill_53178_2 rfl (lv_at hl 1 rfl) ?_
  refine ss_alen F hC (s0) 0 h0.lt (ceC_ar (L := L) (cI := cI) (cS := cS) h0) rfl dJ7_fill_53178_3 ?_
  refine lv_istore_n (lv' := [(3, .int (Int32.ofNat (lenC (s0)))), (2, .int (0)), (0, .ref (L (s0))), (1, .int (x1))]) hx hb dJ7_fill_53178_4 rfl hl (by decide) rfl (fun ls hl => ?_)
  obtain ⟨n_, hw⟩ := hw
  refine tJ7_fill_53178_5 F h0 _ n_ 0 σ _ _ _ hC (lv_sub hl [2, 3, 1, 0] rfl) hw ?_
  · intro x2_1 σ_1 H locs ls hC hl hw
    exact ss_vret F hC hw dJ7_fill_53178_20

theorem mJ7_fill_53178 (l : Launch) (D : va_G) (A : Nat → Prop) (L : Nat → Nat) (wr : va_W) (cI cZ cS : ClassId) (σ : ss_S) (s0 : Nat) (x1 : Int32) (h0 : isAr s0) : ss_MV l yJ7_fill_53178 wsJ7_fill_53178 rmJ7_fill_53178 (ss_EC D A L wr cI cZ cS) [.ref (L (s0)), .int (x1)] σ (fun post => wJ7_fill_53178 s0 x1 σ post) :=
  ss_MV.of (cc := cJ7_fill_53178) (nL := 4) (ret := none) (own := RJ7) (by decide) rfl rfl (Nat.le_of_ble_eq_true rfl) (fun post p e R s m below meth c H locs ls F hC hl hw => bJ7_fill_53178 F h0 σ H locs ls hC hl hw)

set_option maxHeartbeats 4000000 in
set_option maxRecDepth 100000 in
theorem tX0_power_4 {x1 : Int32} {post : Int32 → ss_S → Prop} (F : ss_F p R s m args meth c (ss_EC D A L wr cI cZ cS) cX0_power 4 wsX0_power RX0 (some .int) rmX0_power)  (k22 : Int32 → Int32 → ss_S → Prop) : ∀ (n : Nat) (x2 : Int32) (x3 : Int32) (σ : ss_S) (H : Heap) (locs : List Loc) (ls : Array Slot), ss_C (ss_EC D A L wr cI cZ cS) σ s H locs → lv_has ls 4 [(0, .ref (L (1))), (1, .int (x1)), (2, .int (x2)), (3, .int (x3))] → lX0_power_4 x1 post k22 n x2 x3 σ →
    (∀ (x2 : Int32) (x3 : Int32) (σ : ss_S) (H : Heap) (locs : List Loc) (ls : Array Slot), ss_C (ss_EC D A L wr cI cZ cS) σ s H locs → lv_has ls 4 [(2, .int (x2))] → k22 x2 x3 σ → W p l e R s m args below meth c H locs 0 0 (MQ below (va_Qi post (ss_B (ss_EC D A L wr cI cZ cS)) A) args s 0 0 A) (F0 m 22 ls [])) →
    W p l e R s m args below meth c H locs 0 0 (MQ below (va_Qi post (ss_B (ss_EC D A L wr cI cZ cS)) A) args s 0 0 A) (F0 m 4 ls []) := by
  have hx := F.1.1
  have hb := F.1.2.1
  have u_X0 : ∀ w ∈ u_ws RX0 TX0 3, w ∈ wsX0_power := by decide +kernel
  have f_13 : (Cond.fieldLink RX0 13 "SmallSpaces$Frame" "q" "I").before args s = true := F.1.2.2.2.2 _ (by decide +kernel)
  intro n
  induction n with
  | zero => intro x2 x3 σ H locs ls hC hl hw; exact hw.elim
  | succ n ih =>
    intro x2 x3 σ H locs ls hC hl hw hk22
    refine lv_iload_n hx hb dX0_power_4 rfl (lv_at hl 3 rfl) ?_
    refine lv_iload_n hx hb dX0_power_5 rfl (lv_at hl 1 rfl) ?_
    refine lv_icmp_ge (tgt := 22) hx hb dX0_power_6 (by decide) (fun hc => ?_) (fun hc => ?_)
    · replace hw := hw.1 hc
      exact hk22 x2 x3 σ _ _ _ hC (lv_sub hl [2] rfl) hw
    · replace hw := hw.2 hc
      refine lv_iload_n hx hb dX0_power_9 rfl (lv_at hl 2 rfl) ?_
      refine lv_aload_n hx hb dX0_power_10 rfl (lv_at hl 0 rfl) ?_
      refine ss_get (C := RX0) (T := TX0) (N := 3) (ci := 0) (v := .int (σ 1 0)) F hC (1) u_X0 (Nat.le_of_ble_eq_true rfl) rfl rfl 0 (by decide) f_13 rfl dX0_power_11 ?_
      refine lv_imul hx hb dX0_power_14 ?_
      refine lv_istore_n (lv' := [(2, .int (x2 * (σ 1 0))), (0, .ref (L (1))), (1, .int (x1)), (3, .int (x3))]) hx hb dX0_power_15 rfl hl (by decide) rfl (fun ls hl => ?_)
      refine lv_iinc (v := x3 + 1) (lv' := [(3, .int (x3 + 1)), (2, .int (x2 * (σ 1 0))), (0, .ref (L (1))), (1, .int (x1))]) hx hb dX0_power_16 hl (k := 3) rfl rfl (by decide) rfl (fun ls hl => ?_)
      refine lv_goto (tgt := 4) hx hb dX0_power_19 (by decide) ?_
      exact ih (x2 * (σ 1 0)) (x3 + 1) σ _ _ _ hC (lv_sub hl [2, 3, 1, 0] rfl) hw hk22

set_option maxHeartbeats 4000000 in
set_option maxRecDepth 100000 in
theorem bX0_power {x1 : Int32} {post : Int32 → ss_S → Prop} (F : ss_F p R s m args meth c (ss_EC D A L wr cI cZ cS) cX0_power 4 wsX0_power RX0 (some .int) rmX0_power)  : ∀ (σ : ss_S) (H : Heap) (locs : List Loc) (ls : Array Slot), ss_C (ss_EC D A L wr cI cZ cS) σ s H locs → lv_has ls 4 [(0, .ref (L (1))), (1, .int (x1))] → wX0_power x1 σ post → W p l e R s m args below meth c H locs 0 0 (MQ below (va_Qi post (ss_B (ss_EC D A L wr cI cZ cS)) A) args s 0 0 A) (F0 m 0 ls []) := by
  have hx := F.1.1
  have hb := F.1.2.1
  intro σ H locs ls hC hl hw
  unfold wX0_power at hw
  refine lv_iconst (v := 1) hx hb dX0_power_0 (by decide) ?_
  refine lv_istore_n (lv' := [(2, .int (1)), (0, .ref (L (1))), (1, .int (x1))]) hx hb dX0_power_1 rfl hl (by decide) rfl (fun ls hl => ?_)
  refine lv_iconst (v := 0) hx hb dX0_power_2 (by decide) ?_
  refine lv_istore_n (lv' := [(3, .int (0)), (2, .int (1)), (0, .ref (L (1))), (1, .int (x1))]) hx hb dX0_power_3 rfl hl (by decide) rfl (fun ls hl => ?_)
  obtain ⟨n_, hw⟩ := hw
  refine tX0_power_4 F  _ n_ 1 0 σ _ _ _ hC (lv_sub hl [2, 3, 1, 0] rfl) hw ?_
  · intro x2_1 x3_1 σ_1 H locs ls hC hl hw
    refine lv_iload_n hx hb dX0_power_22 rfl (lv_at hl 0 rfl) ?_
    exact ss_iret F hC hw dX0_power_23

theorem mX0_power (l : Launch) (D : va_G) (A : Nat → Prop) (L : Nat → Nat) (wr : va_W) (cI cZ cS : ClassId) (σ : ss_S) (x1 : Int32)  : ss_MI l yX0_power wsX0_power rmX0_power (ss_EC D A L wr cI cZ cS) [.ref (L (1)), .int (x1)] σ (fun post => wX0_power x1 σ post) :=
  ss_MI.of (cc := cX0_power) (nL := 4) (ret := (some .int)) (own := RX0) (by decide) rfl rfl (Nat.le_of_ble_eq_true rfl) (fun post p e R s m below meth c H locs ls F hC hl hw => bX0_power F  σ H locs ls hC hl hw)

set_option maxHeartbeats 4000000 in
set_option maxRecDepth 100000 in
theorem bX0_become {x1 : Int32} {x2 : Int32} {post : ss_S → Prop} (F : ss_F p R s m args meth c (ss_EC D A L wr cI cZ cS) cX0_become 3 wsX0_become RX0 none rmX0_become)  : ∀ (σ : ss_S) (H : Heap) (locs : List Loc) (ls : Array Slot), ss_C (ss_EC D A L wr cI cZ cS) σ s H locs → lv_has ls 3 [(0, .ref (L (1))), (1, .int (x1)), (2, .int (x2))] → wX0_become x1 x2 σ post → W p l e R s m args below meth c H locs 0 0 (MQ below (va_Qv post (ss_B (ss_EC D A L wr cI cZ cS)) A) args s 0 0 A) (F0 m 0 ls []) := by
  have hx := F.1.1
  have hb := F.1.2.1
  have u_X0 : ∀ w ∈ u_ws RX0 TX0 3, w ∈ wsX0_become := by decide +kernel
  have f_13 : (Cond.fieldLink RX0 13 "SmallSpaces$Frame" "q" "I").before args s = true := F.1.2.2.2.2 _ (by decide +kernel)
  have f_17 : (Cond.fieldLink RX0 17 "SmallSpaces$Frame" "n" "I").before args s = true := F.1.2.2.2.2 _ (by decide +kernel)
  have f_24 : (Cond.fieldLink RX0 24 "SmallSpaces$Frame" "vectors" "I").before args s = true := F.1.2.2.2.2 _ (by decide +kernel)
  intro σ H locs ls hC hl hw
  unfold wX0_become at hw
  refine lv_aload_n hx hb dX0_become_0 rfl (lv_at hl 0 rfl) ?_
  refine lv_iload_n hx hb dX0_become_1 rfl (lv_at hl 1 rfl) ?_
  refine ss_put (C := RX0) (T := TX0) (N := 3) (ci := 0) F hC (1) tyX0 tyX0_ok nmX0 u_X0 (Nat.le_of_ble_eq_true rfl) rfl rfl 0 (by decide) f_13 rfl (by decide +kernel) (Nat.le_of_ble_eq_true rfl) rfl dX0_become_2 (fun H locs hC => ?_)
  refine lv_aload_n hx hb dX0_become_5 rfl (lv_at hl 0 rfl) ?_
  refine lv_iload_n hx hb dX0_become_6 rfl (lv_at hl 2 rfl) ?_
  refine ss_put (C := RX0) (T := TX0) (N := 3) (ci := 0) F hC (1) tyX0 tyX0_ok nmX0 u_X0 (Nat.le_of_ble_eq_true rfl) rfl rfl 1 (by decide) f_17 rfl (by decide +kernel) (Nat.le_of_ble_eq_true rfl) rfl dX0_become_7 (fun H locs hC => ?_)
  refine lv_aload_n hx hb dX0_become_10 rfl (lv_at hl 0 rfl) ?_
  refine lv_aload_n hx hb dX0_become_11 rfl (lv_at hl 0 rfl) ?_
  refine lv_iload_n hx hb dX0_become_12 rfl (lv_at hl 2 rfl) ?_
  refine ss_ki (ss_rV (C := RX0) (As := [.int (x2)]) (rest := [.ref (L (1))]) F ((mX0_power l D A L wr cI cZ cS (u2 (u2 σ 1 0 x1) 1 1 x2) x2) _) gX0_become_X0_power rfl ⟨rfl, rfl⟩ ⟨rfl, dvX0_power⟩ ⟨Nat.le_of_ble_eq_true rfl, Nat.le_of_ble_eq_true rfl⟩ (ss_preV F.2.2.2.2.1 F.2.2.2.2.2 hC (ss_rec (C := RX0) (T := TX0) (N := 3) (ci := 0) F.2.2.2.2.1 hC (1) (Nat.le_of_ble_eq_true rfl) rfl rfl) hw) rfl hl.1 rfl (Nat.le_of_ble_eq_true rfl) dX0_become_13 ⟨Nat.zero_le _, Nat.zero_le _⟩) hC (fun r2 σ1 H locs hC hw => ?_)
  refine ss_put (C := RX0) (T := TX0) (N := 3) (ci := 0) F hC (1) tyX0 tyX0_ok nmX0 u_X0 (Nat.le_of_ble_eq_true rfl) rfl rfl 2 (by decide) f_24 rfl (by decide +kernel) (Nat.le_of_ble_eq_true rfl) rfl dX0_become_16 (fun H locs hC => ?_)
  exact ss_vret F hC hw dX0_become_19

theorem mX0_become (l : Launch) (D : va_G) (A : Nat → Prop) (L : Nat → Nat) (wr : va_W) (cI cZ cS : ClassId) (σ : ss_S) (x1 : Int32) (x2 : Int32)  : ss_MV l yX0_become wsX0_become rmX0_become (ss_EC D A L wr cI cZ cS) [.ref (L (1)), .int (x1), .int (x2)] σ (fun post => wX0_become x1 x2 σ post) :=
  ss_MV.of (cc := cX0_become) (nL := 3) (ret := none) (own := RX0) (by decide) rfl rfl (Nat.le_of_ble_eq_true rfl) (fun post p e R s m below meth c H locs ls F hC hl hw => bX0_become F  σ H locs ls hC hl hw)

set_option maxHeartbeats 4000000 in
set_option maxRecDepth 100000 in
theorem bX0_isVector {x1 : Int32} {post : Int32 → ss_S → Prop} (F : ss_F p R s m args meth c (ss_EC D A L wr cI cZ cS) cX0_isVector 2 wsX0_isVector RX0 (some .boolean) rmX0_isVector)  : ∀ (σ : ss_S) (H : Heap) (locs : List Loc) (ls : Array Slot), ss_C (ss_EC D A L wr cI cZ cS) σ s H locs → lv_has ls 2 [(0, .ref (L (1))), (1, .int (x1))] → wX0_isVector x1 σ post → W p l e R s m args below meth c H locs 0 0 (MQ below (va_Qi post (ss_B (ss_EC D A L wr cI cZ cS)) A) args s 0 0 A) (F0 m 0 ls []) := by
  have hx := F.1.1
  have hb := F.1.2.1
  have u_X0 : ∀ w ∈ u_ws RX0 TX0 3, w ∈ wsX0_isVector := by decide +kernel
  have f_24 : (Cond.fieldLink RX0 24 "SmallSpaces$Frame" "vectors" "I").before args s = true := F.1.2.2.2.2 _ (by decide +kernel)
  intro σ H locs ls hC hl hw
  unfold wX0_isVector at hw
  refine lv_iload_n hx hb dX0_isVector_0 rfl (lv_at hl 1 rfl) ?_
  refine lv_if_lt (tgt := 16) hx hb dX0_isVector_1 (by decide) (fun hc => ?_) (fun hc => ?_)
  · replace hw := hw.1 hc
    refine lv_iconst (v := 0) hx hb dX0_isVector_16 (by decide) ?_
    exact ss_zret F hC rfl hw dX0_isVector_17
  · replace hw := hw.2 hc
    refine lv_iload_n hx hb dX0_isVector_4 rfl (lv_at hl 1 rfl) ?_
    refine lv_aload_n hx hb dX0_isVector_5 rfl (lv_at hl 0 rfl) ?_
    refine ss_get (C := RX0) (T := TX0) (N := 3) (ci := 0) (v := .int (σ 1 2)) F hC (1) u_X0 (Nat.le_of_ble_eq_true rfl) rfl rfl 2 (by decide) f_24 rfl dX0_isVector_6 ?_
    refine lv_icmp_ge (tgt := 16) hx hb dX0_isVector_9 (by decide) (fun hc => ?_) (fun hc => ?_)
    · replace hw := hw.1 hc
      refine lv_iconst (v := 0) hx hb dX0_isVector_16 (by decide) ?_
      exact ss_zret F hC rfl hw dX0_isVector_17
    · replace hw := hw.2 hc
      refine lv_iconst (v := 1) hx hb dX0_isVector_12 (by decide) ?_
      refine lv_goto (tgt := 17) hx hb dX0_isVector_13 (by decide) ?_
      exact ss_zret F hC rfl hw dX0_isVector_17

theorem mX0_isVector (l : Launch) (D : va_G) (A : Nat → Prop) (L : Nat → Nat) (wr : va_W) (cI cZ cS : ClassId) (σ : ss_S) (x1 : Int32)  : ss_MI l yX0_isVector wsX0_isVector rmX0_isVector (ss_EC D A L wr cI cZ cS) [.ref (L (1)), .int (x1)] σ (fun post => wX0_isVector x1 σ post) :=
  ss_MI.of (cc := cX0_isVector) (nL := 2) (ret := (some .boolean)) (own := RX0) (by decide) rfl rfl (Nat.le_of_ble_eq_true rfl) (fun post p e R s m below meth c H locs ls F hC hl hw => bX0_isVector F  σ H locs ls hC hl hw)

set_option maxHeartbeats 4000000 in
set_option maxRecDepth 100000 in
theorem tX0_sum_15 {x3 : Int32} {post : Int32 → ss_S → Prop} (F : ss_F p R s m args meth c (ss_EC D A L wr cI cZ cS) cX0_sum 9 wsX0_sum RX0 (some .int) rmX0_sum)  (k87 : Int32 → Int32 → Int32 → Int32 → Int32 → ss_S → Prop) : ∀ (n : Nat) (x4 : Int32) (x5 : Int32) (x6 : Int32) (x7 : Int32) (x8 : Int32) (σ : ss_S) (H : Heap) (locs : List Loc) (ls : Array Slot), ss_C (ss_EC D A L wr cI cZ cS) σ s H locs → lv_has ls 9 [(0, .ref (L (1))), (3, .int (x3)), (4, .int (x4)), (5, .int (x5)), (6, .int (x6)), (7, .int (x7)), (8, .int (x8))] → lX0_sum_15 x3 post k87 n x4 x5 x6 x7 x8 σ →
    (∀ (x4 : Int32) (x5 : Int32) (x6 : Int32) (x7 : Int32) (x8 : Int32) (σ : ss_S) (H : Heap) (locs : List Loc) (ls : Array Slot), ss_C (ss_EC D A L wr cI cZ cS) σ s H locs → lv_has ls 9 [(4, .int (x4))] → k87 x4 x5 x6 x7 x8 σ → W p l e R s m args below meth c H locs 0 0 (MQ below (va_Qi post (ss_B (ss_EC D A L wr cI cZ cS)) A) args s 0 0 A) (F0 m 87 ls [])) →
    W p l e R s m args below meth c H locs 0 0 (MQ below (va_Qi post (ss_B (ss_EC D A L wr cI cZ cS)) A) args s 0 0 A) (F0 m 15 ls []) := by
  have hx := F.1.1
  have hb := F.1.2.1
  have u_X0 : ∀ w ∈ u_ws RX0 TX0 3, w ∈ wsX0_sum := by decide +kernel
  have f_17 : (Cond.fieldLink RX0 17 "SmallSpaces$Frame" "n" "I").before args s = true := F.1.2.2.2.2 _ (by decide +kernel)
  have f_13 : (Cond.fieldLink RX0 13 "SmallSpaces$Frame" "q" "I").before args s = true := F.1.2.2.2.2 _ (by decide +kernel)
  intro n
  induction n with
  | zero => intro x4 x5 x6 x7 x8 σ H locs ls hC hl hw; exact hw.elim
  | succ n ih =>
    intro x4 x5 x6 x7 x8 σ H locs ls hC hl hw hk87
    refine lv_iload hx hb dX0_sum_15 (lv_at hl 6 rfl) ?_
    refine lv_aload_n hx hb dX0_sum_17 rfl (lv_at hl 0 rfl) ?_
    refine ss_get (C := RX0) (T := TX0) (N := 3) (ci := 0) (v := .int (σ 1 1)) F hC (1) u_X0 (Nat.le_of_ble_eq_true rfl) rfl rfl 1 (by decide) f_17 rfl dX0_sum_18 ?_
    refine lv_icmp_ge (tgt := 87) hx hb dX0_sum_21 (by decide) (fun hc => ?_) (fun hc => ?_)
    · replace hw := hw.1 hc
      exact hk87 x4 x5 x6 x7 x8 σ _ _ _ hC (lv_sub hl [2] rfl) hw
    · replace hw := hw.2 hc
      refine lv_iload hx hb dX0_sum_24 (lv_at hl 2 rfl) ?_
      refine lv_iload hx hb dX0_sum_26 (lv_at hl 4 rfl) ?_
      refine lv_aload_n hx hb dX0_sum_28 rfl (lv_at hl 0 rfl) ?_
      refine ss_get (C := RX0) (T := TX0) (N := 3) (ci := 0) (v := .int (σ 1 0)) F hC (1) u_X0 (Nat.le_of_ble_eq_true rfl) rfl rfl 0 (by decide) f_13 rfl dX0_sum_29 ?_
      refine lv_irem hx hb dX0_sum_32 hw.1 ?_
      replace hw := hw.2
      refine lv_iload_n hx hb dX0_sum_33 rfl (lv_at hl 1 rfl) ?_
      refine lv_iload hx hb dX0_sum_34 (lv_at hl 5 rfl) ?_
      refine lv_aload_n hx hb dX0_sum_36 rfl (lv_at hl 0 rfl) ?_
      refine ss_get (C := RX0) (T := TX0) (N := 3) (ci := 0) (v := .int (σ 1 0)) F hC (1) u_X0 (Nat.le_of_ble_eq_true rfl) rfl rfl 0 (by decide) f_13 rfl dX0_sum_37 ?_
      refine lv_irem hx hb dX0_sum_40 hw.1 ?_
      replace hw := hw.2
      refine lv_imul hx hb dX0_sum_41 ?_
      refine lv_iadd hx hb dX0_sum_42 ?_
      refine lv_aload_n hx hb dX0_sum_43 rfl (lv_at hl 0 rfl) ?_
      refine ss_get (C := RX0) (T := TX0) (N := 3) (ci := 0) (v := .int (σ 1 0)) F hC (1) u_X0 (Nat.le_of_ble_eq_true rfl) rfl rfl 0 (by decide) f_13 rfl dX0_sum_44 ?_
      refine lv_irem hx hb dX0_sum_47 hw.1 ?_
      replace hw := hw.2
      refine lv_iload hx hb dX0_sum_48 (lv_at hl 3 rfl) ?_
      refine lv_imul hx hb dX0_sum_50 ?_
      refine lv_iadd hx hb dX0_sum_51 ?_
      refine lv_topi (fun z1 ez1 => ?_)
      replace hw := hw z1 ez1
      refine lv_istore (lv' := [(4, .int (z1)), (0, .ref (L (1))), (3, .int (x3)), (5, .int (x5)), (6, .int (x6)), (7, .int (x7)), (8, .int (x8))]) hx hb dX0_sum_52 hl (by decide) rfl (fun ls hl => ?_)
      refine lv_iload hx hb dX0_sum_54 (lv_at hl 3 rfl) ?_
      refine lv_aload_n hx hb dX0_sum_56 rfl (lv_at hl 1 rfl) ?_
      refine ss_get (C := RX0) (T := TX0) (N := 3) (ci := 0) (v := .int (σ 1 0)) F hC (1) u_X0 (Nat.le_of_ble_eq_true rfl) rfl rfl 0 (by decide) f_13 rfl dX0_sum_57 ?_
      refine lv_imul hx hb dX0_sum_60 ?_
      refine lv_istore (lv' := [(5, .int (x5 * (σ 1 0))), (4, .int (z1)), (0, .ref (L (1))), (3, .int (x3)), (6, .int (x6)), (7, .int (x7)), (8, .int (x8))]) hx hb dX0_sum_61 hl (by decide) rfl (fun ls hl => ?_)
      refine lv_iload hx hb dX0_sum_63 (lv_at hl 4 rfl) ?_
      refine lv_aload_n hx hb dX0_sum_65 rfl (lv_at hl 2 rfl) ?_
      refine ss_get (C := RX0) (T := TX0) (N := 3) (ci := 0) (v := .int (σ 1 0)) F hC (1) u_X0 (Nat.le_of_ble_eq_true rfl) rfl rfl 0 (by decide) f_13 rfl dX0_sum_66 ?_
      refine lv_idiv hx hb dX0_sum_69 hw.1 ?_
      replace hw := hw.2
      refine lv_istore (lv' := [(6, .int (x6 / (σ 1 0))), (5, .int (x5 * (σ 1 0))), (4, .int (z1)), (0, .ref (L (1))), (3, .int (x3)), (7, .int (x7)), (8, .int (x8))]) hx hb dX0_sum_70 hl (by decide) rfl (fun ls hl => ?_)
      refine lv_iload hx hb dX0_sum_72 (lv_at hl 5 rfl) ?_
      refine lv_aload_n hx hb dX0_sum_74 rfl (lv_at hl 3 rfl) ?_
      refine ss_get (C := RX0) (T := TX0) (N := 3) (ci := 0) (v := .int (σ 1 0)) F hC (1) u_X0 (Nat.le_of_ble_eq_true rfl) rfl rfl 0 (by decide) f_13 rfl dX0_sum_75 ?_
      refine lv_idiv hx hb dX0_sum_78 hw.1 ?_
      replace hw := hw.2
      refine lv_istore (lv' := [(7, .int (x7 / (σ 1 0))), (6, .int (x6 / (σ 1 0))), (5, .int (x5 * (σ 1 0))), (4, .int (z1)), (0, .ref (L (1))), (3, .int (x3)), (8, .int (x8))]) hx hb dX0_sum_79 hl (by decide) rfl (fun ls hl => ?_)
      refine lv_iinc (v := x8 + 1) (lv' := [(8, .int (x8 + 1)), (7, .int (x7 / (σ 1 0))), (6, .int (x6 / (σ 1 0))), (5, .int (x5 * (σ 1 0))), (4, .int (z1)), (0, .ref (L (1))), (3, .int (x3))]) hx hb dX0_sum_81 hl (k := 6) rfl rfl (by decide) rfl (fun ls hl => ?_)
      refine lv_goto (tgt := 15) hx hb dX0_sum_84 (by decide) ?_
      exact ih z1 (x5 * (σ 1 0)) (x6 / (σ 1 0)) (x7 / (σ 1 0)) (x8 + 1) σ _ _ _ hC (lv_sub hl [5, 6, 4, 3, 2, 1, 0] rfl) hw hk87

set_option maxHeartbeats 4000000 in
set_option maxRecDepth 100000 in
theorem bX0_sum {x1 : Int32} {x2 : Int32} {x3 : Int32} {post : Int32 → ss_S → Prop} (F : ss_F p R s m args meth c (ss_EC D A L wr cI cZ cS) cX0_sum 9 wsX0_sum RX0 (some .int) rmX0_sum)  : ∀ (σ : ss_S) (H : Heap) (locs : List Loc) (ls : Array Slot), ss_C (ss_EC D A L wr cI cZ cS) σ s H locs → lv_has ls 9 [(0, .ref (L (1))), (1, .int (x1)), (2, .int (x2)), (3, .int (x3))] → wX0_sum x1 x2 x3 σ post → W p l e R s m args below meth c H locs 0 0 (MQ below (va_Qi post (ss_B (ss_EC D A L wr cI cZ cS)) A) args s 0 0 A) (F0 m 0 ls []) := by
  have hx := F.1.1
  have hb := F.1.2.1
  intro σ H locs ls hC hl hw
  unfold wX0_sum at hw
  refine lv_iconst (v := 0) hx hb dX0_sum_0 (by decide) ?_
  refine lv_istore (lv' := [(4, .int (0)), (0, .ref (L (1))), (1, .int (x1)), (2, .int (x2)), (3, .int (x3))]) hx hb dX0_sum_1 hl (by decide) rfl (fun ls hl => ?_)
  refine lv_iconst (v := 1) hx hb dX0_sum_3 (by decide) ?_
  refine lv_istore (lv' := [(5, .int (1)), (4, .int (0)), (0, .ref (L (1))), (1, .int (x1)), (2, .int (x2)), (3, .int (x3))]) hx hb dX0_sum_4 hl (by decide) rfl (fun ls hl => ?_)
  refine lv_iload_n hx hb dX0_sum_6 rfl (lv_at hl 3 rfl) ?_
  refine lv_istore (lv' := [(6, .int (x1)), (5, .int (1)), (4, .int (0)), (0, .ref (L (1))), (1, .int (x1)), (2, .int (x2)), (3, .int (x3))]) hx hb dX0_sum_7 hl (by decide) rfl (fun ls hl => ?_)
  refine lv_iload_n hx hb dX0_sum_9 rfl (lv_at hl 5 rfl) ?_
  refine lv_istore (lv' := [(7, .int (x2)), (6, .int (x1)), (5, .int (1)), (4, .int (0)), (0, .ref (L (1))), (1, .int (x1)), (2, .int (x2)), (3, .int (x3))]) hx hb dX0_sum_10 hl (by decide) rfl (fun ls hl => ?_)
  refine lv_iconst (v := 0) hx hb dX0_sum_12 (by decide) ?_
  refine lv_istore (lv' := [(8, .int (0)), (7, .int (x2)), (6, .int (x1)), (5, .int (1)), (4, .int (0)), (0, .ref (L (1))), (1, .int (x1)), (2, .int (x2)), (3, .int (x3))]) hx hb dX0_sum_13 hl (by decide) rfl (fun ls hl => ?_)
  obtain ⟨n_, hw⟩ := hw
  refine tX0_sum_15 F  _ n_ 0 1 x1 x2 0 σ _ _ _ hC (lv_sub hl [5, 8, 4, 3, 2, 1, 0] rfl) hw ?_
  · intro x4_2 x5_2 x6_2 x7_2 x8_2 σ_2 H locs ls hC hl hw
    refine lv_iload hx hb dX0_sum_87 (lv_at hl 0 rfl) ?_
    exact ss_iret F hC hw dX0_sum_89

theorem mX0_sum (l : Launch) (D : va_G) (A : Nat → Prop) (L : Nat → Nat) (wr : va_W) (cI cZ cS : ClassId) (σ : ss_S) (x1 : Int32) (x2 : Int32) (x3 : Int32)  : ss_MI l yX0_sum wsX0_sum rmX0_sum (ss_EC D A L wr cI cZ cS) [.ref (L (1)), .int (x1), .int (x2), .int (x3)] σ (fun post => wX0_sum x1 x2 x3 σ post) :=
  ss_MI.of (cc := cX0_sum) (nL := 9) (ret := (some .int)) (own := RX0) (by decide) rfl rfl (Nat.le_of_ble_eq_true rfl) (fun post p e R s m below meth c H locs ls F hC hl hw => bX0_sum F  σ H locs ls hC hl hw)

set_option maxHeartbeats 4000000 in
set_option maxRecDepth 100000 in
theorem tX0_product_11  {post : Int32 → ss_S → Prop} (F : ss_F p R s m args meth c (ss_EC D A L wr cI cZ cS) cX0_product 7 wsX0_product RX0 (some .int) rmX0_product)  (k62 : Int32 → Int32 → Int32 → Int32 → ss_S → Prop) : ∀ (n : Nat) (x3 : Int32) (x4 : Int32) (x5 : Int32) (x6 : Int32) (σ : ss_S) (H : Heap) (locs : List Loc) (ls : Array Slot), ss_C (ss_EC D A L wr cI cZ cS) σ s H locs → lv_has ls 7 [(0, .ref (L (1))), (3, .int (x3)), (4, .int (x4)), (5, .int (x5)), (6, .int (x6))] → lX0_product_11 post k62 n x3 x4 x5 x6 σ →
    (∀ (x3 : Int32) (x4 : Int32) (x5 : Int32) (x6 : Int32) (σ : ss_S) (H : Heap) (locs : List Loc) (ls : Array Slot), ss_C (ss_EC D A L wr cI cZ cS) σ s H locs → lv_has ls 7 [(0, .ref (L (1))), (3, .int (x3))] → k62 x3 x4 x5 x6 σ → W p l e R s m args below meth c H locs 0 0 (MQ below (va_Qi post (ss_B (ss_EC D A L wr cI cZ cS)) A) args s 0 0 A) (F0 m 62 ls [])) →
    W p l e R s m args below meth c H locs 0 0 (MQ below (va_Qi post (ss_B (ss_EC D A L wr cI cZ cS)) A) args s 0 0 A) (F0 m 11 ls []) := by
  have hx := F.1.1
  have hb := F.1.2.1
  have u_X0 : ∀ w ∈ u_ws RX0 TX0 3, w ∈ wsX0_product := by decide +kernel
  have f_17 : (Cond.fieldLink RX0 17 "SmallSpaces$Frame" "n" "I").before args s = true := F.1.2.2.2.2 _ (by decide +kernel)
  have f_13 : (Cond.fieldLink RX0 13 "SmallSpaces$Frame" "q" "I").before args s = true := F.1.2.2.2.2 _ (by decide +kernel)
  intro n
  induction n with
  | zero => intro x3 x4 x5 x6 σ H locs ls hC hl hw; exact hw.elim
  | succ n ih =>
    intro x3 x4 x5 x6 σ H locs ls hC hl hw hk62
    refine lv_iload hx hb dX0_product_11 (lv_at hl 4 rfl) ?_
    refine lv_aload_n hx hb dX0_product_13 rfl (lv_at hl 0 rfl) ?_
    refine ss_get (C := RX0) (T := TX0) (N := 3) (ci := 0) (v := .int (σ 1 1)) F hC (1) u_X0 (Nat.le_of_ble_eq_true rfl) rfl rfl 1 (by decide) f_17 rfl dX0_product_14 ?_
    refine lv_icmp_ge (tgt := 62) hx hb dX0_product_17 (by decide) (fun hc => ?_) (fun hc => ?_)
    · replace hw := hw.1 hc
      exact hk62 x3 x4 x5 x6 σ _ _ _ hC (lv_sub hl [0, 1] rfl) hw
    · replace hw := hw.2 hc
      refine lv_iload_n hx hb dX0_product_20 rfl (lv_at hl 1 rfl) ?_
      refine lv_iload hx hb dX0_product_21 (lv_at hl 2 rfl) ?_
      refine lv_aload_n hx hb dX0_product_23 rfl (lv_at hl 0 rfl) ?_
      refine ss_get (C := RX0) (T := TX0) (N := 3) (ci := 0) (v := .int (σ 1 0)) F hC (1) u_X0 (Nat.le_of_ble_eq_true rfl) rfl rfl 0 (by decide) f_13 rfl dX0_product_24 ?_
      refine lv_irem hx hb dX0_product_27 hw.1 ?_
      replace hw := hw.2
      refine lv_iload hx hb dX0_product_28 (lv_at hl 3 rfl) ?_
      refine lv_aload_n hx hb dX0_product_30 rfl (lv_at hl 0 rfl) ?_
      refine ss_get (C := RX0) (T := TX0) (N := 3) (ci := 0) (v := .int (σ 1 0)) F hC (1) u_X0 (Nat.le_of_ble_eq_true rfl) rfl rfl 0 (by decide) f_13 rfl dX0_product_31 ?_
      refine lv_irem hx hb dX0_product_34 hw.1 ?_
      replace hw := hw.2
      refine lv_imul hx hb dX0_product_35 ?_
      refine lv_iadd hx hb dX0_product_36 ?_
      refine lv_istore_n (lv' := [(3, .int (x3 + ((x4 - x4 / (σ 1 0) * (σ 1 0)) * (x5 - x5 / (σ 1 0) * (σ 1 0))))), (0, .ref (L (1))), (4, .int (x4)), (5, .int (x5)), (6, .int (x6))]) hx hb dX0_product_37 rfl hl (by decide) rfl (fun ls hl => ?_)
      refine lv_iload hx hb dX0_product_38 (lv_at hl 2 rfl) ?_
      refine lv_aload_n hx hb dX0_product_40 rfl (lv_at hl 1 rfl) ?_
      refine ss_get (C := RX0) (T := TX0) (N := 3) (ci := 0) (v := .int (σ 1 0)) F hC (1) u_X0 (Nat.le_of_ble_eq_true rfl) rfl rfl 0 (by decide) f_13 rfl dX0_product_41 ?_
      refine lv_idiv hx hb dX0_product_44 hw.1 ?_
      replace hw := hw.2
      refine lv_istore (lv' := [(4, .int (x4 / (σ 1 0))), (3, .int (x3 + ((x4 - x4 / (σ 1 0) * (σ 1 0)) * (x5 - x5 / (σ 1 0) * (σ 1 0))))), (0, .ref (L (1))), (5, .int (x5)), (6, .int (x6))]) hx hb dX0_product_45 hl (by decide) rfl (fun ls hl => ?_)
      refine lv_iload hx hb dX0_product_47 (lv_at hl 3 rfl) ?_
      refine lv_aload_n hx hb dX0_product_49 rfl (lv_at hl 2 rfl) ?_
      refine ss_get (C := RX0) (T := TX0) (N := 3) (ci := 0) (v := .int (σ 1 0)) F hC (1) u_X0 (Nat.le_of_ble_eq_true rfl) rfl rfl 0 (by decide) f_13 rfl dX0_product_50 ?_
      refine lv_idiv hx hb dX0_product_53 hw.1 ?_
      replace hw := hw.2
      refine lv_istore (lv' := [(5, .int (x5 / (σ 1 0))), (4, .int (x4 / (σ 1 0))), (3, .int (x3 + ((x4 - x4 / (σ 1 0) * (σ 1 0)) * (x5 - x5 / (σ 1 0) * (σ 1 0))))), (0, .ref (L (1))), (6, .int (x6))]) hx hb dX0_product_54 hl (by decide) rfl (fun ls hl => ?_)
      refine lv_iinc (v := x6 + 1) (lv' := [(6, .int (x6 + 1)), (5, .int (x5 / (σ 1 0))), (4, .int (x4 / (σ 1 0))), (3, .int (x3 + ((x4 - x4 / (σ 1 0) * (σ 1 0)) * (x5 - x5 / (σ 1 0) * (σ 1 0))))), (0, .ref (L (1)))]) hx hb dX0_product_56 hl (k := 4) rfl rfl (by decide) rfl (fun ls hl => ?_)
      refine lv_goto (tgt := 11) hx hb dX0_product_59 (by decide) ?_
      exact ih (x3 + ((x4 - x4 / (σ 1 0) * (σ 1 0)) * (x5 - x5 / (σ 1 0) * (σ 1 0)))) (x4 / (σ 1 0)) (x5 / (σ 1 0)) (x6 + 1) σ _ _ _ hC (lv_sub hl [4, 3, 2, 1, 0] rfl) hw hk62

set_option maxHeartbeats 4000000 in
set_option maxRecDepth 100000 in
theorem bX0_product {x1 : Int32} {x2 : Int32} {post : Int32 → ss_S → Prop} (F : ss_F p R s m args meth c (ss_EC D A L wr cI cZ cS) cX0_product 7 wsX0_product RX0 (some .int) rmX0_product)  : ∀ (σ : ss_S) (H : Heap) (locs : List Loc) (ls : Array Slot), ss_C (ss_EC D A L wr cI cZ cS) σ s H locs → lv_has ls 7 [(0, .ref (L (1))), (1, .int (x1)), (2, .int (x2))] → wX0_product x1 x2 σ post → W p l e R s m args below meth c H locs 0 0 (MQ below (va_Qi post (ss_B (ss_EC D A L wr cI cZ cS)) A) args s 0 0 A) (F0 m 0 ls []) := by
  have hx := F.1.1
  have hb := F.1.2.1
  have u_X0 : ∀ w ∈ u_ws RX0 TX0 3, w ∈ wsX0_product := by decide +kernel
  have f_13 : (Cond.fieldLink RX0 13 "SmallSpaces$Frame" "q" "I").before args s = true := F.1.2.2.2.2 _ (by decide +kernel)
  intro σ H locs ls hC hl hw
  unfold wX0_product at hw
  refine lv_iconst (v := 0) hx hb dX0_product_0 (by decide) ?_
  refine lv_istore_n (lv' := [(3, .int (0)), (0, .ref (L (1))), (1, .int (x1)), (2, .int (x2))]) hx hb dX0_product_1 rfl hl (by decide) rfl (fun ls hl => ?_)
  refine lv_iload_n hx hb dX0_product_2 rfl (lv_at hl 2 rfl) ?_
  refine lv_istore (lv' := [(4, .int (x1)), (3, .int (0)), (0, .ref (L (1))), (1, .int (x1)), (2, .int (x2))]) hx hb dX0_product_3 hl (by decide) rfl (fun ls hl => ?_)
  refine lv_iload_n hx hb dX0_product_5 rfl (lv_at hl 4 rfl) ?_
  refine lv_istore (lv' := [(5, .int (x2)), (4, .int (x1)), (3, .int (0)), (0, .ref (L (1))), (1, .int (x1)), (2, .int (x2))]) hx hb dX0_product_6 hl (by decide) rfl (fun ls hl => ?_)
  refine lv_iconst (v := 0) hx hb dX0_product_8 (by decide) ?_
  refine lv_istore (lv' := [(6, .int (0)), (5, .int (x2)), (4, .int (x1)), (3, .int (0)), (0, .ref (L (1))), (1, .int (x1)), (2, .int (x2))]) hx hb dX0_product_9 hl (by decide) rfl (fun ls hl => ?_)
  obtain ⟨n_, hw⟩ := hw
  refine tX0_product_11 F  _ n_ 0 x1 x2 0 σ _ _ _ hC (lv_sub hl [4, 3, 2, 1, 0] rfl) hw ?_
  · intro x3_1 x4_1 x5_1 x6_1 σ_1 H locs ls hC hl hw
    refine lv_iload_n hx hb dX0_product_62 rfl (lv_at hl 1 rfl) ?_
    refine lv_aload_n hx hb dX0_product_63 rfl (lv_at hl 0 rfl) ?_
    refine ss_get (C := RX0) (T := TX0) (N := 3) (ci := 0) (v := .int (σ_1 1 0)) F hC (1) u_X0 (Nat.le_of_ble_eq_true rfl) rfl rfl 0 (by decide) f_13 rfl dX0_product_64 ?_
    refine lv_irem hx hb dX0_product_67 hw.1 ?_
    replace hw := hw.2
    exact ss_iret F hC hw dX0_product_68

theorem mX0_product (l : Launch) (D : va_G) (A : Nat → Prop) (L : Nat → Nat) (wr : va_W) (cI cZ cS : ClassId) (σ : ss_S) (x1 : Int32) (x2 : Int32)  : ss_MI l yX0_product wsX0_product rmX0_product (ss_EC D A L wr cI cZ cS) [.ref (L (1)), .int (x1), .int (x2)] σ (fun post => wX0_product x1 x2 σ post) :=
  ss_MI.of (cc := cX0_product) (nL := 7) (ret := (some .int)) (own := RX0) (by decide) rfl rfl (Nat.le_of_ble_eq_true rfl) (fun post p e R s m below meth c H locs ls F hC hl hw => bX0_product F  σ H locs ls hC hl hw)

set_option maxHeartbeats 4000000 in
set_option maxRecDepth 100000 in
theorem tX0_spell_11 {s2 : Nat} {x3 : Int32} {post : ss_S → Prop} (F : ss_F p R s m args meth c (ss_EC D A L wr cI cZ cS) cX0_spell 6 wsX0_spell RX0 none rmX0_spell) (h2 : isAr s2) (k44 : Int32 → Int32 → ss_S → Prop) : ∀ (n : Nat) (x4 : Int32) (x5 : Int32) (σ : ss_S) (H : Heap) (locs : List Loc) (ls : Array Slot), ss_C (ss_EC D A L wr cI cZ cS) σ s H locs → lv_has ls 6 [(0, .ref (L (1))), (2, .ref (L (s2))), (3, .int (x3)), (4, .int (x4)), (5, .int (x5))] → lX0_spell_11 s2 x3 post k44 n x4 x5 σ →
    (∀ (x4 : Int32) (x5 : Int32) (σ : ss_S) (H : Heap) (locs : List Loc) (ls : Array Slot), ss_C (ss_EC D A L wr cI cZ cS) σ s H locs → lv_has ls 6 [] → k44 x4 x5 σ → W p l e R s m args below meth c H locs 0 0 (MQ below (va_Qv post (ss_B (ss_EC D A L wr cI cZ cS)) A) args s 0 0 A) (F0 m 44 ls [])) →
    W p l e R s m args below meth c H locs 0 0 (MQ below (va_Qv post (ss_B (ss_EC D A L wr cI cZ cS)) A) args s 0 0 A) (F0 m 11 ls []) := by
  have hx := F.1.1
  have hb := F.1.2.1
  have u_X0 : ∀ w ∈ u_ws RX0 TX0 3, w ∈ wsX0_spell := by decide +kernel
  have f_13 : (Cond.fieldLink RX0 13 "SmallSpaces$Frame" "q" "I").before args s = true := F.1.2.2.2.2 _ (by decide +kernel)
  intro n
  induction n with
  | zero => intro x4 x5 σ H locs ls hC hl hw; exact hw.elim
  | succ n ih =>
    intro x4 x5 σ H locs ls hC hl hw hk44
    refine lv_iload hx hb dX0_spell_11 (lv_at hl 4 rfl) ?_
    refine lv_if_lt (tgt := 44) hx hb dX0_spell_13 (by decide) (fun hc => ?_) (fun hc => ?_)
    · replace hw := hw.1 hc
      exact hk44 x4 x5 σ _ _ _ hC (lv_sub hl [] rfl) hw
    · replace hw := hw.2 hc
      refine lv_aload_n hx hb dX0_spell_16 rfl (lv_at hl 1 rfl) ?_
      refine lv_iload_n hx hb dX0_spell_17 rfl (lv_at hl 2 rfl) ?_
      refine lv_iload hx hb dX0_spell_18 (lv_at hl 4 rfl) ?_
      refine lv_iadd hx hb dX0_spell_20 ?_
      refine lv_iload hx hb dX0_spell_21 (lv_at hl 3 rfl) ?_
      refine lv_aload_n hx hb dX0_spell_23 rfl (lv_at hl 0 rfl) ?_
      refine ss_get (C := RX0) (T := TX0) (N := 3) (ci := 0) (v := .int (σ 1 0)) F hC (1) u_X0 (Nat.le_of_ble_eq_true rfl) rfl rfl 0 (by decide) f_13 rfl dX0_spell_24 ?_
      refine lv_irem hx hb dX0_spell_27 hw.1 ?_
      replace hw := hw.2
      refine ss_iast F hC (s2) 0 h2.lt (ceC_ar (L := L) (cI := cI) (cS := cS) h2) rfl hw.1 dX0_spell_28 (fun H locs hC => ?_)
      replace hw := hw.2
      refine lv_iload hx hb dX0_spell_29 (lv_at hl 3 rfl) ?_
      refine lv_aload_n hx hb dX0_spell_31 rfl (lv_at hl 0 rfl) ?_
      refine ss_get (C := RX0) (T := TX0) (N := 3) (ci := 0) (v := .int ((u2 σ s2 (Int32.toNatClampNeg (x3 + x5)) (x4 - x4 / (σ 1 0) * (σ 1 0))) 1 0)) F hC (1) u_X0 (Nat.le_of_ble_eq_true rfl) rfl rfl 0 (by decide) f_13 rfl dX0_spell_32 ?_
      refine lv_idiv hx hb dX0_spell_35 hw.1 ?_
      replace hw := hw.2
      refine lv_istore (lv' := [(4, .int (x4 / ((u2 σ s2 (Int32.toNatClampNeg (x3 + x5)) (x4 - x4 / (σ 1 0) * (σ 1 0))) 1 0))), (0, .ref (L (1))), (2, .ref (L (s2))), (3, .int (x3)), (5, .int (x5))]) hx hb dX0_spell_36 hl (by decide) rfl (fun ls hl => ?_)
      refine lv_iinc (v := x5 + (-1)) (lv' := [(5, .int (x5 + (-1))), (4, .int (x4 / ((u2 σ s2 (Int32.toNatClampNeg (x3 + x5)) (x4 - x4 / (σ 1 0) * (σ 1 0))) 1 0))), (0, .ref (L (1))), (2, .ref (L (s2))), (3, .int (x3))]) hx hb dX0_spell_38 hl (k := 4) rfl rfl (by decide) rfl (fun ls hl => ?_)
      refine lv_goto (tgt := 11) hx hb dX0_spell_41 (by decide) ?_
      exact ih (x4 / ((u2 σ s2 (Int32.toNatClampNeg (x3 + x5)) (x4 - x4 / (σ 1 0) * (σ 1 0))) 1 0)) (x5 + (-1)) (u2 σ s2 (Int32.toNatClampNeg (x3 + x5)) (x4 - x4 / (σ 1 0) * (σ 1 0))) _ _ _ hC (lv_sub hl [2, 3, 4, 1, 0] rfl) hw hk44

set_option maxHeartbeats 4000000 in
set_option maxRecDepth 100000 in
theorem bX0_spell {x1 : Int32} {s2 : Nat} {x3 : Int32} {post : ss_S → Prop} (F : ss_F p R s m args meth c (ss_EC D A L wr cI cZ cS) cX0_spell 6 wsX0_spell RX0 none rmX0_spell) (h2 : isAr s2) : ∀ (σ : ss_S) (H : Heap) (locs : List Loc) (ls : Array Slot), ss_C (ss_EC D A L wr cI cZ cS) σ s H locs → lv_has ls 6 [(0, .ref (L (1))), (1, .int (x1)), (2, .ref (L (s2))), (3, .int (x3))] → wX0_spell x1 s2 x3 σ post → W p l e R s m args below meth c H locs 0 0 (MQ below (va_Qv post (ss_B (ss_EC D A L wr cI cZ cS)) A) args s 0 0 A) (F0 m 0 ls []) := by
  have hx := F.1.1
  have hb := F.1.2.1
  have u_X0 : ∀ w ∈ u_ws RX0 TX0 3, w ∈ wsX0_spell := by decide +kernel
  have f_17 : (Cond.fieldLink RX0 17 "SmallSpaces$Frame" "n" "I").before args s = true := F.1.2.2.2.2 _ (by decide +kernel)
  intro σ H locs ls hC hl hw
  unfold wX0_spell at hw
  refine lv_iload_n hx hb dX0_spell_0 rfl (lv_at hl 1 rfl) ?_
  refine lv_istore (lv' := [(4, .int (x1)), (0, .ref (L (1))), (1, .int (x1)), (2, .ref (L (s2))), (3, .int (x3))]) hx hb dX0_spell_1 hl (by decide) rfl (fun ls hl => ?_)
  refine lv_aload_n hx hb dX0_spell_3 rfl (lv_at hl 1 rfl) ?_
  refine ss_get (C := RX0) (T := TX0) (N := 3) (ci := 0) (v := .int (σ 1 1)) F hC (1) u_X0 (Nat.le_of_ble_eq_true rfl) rfl rfl 1 (by decide) f_17 rfl dX0_spell_4 ?_
  refine lv_iconst (v := 1) hx hb dX0_spell_7 (by decide) ?_
  refine lv_isub hx hb dX0_spell_8 ?_
  refine lv_istore (lv' := [(5, .int ((σ 1 1) - 1)), (4, .int (x1)), (0, .ref (L (1))), (1, .int (x1)), (2, .ref (L (s2))), (3, .int (x3))]) hx hb dX0_spell_9 hl (by decide) rfl (fun ls hl => ?_)
  obtain ⟨n_, hw⟩ := hw
  refine tX0_spell_11 F h2 _ n_ x1 ((σ 1 1) - 1) σ _ _ _ hC (lv_sub hl [2, 4, 5, 1, 0] rfl) hw ?_
  · intro x4_1 x5_1 σ_1 H locs ls hC hl hw
    exact ss_vret F hC hw dX0_spell_44

theorem mX0_spell (l : Launch) (D : va_G) (A : Nat → Prop) (L : Nat → Nat) (wr : va_W) (cI cZ cS : ClassId) (σ : ss_S) (x1 : Int32) (s2 : Nat) (x3 : Int32) (h2 : isAr s2) : ss_MV l yX0_spell wsX0_spell rmX0_spell (ss_EC D A L wr cI cZ cS) [.ref (L (1)), .int (x1), .ref (L (s2)), .int (x3)] σ (fun post => wX0_spell x1 s2 x3 σ post) :=
  ss_MV.of (cc := cX0_spell) (nL := 6) (ret := none) (own := RX0) (by decide) rfl rfl (Nat.le_of_ble_eq_true rfl) (fun post p e R s m below meth c H locs ls F hC hl hw => bX0_spell F h2 σ H locs ls hC hl hw)

set_option maxHeartbeats 4000000 in
set_option maxRecDepth 100000 in
theorem tX0_vectorNumber_5 {s1 : Nat} {x2 : Int32} {post : Int32 → ss_S → Prop} (F : ss_F p R s m args meth c (ss_EC D A L wr cI cZ cS) cX0_vectorNumber 5 wsX0_vectorNumber RX0 (some .int) rmX0_vectorNumber) (h1 : isAr s1) (k34 : Int32 → Int32 → ss_S → Prop) : ∀ (n : Nat) (x3 : Int32) (x4 : Int32) (σ : ss_S) (H : Heap) (locs : List Loc) (ls : Array Slot), ss_C (ss_EC D A L wr cI cZ cS) σ s H locs → lv_has ls 5 [(0, .ref (L (1))), (1, .ref (L (s1))), (2, .int (x2)), (3, .int (x3)), (4, .int (x4))] → lX0_vectorNumber_5 s1 x2 post k34 n x3 x4 σ →
    (∀ (x3 : Int32) (x4 : Int32) (σ : ss_S) (H : Heap) (locs : List Loc) (ls : Array Slot), ss_C (ss_EC D A L wr cI cZ cS) σ s H locs → lv_has ls 5 [(3, .int (x3))] → k34 x3 x4 σ → W p l e R s m args below meth c H locs 0 0 (MQ below (va_Qi post (ss_B (ss_EC D A L wr cI cZ cS)) A) args s 0 0 A) (F0 m 34 ls [])) →
    W p l e R s m args below meth c H locs 0 0 (MQ below (va_Qi post (ss_B (ss_EC D A L wr cI cZ cS)) A) args s 0 0 A) (F0 m 5 ls []) := by
  have hx := F.1.1
  have hb := F.1.2.1
  have u_X0 : ∀ w ∈ u_ws RX0 TX0 3, w ∈ wsX0_vectorNumber := by decide +kernel
  have f_17 : (Cond.fieldLink RX0 17 "SmallSpaces$Frame" "n" "I").before args s = true := F.1.2.2.2.2 _ (by decide +kernel)
  have f_13 : (Cond.fieldLink RX0 13 "SmallSpaces$Frame" "q" "I").before args s = true := F.1.2.2.2.2 _ (by decide +kernel)
  intro n
  induction n with
  | zero => intro x3 x4 σ H locs ls hC hl hw; exact hw.elim
  | succ n ih =>
    intro x3 x4 σ H locs ls hC hl hw hk34
    refine lv_iload hx hb dX0_vectorNumber_5 (lv_at hl 4 rfl) ?_
    refine lv_aload_n hx hb dX0_vectorNumber_7 rfl (lv_at hl 0 rfl) ?_
    refine ss_get (C := RX0) (T := TX0) (N := 3) (ci := 0) (v := .int (σ 1 1)) F hC (1) u_X0 (Nat.le_of_ble_eq_true rfl) rfl rfl 1 (by decide) f_17 rfl dX0_vectorNumber_8 ?_
    refine lv_icmp_ge (tgt := 34) hx hb dX0_vectorNumber_11 (by decide) (fun hc => ?_) (fun hc => ?_)
    · replace hw := hw.1 hc
      exact hk34 x3 x4 σ _ _ _ hC (lv_sub hl [3] rfl) hw
    · replace hw := hw.2 hc
      refine lv_iload_n hx hb dX0_vectorNumber_14 rfl (lv_at hl 3 rfl) ?_
      refine lv_aload_n hx hb dX0_vectorNumber_15 rfl (lv_at hl 0 rfl) ?_
      refine ss_get (C := RX0) (T := TX0) (N := 3) (ci := 0) (v := .int (σ 1 0)) F hC (1) u_X0 (Nat.le_of_ble_eq_true rfl) rfl rfl 0 (by decide) f_13 rfl dX0_vectorNumber_16 ?_
      refine lv_imul hx hb dX0_vectorNumber_19 ?_
      refine lv_aload_n hx hb dX0_vectorNumber_20 rfl (lv_at hl 1 rfl) ?_
      refine lv_iload_n hx hb dX0_vectorNumber_21 rfl (lv_at hl 2 rfl) ?_
      refine lv_iload hx hb dX0_vectorNumber_22 (lv_at hl 4 rfl) ?_
      refine lv_iadd hx hb dX0_vectorNumber_24 ?_
      refine ss_iald F hC (s1) 0 h1.lt (ceC_ar (L := L) (cI := cI) (cS := cS) h1) rfl hw.1 dX0_vectorNumber_25 ?_
      replace hw := hw.2
      refine lv_iadd hx hb dX0_vectorNumber_26 ?_
      refine lv_istore_n (lv' := [(3, .int ((x3 * (σ 1 0)) + (σ s1 (Int32.toNatClampNeg (x2 + x4))))), (0, .ref (L (1))), (1, .ref (L (s1))), (2, .int (x2)), (4, .int (x4))]) hx hb dX0_vectorNumber_27 rfl hl (by decide) rfl (fun ls hl => ?_)
      refine lv_iinc (v := x4 + 1) (lv' := [(4, .int (x4 + 1)), (3, .int ((x3 * (σ 1 0)) + (σ s1 (Int32.toNatClampNeg (x2 + x4))))), (0, .ref (L (1))), (1, .ref (L (s1))), (2, .int (x2))]) hx hb dX0_vectorNumber_28 hl (k := 4) rfl rfl (by decide) rfl (fun ls hl => ?_)
      refine lv_goto (tgt := 5) hx hb dX0_vectorNumber_31 (by decide) ?_
      exact ih ((x3 * (σ 1 0)) + (σ s1 (Int32.toNatClampNeg (x2 + x4)))) (x4 + 1) σ _ _ _ hC (lv_sub hl [2, 3, 4, 1, 0] rfl) hw hk34

set_option maxHeartbeats 4000000 in
set_option maxRecDepth 100000 in
theorem bX0_vectorNumber {s1 : Nat} {x2 : Int32} {post : Int32 → ss_S → Prop} (F : ss_F p R s m args meth c (ss_EC D A L wr cI cZ cS) cX0_vectorNumber 5 wsX0_vectorNumber RX0 (some .int) rmX0_vectorNumber) (h1 : isAr s1) : ∀ (σ : ss_S) (H : Heap) (locs : List Loc) (ls : Array Slot), ss_C (ss_EC D A L wr cI cZ cS) σ s H locs → lv_has ls 5 [(0, .ref (L (1))), (1, .ref (L (s1))), (2, .int (x2))] → wX0_vectorNumber s1 x2 σ post → W p l e R s m args below meth c H locs 0 0 (MQ below (va_Qi post (ss_B (ss_EC D A L wr cI cZ cS)) A) args s 0 0 A) (F0 m 0 ls []) := by
  have hx := F.1.1
  have hb := F.1.2.1
  intro σ H locs ls hC hl hw
  unfold wX0_vectorNumber at hw
  refine lv_iconst (v := 0) hx hb dX0_vectorNumber_0 (by decide) ?_
  refine lv_istore_n (lv' := [(3, .int (0)), (0, .ref (L (1))), (1, .ref (L (s1))), (2, .int (x2))]) hx hb dX0_vectorNumber_1 rfl hl (by decide) rfl (fun ls hl => ?_)
  refine lv_iconst (v := 0) hx hb dX0_vectorNumber_2 (by decide) ?_
  refine lv_istore (lv' := [(4, .int (0)), (3, .int (0)), (0, .ref (L (1))), (1, .ref (L (s1))), (2, .int (x2))]) hx hb dX0_vectorNumber_3 hl (by decide) rfl (fun ls hl => ?_)
  obtain ⟨n_, hw⟩ := hw
  refine tX0_vectorNumber_5 F h1 _ n_ 0 0 σ _ _ _ hC (lv_sub hl [2, 3, 4, 1, 0] rfl) hw ?_
  · intro x3_1 x4_1 σ_1 H locs ls hC hl hw
    refine lv_iload_n hx hb dX0_vectorNumber_34 rfl (lv_at hl 0 rfl) ?_
    exact ss_iret F hC hw dX0_vectorNumber_35

theorem mX0_vectorNumber (l : Launch) (D : va_G) (A : Nat → Prop) (L : Nat → Nat) (wr : va_W) (cI cZ cS : ClassId) (σ : ss_S) (s1 : Nat) (x2 : Int32) (h1 : isAr s1) : ss_MI l yX0_vectorNumber wsX0_vectorNumber rmX0_vectorNumber (ss_EC D A L wr cI cZ cS) [.ref (L (1)), .ref (L (s1)), .int (x2)] σ (fun post => wX0_vectorNumber s1 x2 σ post) :=
  ss_MI.of (cc := cX0_vectorNumber) (nL := 5) (ret := (some .int)) (own := RX0) (by decide) rfl rfl (Nat.le_of_ble_eq_true rfl) (fun post p e R s m below meth c H locs ls F hC hl hw => bX0_vectorNumber F h1 σ H locs ls hC hl hw)

set_option maxHeartbeats 4000000 in
set_option maxRecDepth 100000 in
theorem bX0_inverse {x1 : Int32} {post : Int32 → ss_S → Prop} (F : ss_F p R s m args meth c (ss_EC D A L wr cI cZ cS) cX0_inverse 2 wsX0_inverse RX0 (some .int) rmX0_inverse)  : ∀ (σ : ss_S) (H : Heap) (locs : List Loc) (ls : Array Slot), ss_C (ss_EC D A L wr cI cZ cS) σ s H locs → lv_has ls 2 [(0, .ref (L (1))), (1, .int (x1))] → wX0_inverse x1 σ post → W p l e R s m args below meth c H locs 0 0 (MQ below (va_Qi post (ss_B (ss_EC D A L wr cI cZ cS)) A) args s 0 0 A) (F0 m 0 ls []) := by
  have hx := F.1.1
  have hb := F.1.2.1
  have u_X0 : ∀ w ∈ u_ws RX0 TX0 3, w ∈ wsX0_inverse := by decide +kernel
  have f_13 : (Cond.fieldLink RX0 13 "SmallSpaces$Frame" "q" "I").before args s = true := F.1.2.2.2.2 _ (by decide +kernel)
  intro σ H locs ls hC hl hw
  unfold wX0_inverse at hw
  refine lv_iload_n hx hb dX0_inverse_0 rfl (lv_at hl 1 rfl) ?_
  refine lv_iload_n hx hb dX0_inverse_1 rfl (lv_at hl 1 rfl) ?_
  refine lv_imul hx hb dX0_inverse_2 ?_
  refine lv_iload_n hx hb dX0_inverse_3 rfl (lv_at hl 1 rfl) ?_
  refine lv_imul hx hb dX0_inverse_4 ?_
  refine lv_aload_n hx hb dX0_inverse_5 rfl (lv_at hl 0 rfl) ?_
  refine ss_get (C := RX0) (T := TX0) (N := 3) (ci := 0) (v := .int (σ 1 0)) F hC (1) u_X0 (Nat.le_of_ble_eq_true rfl) rfl rfl 0 (by decide) f_13 rfl dX0_inverse_6 ?_
  refine lv_irem hx hb dX0_inverse_9 hw.1 ?_
  replace hw := hw.2
  exact ss_iret F hC hw dX0_inverse_10

theorem mX0_inverse (l : Launch) (D : va_G) (A : Nat → Prop) (L : Nat → Nat) (wr : va_W) (cI cZ cS : ClassId) (σ : ss_S) (x1 : Int32)  : ss_MI l yX0_inverse wsX0_inverse rmX0_inverse (ss_EC D A L wr cI cZ cS) [.ref (L (1)), .int (x1)] σ (fun post => wX0_inverse x1 σ post) :=
  ss_MI.of (cc := cX0_inverse) (nL := 2) (ret := (some .int)) (own := RX0) (by decide) rfl rfl (Nat.le_of_ble_eq_true rfl) (fun post p e R s m below meth c H locs ls F hC hl hw => bX0_inverse F  σ H locs ls hC hl hw)

set_option maxHeartbeats 4000000 in
set_option maxRecDepth 100000 in
theorem tX0_addMultiple_3 {s1 : Nat} {x2 : Int32} {s3 : Nat} {x4 : Int32} {x5 : Int32} {post : ss_S → Prop} (F : ss_F p R s m args meth c (ss_EC D A L wr cI cZ cS) cX0_addMultiple 7 wsX0_addMultiple RX0 none rmX0_addMultiple) (h1 : isAr s1) (h3 : isAr s3) (k46 : Int32 → ss_S → Prop) : ∀ (n : Nat) (x6 : Int32) (σ : ss_S) (H : Heap) (locs : List Loc) (ls : Array Slot), ss_C (ss_EC D A L wr cI cZ cS) σ s H locs → lv_has ls 7 [(0, .ref (L (1))), (1, .ref (L (s1))), (2, .int (x2)), (3, .ref (L (s3))), (4, .int (x4)), (5, .int (x5)), (6, .int (x6))] → lX0_addMultiple_3 s1 x2 s3 x4 x5 post k46 n x6 σ →
    (∀ (x6 : Int32) (σ : ss_S) (H : Heap) (locs : List Loc) (ls : Array Slot), ss_C (ss_EC D A L wr cI cZ cS) σ s H locs → lv_has ls 7 [] → k46 x6 σ → W p l e R s m args below meth c H locs 0 0 (MQ below (va_Qv post (ss_B (ss_EC D A L wr cI cZ cS)) A) args s 0 0 A) (F0 m 46 ls [])) →
    W p l e R s m args below meth c H locs 0 0 (MQ below (va_Qv post (ss_B (ss_EC D A L wr cI cZ cS)) A) args s 0 0 A) (F0 m 3 ls []) := by
  have hx := F.1.1
  have hb := F.1.2.1
  have u_X0 : ∀ w ∈ u_ws RX0 TX0 3, w ∈ wsX0_addMultiple := by decide +kernel
  have f_17 : (Cond.fieldLink RX0 17 "SmallSpaces$Frame" "n" "I").before args s = true := F.1.2.2.2.2 _ (by decide +kernel)
  have f_13 : (Cond.fieldLink RX0 13 "SmallSpaces$Frame" "q" "I").before args s = true := F.1.2.2.2.2 _ (by decide +kernel)
  intro n
  induction n with
  | zero => intro x6 σ H locs ls hC hl hw; exact hw.elim
  | succ n ih =>
    intro x6 σ H locs ls hC hl hw hk46
    refine lv_iload hx hb dX0_addMultiple_3 (lv_at hl 6 rfl) ?_
    refine lv_aload_n hx hb dX0_addMultiple_5 rfl (lv_at hl 0 rfl) ?_
    refine ss_get (C := RX0) (T := TX0) (N := 3) (ci := 0) (v := .int (σ 1 1)) F hC (1) u_X0 (Nat.le_of_ble_eq_true rfl) rfl rfl 1 (by decide) f_17 rfl dX0_addMultiple_6 ?_
    refine lv_icmp_ge (tgt := 46) hx hb dX0_addMultiple_9 (by decide) (fun hc => ?_) (fun hc => ?_)
    · replace hw := hw.1 hc
      exact hk46 x6 σ _ _ _ hC (lv_sub hl [] rfl) hw
    · replace hw := hw.2 hc
      refine lv_aload_n hx hb dX0_addMultiple_12 rfl (lv_at hl 1 rfl) ?_
      refine lv_iload_n hx hb dX0_addMultiple_13 rfl (lv_at hl 2 rfl) ?_
      refine lv_iload hx hb dX0_addMultiple_14 (lv_at hl 6 rfl) ?_
      refine lv_iadd hx hb dX0_addMultiple_16 ?_
      refine lv_aload_n hx hb dX0_addMultiple_17 rfl (lv_at hl 1 rfl) ?_
      refine lv_iload_n hx hb dX0_addMultiple_18 rfl (lv_at hl 2 rfl) ?_
      refine lv_iload hx hb dX0_addMultiple_19 (lv_at hl 6 rfl) ?_
      refine lv_iadd hx hb dX0_addMultiple_21 ?_
      refine ss_iald F hC (s1) 0 h1.lt (ceC_ar (L := L) (cI := cI) (cS := cS) h1) rfl hw.1 dX0_addMultiple_22 ?_
      replace hw := hw.2
      refine lv_iload hx hb dX0_addMultiple_23 (lv_at hl 5 rfl) ?_
      refine lv_aload_n hx hb dX0_addMultiple_25 rfl (lv_at hl 3 rfl) ?_
      refine lv_iload hx hb dX0_addMultiple_26 (lv_at hl 4 rfl) ?_
      refine lv_iload hx hb dX0_addMultiple_28 (lv_at hl 6 rfl) ?_
      refine lv_iadd hx hb dX0_addMultiple_30 ?_
      refine ss_iald F hC (s3) 0 h3.lt (ceC_ar (L := L) (cI := cI) (cS := cS) h3) rfl hw.1 dX0_addMultiple_31 ?_
      replace hw := hw.2
      refine lv_imul hx hb dX0_addMultiple_32 ?_
      refine lv_iadd hx hb dX0_addMultiple_33 ?_
      refine lv_aload_n hx hb dX0_addMultiple_34 rfl (lv_at hl 0 rfl) ?_
      refine ss_get (C := RX0) (T := TX0) (N := 3) (ci := 0) (v := .int (σ 1 0)) F hC (1) u_X0 (Nat.le_of_ble_eq_true rfl) rfl rfl 0 (by decide) f_13 rfl dX0_addMultiple_35 ?_
      refine lv_irem hx hb dX0_addMultiple_38 hw.1 ?_
      replace hw := hw.2
      refine ss_iast F hC (s1) 0 h1.lt (ceC_ar (L := L) (cI := cI) (cS := cS) h1) rfl hw.1 dX0_addMultiple_39 (fun H locs hC => ?_)
      replace hw := hw.2
      refine lv_iinc (v := x6 + 1) (lv' := [(6, .int (x6 + 1)), (0, .ref (L (1))), (1, .ref (L (s1))), (2, .int (x2)), (3, .ref (L (s3))), (4, .int (x4)), (5, .int (x5))]) hx hb dX0_addMultiple_40 hl (k := 6) rfl rfl (by decide) rfl (fun ls hl => ?_)
      refine lv_goto (tgt := 3) hx hb dX0_addMultiple_43 (by decide) ?_
      exact ih (x6 + 1) (u2 σ s1 (Int32.toNatClampNeg (x2 + x6)) (((σ s1 (Int32.toNatClampNeg (x2 + x6))) + (x5 * (σ s3 (Int32.toNatClampNeg (x4 + x6))))) - ((σ s1 (Int32.toNatClampNeg (x2 + x6))) + (x5 * (σ s3 (Int32.toNatClampNeg (x4 + x6))))) / (σ 1 0) * (σ 1 0))) _ _ _ hC (lv_sub hl [1, 2, 3, 4, 5, 6, 0] rfl) hw hk46

set_option maxHeartbeats 4000000 in
set_option maxRecDepth 100000 in
theorem bX0_addMultiple {s1 : Nat} {x2 : Int32} {s3 : Nat} {x4 : Int32} {x5 : Int32} {post : ss_S → Prop} (F : ss_F p R s m args meth c (ss_EC D A L wr cI cZ cS) cX0_addMultiple 7 wsX0_addMultiple RX0 none rmX0_addMultiple) (h1 : isAr s1) (h3 : isAr s3) : ∀ (σ : ss_S) (H : Heap) (locs : List Loc) (ls : Array Slot), ss_C (ss_EC D A L wr cI cZ cS) σ s H locs → lv_has ls 7 [(0, .ref (L (1))), (1, .ref (L (s1))), (2, .int (x2)), (3, .ref (L (s3))), (4, .int (x4)), (5, .int (x5))] → wX0_addMultiple s1 x2 s3 x4 x5 σ post → W p l e R s m args below meth c H locs 0 0 (MQ below (va_Qv post (ss_B (ss_EC D A L wr cI cZ cS)) A) args s 0 0 A) (F0 m 0 ls []) := by
  have hx := F.1.1
  have hb := F.1.2.1
  intro σ H locs ls hC hl hw
  unfold wX0_addMultiple at hw
  refine lv_iconst (v := 0) hx hb dX0_addMultiple_0 (by decide) ?_
  refine lv_istore (lv' := [(6, .int (0)), (0, .ref (L (1))), (1, .ref (L (s1))), (2, .int (x2)), (3, .ref (L (s3))), (4, .int (x4)), (5, .int (x5))]) hx hb dX0_addMultiple_1 hl (by decide) rfl (fun ls hl => ?_)
  obtain ⟨n_, hw⟩ := hw
  refine tX0_addMultiple_3 F h1 h3 _ n_ 0 σ _ _ _ hC (lv_sub hl [1, 2, 3, 4, 5, 6, 0] rfl) hw ?_
  · intro x6_1 σ_1 H locs ls hC hl hw
    exact ss_vret F hC hw dX0_addMultiple_46

theorem mX0_addMultiple (l : Launch) (D : va_G) (A : Nat → Prop) (L : Nat → Nat) (wr : va_W) (cI cZ cS : ClassId) (σ : ss_S) (s1 : Nat) (x2 : Int32) (s3 : Nat) (x4 : Int32) (x5 : Int32) (h1 : isAr s1) (h3 : isAr s3) : ss_MV l yX0_addMultiple wsX0_addMultiple rmX0_addMultiple (ss_EC D A L wr cI cZ cS) [.ref (L (1)), .ref (L (s1)), .int (x2), .ref (L (s3)), .int (x4), .int (x5)] σ (fun post => wX0_addMultiple s1 x2 s3 x4 x5 σ post) :=
  ss_MV.of (cc := cX0_addMultiple) (nL := 7) (ret := none) (own := RX0) (by decide) rfl rfl (Nat.le_of_ble_eq_true rfl) (fun post p e R s m below meth c H locs ls F hC hl hw => bX0_addMultiple F h1 h3 σ H locs ls hC hl hw)

set_option maxHeartbeats 4000000 in
set_option maxRecDepth 100000 in
theorem tX0_spaces_16 {x1 : Int32} {x2 : Int32} {post : Int32 → ss_S → Prop} (F : ss_F p R s m args meth c (ss_EC D A L wr cI cZ cS) cX0_spaces 5 wsX0_spaces RX0 (some .int) rmX0_spaces)  (k52 : Int32 → Int32 → ss_S → Prop) : ∀ (n : Nat) (x3 : Int32) (x4 : Int32) (σ : ss_S) (H : Heap) (locs : List Loc) (ls : Array Slot), ss_C (ss_EC D A L wr cI cZ cS) σ s H locs → lv_has ls 5 [(0, .ref (L (1))), (1, .int (x1)), (2, .int (x2)), (3, .int (x3)), (4, .int (x4))] → lX0_spaces_16 x1 x2 post k52 n x3 x4 σ →
    (∀ (x3 : Int32) (x4 : Int32) (σ : ss_S) (H : Heap) (locs : List Loc) (ls : Array Slot), ss_C (ss_EC D A L wr cI cZ cS) σ s H locs → lv_has ls 5 [(3, .int (x3))] → k52 x3 x4 σ → W p l e R s m args below meth c H locs 0 0 (MQ below (va_Qi post (ss_B (ss_EC D A L wr cI cZ cS)) A) args s 0 0 A) (F0 m 52 ls [])) →
    W p l e R s m args below meth c H locs 0 0 (MQ below (va_Qi post (ss_B (ss_EC D A L wr cI cZ cS)) A) args s 0 0 A) (F0 m 16 ls []) := by
  have hx := F.1.1
  have hb := F.1.2.1
  intro n
  induction n with
  | zero => intro x3 x4 σ H locs ls hC hl hw; exact hw.elim
  | succ n ih =>
    intro x3 x4 σ H locs ls hC hl hw hk52
    refine lv_iload hx hb dX0_spaces_16 (lv_at hl 4 rfl) ?_
    refine lv_iload_n hx hb dX0_spaces_18 rfl (lv_at hl 2 rfl) ?_
    refine lv_icmp_ge (tgt := 52) hx hb dX0_spaces_19 (by decide) (fun hc => ?_) (fun hc => ?_)
    · replace hw := hw.1 hc
      exact hk52 x3 x4 σ _ _ _ hC (lv_sub hl [3] rfl) hw
    · replace hw := hw.2 hc
      refine lv_iload_n hx hb dX0_spaces_22 rfl (lv_at hl 3 rfl) ?_
      refine lv_aload_n hx hb dX0_spaces_23 rfl (lv_at hl 0 rfl) ?_
      refine lv_iload_n hx hb dX0_spaces_24 rfl (lv_at hl 1 rfl) ?_
      refine lv_iload hx hb dX0_spaces_25 (lv_at hl 4 rfl) ?_
      refine lv_isub hx hb dX0_spaces_27 ?_
      refine ss_ki (ss_rV (C := RX0) (As := [.int (x1 - x4)]) (rest := [.int (x3)]) F ((mX0_power l D A L wr cI cZ cS σ (x1 - x4)) _) gX0_spaces_X0_power rfl ⟨rfl, rfl⟩ ⟨rfl, dvX0_power⟩ ⟨Nat.le_of_ble_eq_true rfl, Nat.le_of_ble_eq_true rfl⟩ (ss_preV F.2.2.2.2.1 F.2.2.2.2.2 hC (ss_rec (C := RX0) (T := TX0) (N := 3) (ci := 0) F.2.2.2.2.1 hC (1) (Nat.le_of_ble_eq_true rfl) rfl rfl) hw) rfl hl.1 rfl (Nat.le_of_ble_eq_true rfl) dX0_spaces_28 ⟨Nat.zero_le _, Nat.zero_le _⟩) hC (fun r2 σ1 H locs hC hw => ?_)
      refine lv_iconst (v := 1) hx hb dX0_spaces_31 (by decide) ?_
      refine lv_isub hx hb dX0_spaces_32 ?_
      refine lv_imul hx hb dX0_spaces_33 ?_
      refine lv_aload_n hx hb dX0_spaces_34 rfl (lv_at hl 0 rfl) ?_
      refine lv_iload hx hb dX0_spaces_35 (lv_at hl 4 rfl) ?_
      refine lv_iconst (v := 1) hx hb dX0_spaces_37 (by decide) ?_
      refine lv_iadd hx hb dX0_spaces_38 ?_
      refine ss_ki (ss_rV (C := RX0) (As := [.int (x4 + 1)]) (rest := [.int (x3 * (r2 - 1))]) F ((mX0_power l D A L wr cI cZ cS σ1 (x4 + 1)) _) gX0_spaces_X0_power rfl ⟨rfl, rfl⟩ ⟨rfl, dvX0_power⟩ ⟨Nat.le_of_ble_eq_true rfl, Nat.le_of_ble_eq_true rfl⟩ (ss_preV F.2.2.2.2.1 F.2.2.2.2.2 hC (ss_rec (C := RX0) (T := TX0) (N := 3) (ci := 0) F.2.2.2.2.1 hC (1) (Nat.le_of_ble_eq_true rfl) rfl rfl) hw) rfl hl.1 rfl (Nat.le_of_ble_eq_true rfl) dX0_spaces_39 ⟨Nat.zero_le _, Nat.zero_le _⟩) hC (fun r4 σ3 H locs hC hw => ?_)
      refine lv_iconst (v := 1) hx hb dX0_spaces_42 (by decide) ?_
      refine lv_isub hx hb dX0_spaces_43 ?_
      refine lv_idiv hx hb dX0_spaces_44 hw.1 ?_
      replace hw := hw.2
      refine lv_istore_n (lv' := [(3, .int ((x3 * (r2 - 1)) / (r4 - 1))), (0, .ref (L (1))), (1, .int (x1)), (2, .int (x2)), (4, .int (x4))]) hx hb dX0_spaces_45 rfl hl (by decide) rfl (fun ls hl => ?_)
      refine lv_iinc (v := x4 + 1) (lv' := [(4, .int (x4 + 1)), (3, .int ((x3 * (r2 - 1)) / (r4 - 1))), (0, .ref (L (1))), (1, .int (x1)), (2, .int (x2))]) hx hb dX0_spaces_46 hl (k := 4) rfl rfl (by decide) rfl (fun ls hl => ?_)
      refine lv_goto (tgt := 16) hx hb dX0_spaces_49 (by decide) ?_
      exact ih ((x3 * (r2 - 1)) / (r4 - 1)) (x4 + 1) σ3 _ _ _ hC (lv_sub hl [2, 3, 4, 1, 0] rfl) hw hk52

set_option maxHeartbeats 4000000 in
set_option maxRecDepth 100000 in
theorem bX0_spaces {x1 : Int32} {x2 : Int32} {post : Int32 → ss_S → Prop} (F : ss_F p R s m args meth c (ss_EC D A L wr cI cZ cS) cX0_spaces 5 wsX0_spaces RX0 (some .int) rmX0_spaces)  : ∀ (σ : ss_S) (H : Heap) (locs : List Loc) (ls : Array Slot), ss_C (ss_EC D A L wr cI cZ cS) σ s H locs → lv_has ls 5 [(0, .ref (L (1))), (1, .int (x1)), (2, .int (x2))] → wX0_spaces x1 x2 σ post → W p l e R s m args below meth c H locs 0 0 (MQ below (va_Qi post (ss_B (ss_EC D A L wr cI cZ cS)) A) args s 0 0 A) (F0 m 0 ls []) := by
  have hx := F.1.1
  have hb := F.1.2.1
  intro σ H locs ls hC hl hw
  unfold wX0_spaces at hw
  refine lv_iload_n hx hb dX0_spaces_0 rfl (lv_at hl 2 rfl) ?_
  refine lv_if_lt (tgt := 9) hx hb dX0_spaces_1 (by decide) (fun hc => ?_) (fun hc => ?_)
  · replace hw := hw.1 hc
    refine lv_iconst (v := 0) hx hb dX0_spaces_9 (by decide) ?_
    exact ss_iret F hC hw dX0_spaces_10
  · replace hw := hw.2 hc
    refine lv_iload_n hx hb dX0_spaces_4 rfl (lv_at hl 2 rfl) ?_
    refine lv_iload_n hx hb dX0_spaces_5 rfl (lv_at hl 1 rfl) ?_
    refine lv_icmp_le (tgt := 11) hx hb dX0_spaces_6 (by decide) (fun hc => ?_) (fun hc => ?_)
    · replace hw := hw.1 hc
      refine lv_iconst (v := 1) hx hb dX0_spaces_11 (by decide) ?_
      refine lv_istore_n (lv' := [(3, .int (1)), (0, .ref (L (1))), (1, .int (x1)), (2, .int (x2))]) hx hb dX0_spaces_12 rfl hl (by decide) rfl (fun ls hl => ?_)
      refine lv_iconst (v := 0) hx hb dX0_spaces_13 (by decide) ?_
      refine lv_istore (lv' := [(4, .int (0)), (3, .int (1)), (0, .ref (L (1))), (1, .int (x1)), (2, .int (x2))]) hx hb dX0_spaces_14 hl (by decide) rfl (fun ls hl => ?_)
      obtain ⟨n_, hw⟩ := hw
      refine tX0_spaces_16 F  _ n_ 1 0 σ _ _ _ hC (lv_sub hl [2, 3, 4, 1, 0] rfl) hw ?_
      · intro x3_5 x4_5 σ_5 H locs ls hC hl hw
        refine lv_iload_n hx hb dX0_spaces_52 rfl (lv_at hl 0 rfl) ?_
        exact ss_iret F hC hw dX0_spaces_53
    · replace hw := hw.2 hc
      refine lv_iconst (v := 0) hx hb dX0_spaces_9 (by decide) ?_
      exact ss_iret F hC hw dX0_spaces_10

theorem mX0_spaces (l : Launch) (D : va_G) (A : Nat → Prop) (L : Nat → Nat) (wr : va_W) (cI cZ cS : ClassId) (σ : ss_S) (x1 : Int32) (x2 : Int32)  : ss_MI l yX0_spaces wsX0_spaces rmX0_spaces (ss_EC D A L wr cI cZ cS) [.ref (L (1)), .int (x1), .int (x2)] σ (fun post => wX0_spaces x1 x2 σ post) :=
  ss_MI.of (cc := cX0_spaces) (nL := 5) (ret := (some .int)) (own := RX0) (by decide) rfl rfl (Nat.le_of_ble_eq_true rfl) (fun post p e R s m below meth c H locs ls F hC hl hw => bX0_spaces F  σ H locs ls hC hl hw)
end
