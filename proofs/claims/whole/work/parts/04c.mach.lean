section
variable {p : Program} {l : Launch} {e : Env} {R : Room} {s : State} {m : MethodId} {args : Array Value} {below : List Frame} {meth : Method} {c : Code} {D : va_G} {A : Nat → Prop} {L : Nat → Nat} {wr : va_W} {cI cZ cS : ClassId}
set_option maxHeartbeats 4000000 in
set_option maxRecDepth 100000 in
theorem bX1_accept {s1 : Nat} {post : ss_S → Prop} (F : ss_F p R s m args meth c (ss_EC D A L wr cI cZ cS) cX1_accept 2 wsX1_accept RX1 none rmX1_accept) (h1 : isSp s1) : ∀ (σ : ss_S) (H : Heap) (locs : List Loc) (ls : Array Slot), ss_C (ss_EC D A L wr cI cZ cS) σ s H locs → lv_has ls 2 [(0, .ref (L (3))), (1, .ref (L (s1)))] → wX1_accept s1 σ post → W p l e R s m args below meth c H locs 0 0 (MQ below (va_Qv post (ss_B (ss_EC D A L wr cI cZ cS)) A) args s 0 0 A) (F0 m 0 ls []) := by
  have hx := F.1.1
  have hb := F.1.2.1
  have u_X1 : ∀ w ∈ u_ws RX1 TX1 3, w ∈ wsX1_accept := by decide +kernel
  have f_24 : (Cond.fieldLink RX1 24 "SmallSpaces$Heap" "size" "I").before args s = true := F.1.2.2.2.2 _ (by decide +kernel)
  have f_11 : (Cond.fieldLink RX1 11 "SmallSpaces$Heap" "spaces" "[LSmallSpaces$Space;").before args s = true := F.1.2.2.2.2 _ (by decide +kernel)
  intro σ H locs ls hC hl hw
  unfold wX1_accept at hw
  refine lv_aload_n hx hb dX1_accept_0 rfl (lv_at hl 0 rfl) ?_
  refine ss_get (C := RX1) (T := TX1) (N := 3) (ci := 1) (v := .int (σ 3 2)) F hC (3) u_X1 (Nat.le_of_ble_eq_true rfl) rfl rfl 2 (by decide) f_24 rfl dX1_accept_1 ?_
  refine lv_bipush (v := 40) hx hb dX1_accept_4 (by decide) ?_
  refine lv_icmp_ge (tgt := 32) hx hb dX1_accept_6 (by decide) (fun hc => ?_) (fun hc => ?_)
  · replace hw := hw.1 hc
    exact ss_vret F hC hw dX1_accept_32
  · replace hw := hw.2 hc
    refine lv_aload_n hx hb dX1_accept_9 rfl (lv_at hl 0 rfl) ?_
    refine ss_get (C := RX1) (T := TX1) (N := 3) (ci := 1) (v := .ref (L (4))) F hC (3) u_X1 (Nat.le_of_ble_eq_true rfl) rfl rfl 0 (by decide) f_11 rfl dX1_accept_10 ?_
    refine lv_aload_n hx hb dX1_accept_13 rfl (lv_at hl 0 rfl) ?_
    refine ss_get (C := RX1) (T := TX1) (N := 3) (ci := 1) (v := .int (σ 3 2)) F hC (3) u_X1 (Nat.le_of_ble_eq_true rfl) rfl rfl 2 (by decide) f_24 rfl dX1_accept_14 ?_
    have hv1 := hw.1
    replace hw := hw.2
    refine ss_aald (v := L (45 + 3 * (Int32.toNatClampNeg (σ 3 2)))) F hC 4 2 (Nat.le_of_ble_eq_true rfl) rfl rfl hv1 rfl dX1_accept_17 ?_
    refine lv_aload_n hx hb dX1_accept_18 rfl (lv_at hl 1 rfl) ?_
    refine ss_kv (ss_rVN (C := RX3) (host := RX4) (As := [.ref (L (s1))]) (rest := []) F ((mX3_copyFrom l D A L wr cI cZ cS σ (45 + 3 * (Int32.toNatClampNeg (σ 3 2))) s1 (isSp_heap hv1) h1) _) gX1_accept_X3_copyFrom_n28 rfl ⟨rfl, rfl⟩ dvX3_copyFrom (by decide +kernel) ⟨by decide +kernel, by decide +kernel, by decide +kernel⟩ ⟨Nat.le_of_ble_eq_true rfl, Nat.le_of_ble_eq_true rfl⟩ (ss_preV F.2.2.2.2.1 F.2.2.2.2.2 hC (ss_rec (C := RX3) (T := TX3) (N := 4) (ci := 3) F.2.2.2.2.1 hC (45 + 3 * (Int32.toNatClampNeg (σ 3 2))) (isSp_heap hv1).lt (ceC_sp (L := L) (cI := cI) (cS := cS) (isSp_heap hv1) _) rfl) hw) rfl hl.1 rfl (Nat.le_of_ble_eq_true rfl) dX1_accept_19 ⟨Nat.zero_le _, Nat.zero_le _⟩) hC (fun σ2 H locs hC hw => ?_)
    refine lv_aload_n hx hb dX1_accept_22 rfl (lv_at hl 0 rfl) ?_
    refine lv_dup hx hb dX1_accept_23 rfl ?_
    refine ss_get (C := RX1) (T := TX1) (N := 3) (ci := 1) (v := .int (σ2 3 2)) F hC (3) u_X1 (Nat.le_of_ble_eq_true rfl) rfl rfl 2 (by decide) f_24 rfl dX1_accept_24 ?_
    refine lv_iconst (v := 1) hx hb dX1_accept_27 (by decide) ?_
    refine lv_iadd hx hb dX1_accept_28 ?_
    refine ss_put (C := RX1) (T := TX1) (N := 3) (ci := 1) F hC (3) tyX1 tyX1_ok nmX1 u_X1 (Nat.le_of_ble_eq_true rfl) rfl rfl 2 (by decide) f_24 rfl (by decide +kernel) (Nat.le_of_ble_eq_true rfl) rfl dX1_accept_29 (fun H locs hC => ?_)
    exact ss_vret F hC hw dX1_accept_32

theorem mX1_accept (l : Launch) (D : va_G) (A : Nat → Prop) (L : Nat → Nat) (wr : va_W) (cI cZ cS : ClassId) (σ : ss_S) (s1 : Nat) (h1 : isSp s1) : ss_MV l yX1_accept wsX1_accept rmX1_accept (ss_EC D A L wr cI cZ cS) [.ref (L (3)), .ref (L (s1))] σ (fun post => wX1_accept s1 σ post) :=
  ss_MV.of (cc := cX1_accept) (nL := 2) (ret := none) (own := RX1) (by decide) rfl rfl (Nat.le_of_ble_eq_true rfl) (fun post p e R s m below meth c H locs ls F hC hl hw => bX1_accept F h1 σ H locs ls hC hl hw)

set_option maxHeartbeats 4000000 in
set_option maxRecDepth 100000 in
theorem tX1_allApart_2 {s1 : Nat} {x2 : Int32} {post : Int32 → ss_S → Prop} (F : ss_F p R s m args meth c (ss_EC D A L wr cI cZ cS) cX1_allApart 4 wsX1_allApart RX1 (some .boolean) rmX1_allApart) (h1 : isSp s1) (k36 : Int32 → ss_S → Prop) : ∀ (n : Nat) (x3 : Int32) (σ : ss_S) (H : Heap) (locs : List Loc) (ls : Array Slot), ss_C (ss_EC D A L wr cI cZ cS) σ s H locs → lv_has ls 4 [(0, .ref (L (3))), (1, .ref (L (s1))), (2, .int (x2)), (3, .int (x3))] → lX1_allApart_2 s1 x2 post k36 n x3 σ →
    (∀ (x3 : Int32) (σ : ss_S) (H : Heap) (locs : List Loc) (ls : Array Slot), ss_C (ss_EC D A L wr cI cZ cS) σ s H locs → lv_has ls 4 [] → k36 x3 σ → W p l e R s m args below meth c H locs 0 0 (MQ below (va_Qi post (ss_B (ss_EC D A L wr cI cZ cS)) A) args s 0 0 A) (F0 m 36 ls [])) →
    W p l e R s m args below meth c H locs 0 0 (MQ below (va_Qi post (ss_B (ss_EC D A L wr cI cZ cS)) A) args s 0 0 A) (F0 m 2 ls []) := by
  have hx := F.1.1
  have hb := F.1.2.1
  have u_X1 : ∀ w ∈ u_ws RX1 TX1 3, w ∈ wsX1_allApart := by decide +kernel
  have f_24 : (Cond.fieldLink RX1 24 "SmallSpaces$Heap" "size" "I").before args s = true := F.1.2.2.2.2 _ (by decide +kernel)
  have f_20 : (Cond.fieldLink RX1 20 "SmallSpaces$Heap" "joined" "LSmallSpaces$Space;").before args s = true := F.1.2.2.2.2 _ (by decide +kernel)
  have f_11 : (Cond.fieldLink RX1 11 "SmallSpaces$Heap" "spaces" "[LSmallSpaces$Space;").before args s = true := F.1.2.2.2.2 _ (by decide +kernel)
  intro n
  induction n with
  | zero => intro x3 σ H locs ls hC hl hw; exact hw.elim
  | succ n ih =>
    intro x3 σ H locs ls hC hl hw hk36
    refine lv_iload_n hx hb dX1_allApart_2 rfl (lv_at hl 3 rfl) ?_
    refine lv_aload_n hx hb dX1_allApart_3 rfl (lv_at hl 0 rfl) ?_
    refine ss_get (C := RX1) (T := TX1) (N := 3) (ci := 1) (v := .int (σ 3 2)) F hC (3) u_X1 (Nat.le_of_ble_eq_true rfl) rfl rfl 2 (by decide) f_24 rfl dX1_allApart_4 ?_
    refine lv_icmp_ge (tgt := 36) hx hb dX1_allApart_7 (by decide) (fun hc => ?_) (fun hc => ?_)
    · replace hw := hw.1 hc
      exact hk36 x3 σ _ _ _ hC (lv_sub hl [] rfl) hw
    · replace hw := hw.2 hc
      refine lv_aload_n hx hb dX1_allApart_10 rfl (lv_at hl 0 rfl) ?_
      refine ss_get (C := RX1) (T := TX1) (N := 3) (ci := 1) (v := .ref (L (165))) F hC (3) u_X1 (Nat.le_of_ble_eq_true rfl) rfl rfl 1 (by decide) f_20 rfl dX1_allApart_11 ?_
      refine lv_aload_n hx hb dX1_allApart_14 rfl (lv_at hl 1 rfl) ?_
      refine lv_aload_n hx hb dX1_allApart_15 rfl (lv_at hl 0 rfl) ?_
      refine ss_get (C := RX1) (T := TX1) (N := 3) (ci := 1) (v := .ref (L (4))) F hC (3) u_X1 (Nat.le_of_ble_eq_true rfl) rfl rfl 0 (by decide) f_11 rfl dX1_allApart_16 ?_
      refine lv_iload_n hx hb dX1_allApart_19 rfl (lv_at hl 3 rfl) ?_
      have hv1 := hw.1
      replace hw := hw.2
      refine ss_aald (v := L (45 + 3 * (Int32.toNatClampNeg x3))) F hC 4 2 (Nat.le_of_ble_eq_true rfl) rfl rfl hv1 rfl dX1_allApart_20 ?_
      refine ss_ki (ss_rVN (C := RX3) (host := RX4) (As := [.ref (L (s1)), .ref (L (45 + 3 * (Int32.toNatClampNeg x3)))]) (rest := []) F ((mX3_distance l D A L wr cI cZ cS σ 165 s1 (45 + 3 * (Int32.toNatClampNeg x3)) isSp_165 h1 (isSp_heap hv1)) _) gX1_allApart_X3_distance_n32 rfl ⟨rfl, rfl⟩ dvX3_distance (by decide +kernel) ⟨by decide +kernel, by decide +kernel, by decide +kernel⟩ ⟨Nat.le_of_ble_eq_true rfl, Nat.le_of_ble_eq_true rfl⟩ (ss_preV F.2.2.2.2.1 F.2.2.2.2.2 hC (ss_rec (C := RX3) (T := TX3) (N := 4) (ci := 3) F.2.2.2.2.1 hC (165) isSp_165.lt (ceC_sp (L := L) (cI := cI) (cS := cS) isSp_165 _) rfl) hw) rfl hl.1 rfl (Nat.le_of_ble_eq_true rfl) dX1_allApart_21 ⟨Nat.zero_le _, Nat.zero_le _⟩) hC (fun r3 σ2 H locs hC hw => ?_)
      refine lv_iload_n hx hb dX1_allApart_24 rfl (lv_at hl 2 rfl) ?_
      refine lv_icmp_ge (tgt := 30) hx hb dX1_allApart_25 (by decide) (fun hc => ?_) (fun hc => ?_)
      · replace hw := hw.1 hc
        refine lv_iinc (v := x3 + 1) (lv' := [(3, .int (x3 + 1)), (0, .ref (L (3))), (1, .ref (L (s1))), (2, .int (x2))]) hx hb dX1_allApart_30 hl (k := 3) rfl rfl (by decide) rfl (fun ls hl => ?_)
        refine lv_goto (tgt := 2) hx hb dX1_allApart_33 (by decide) ?_
        exact ih (x3 + 1) σ2 _ _ _ hC (lv_sub hl [1, 2, 3, 0] rfl) hw hk36
      · replace hw := hw.2 hc
        refine lv_iconst (v := 0) hx hb dX1_allApart_28 (by decide) ?_
        exact ss_zret F hC rfl hw dX1_allApart_29

set_option maxHeartbeats 4000000 in
set_option maxRecDepth 100000 in
theorem bX1_allApart {s1 : Nat} {x2 : Int32} {post : Int32 → ss_S → Prop} (F : ss_F p R s m args meth c (ss_EC D A L wr cI cZ cS) cX1_allApart 4 wsX1_allApart RX1 (some .boolean) rmX1_allApart) (h1 : isSp s1) : ∀ (σ : ss_S) (H : Heap) (locs : List Loc) (ls : Array Slot), ss_C (ss_EC D A L wr cI cZ cS) σ s H locs → lv_has ls 4 [(0, .ref (L (3))), (1, .ref (L (s1))), (2, .int (x2))] → wX1_allApart s1 x2 σ post → W p l e R s m args below meth c H locs 0 0 (MQ below (va_Qi post (ss_B (ss_EC D A L wr cI cZ cS)) A) args s 0 0 A) (F0 m 0 ls []) := by
  have hx := F.1.1
  have hb := F.1.2.1
  intro σ H locs ls hC hl hw
  unfold wX1_allApart at hw
  refine lv_iconst (v := 0) hx hb dX1_allApart_0 (by decide) ?_
  refine lv_istore_n (lv' := [(3, .int (0)), (0, .ref (L (3))), (1, .ref (L (s1))), (2, .int (x2))]) hx hb dX1_allApart_1 rfl hl (by decide) rfl (fun ls hl => ?_)
  obtain ⟨n_, hw⟩ := hw
  refine tX1_allApart_2 F h1 _ n_ 0 σ _ _ _ hC (lv_sub hl [1, 2, 3, 0] rfl) hw ?_
  · intro x3_4 σ_4 H locs ls hC hl hw
    refine lv_iconst (v := 1) hx hb dX1_allApart_36 (by decide) ?_
    exact ss_zret F hC rfl hw dX1_allApart_37

theorem mX1_allApart (l : Launch) (D : va_G) (A : Nat → Prop) (L : Nat → Nat) (wr : va_W) (cI cZ cS : ClassId) (σ : ss_S) (s1 : Nat) (x2 : Int32) (h1 : isSp s1) : ss_MI l yX1_allApart wsX1_allApart rmX1_allApart (ss_EC D A L wr cI cZ cS) [.ref (L (3)), .ref (L (s1)), .int (x2)] σ (fun post => wX1_allApart s1 x2 σ post) :=
  ss_MI.of (cc := cX1_allApart) (nL := 4) (ret := (some .boolean)) (own := RX1) (by decide) rfl rfl (Nat.le_of_ble_eq_true rfl) (fun post p e R s m below meth c H locs ls F hC hl hw => bX1_allApart F h1 σ H locs ls hC hl hw)

set_option maxHeartbeats 4000000 in
set_option maxRecDepth 100000 in
theorem tX1_leastDistance_14 {x2 : Int32} {post : Int32 → ss_S → Prop} (F : ss_F p R s m args meth c (ss_EC D A L wr cI cZ cS) cX1_leastDistance 5 wsX1_leastDistance RX1 (some .int) rmX1_leastDistance)  (k60 : Int32 → Int32 → ss_S → Prop) : ∀ (n : Nat) (x1 : Int32) (x3 : Int32) (σ : ss_S) (H : Heap) (locs : List Loc) (ls : Array Slot), ss_C (ss_EC D A L wr cI cZ cS) σ s H locs → lv_has ls 5 [(0, .ref (L (3))), (1, .int (x1)), (2, .int (x2)), (3, .int (x3))] → lX1_leastDistance_14 x2 post k60 n x1 x3 σ →
    (∀ (x1 : Int32) (x3 : Int32) (σ : ss_S) (H : Heap) (locs : List Loc) (ls : Array Slot), ss_C (ss_EC D A L wr cI cZ cS) σ s H locs → lv_has ls 5 [(0, .ref (L (3))), (1, .int (x1)), (2, .int (x2))] → k60 x1 x3 σ → W p l e R s m args below meth c H locs 0 0 (MQ below (va_Qi post (ss_B (ss_EC D A L wr cI cZ cS)) A) args s 0 0 A) (F0 m 60 ls [])) →
    W p l e R s m args below meth c H locs 0 0 (MQ below (va_Qi post (ss_B (ss_EC D A L wr cI cZ cS)) A) args s 0 0 A) (F0 m 14 ls []) := by
  have hx := F.1.1
  have hb := F.1.2.1
  have u_X1 : ∀ w ∈ u_ws RX1 TX1 3, w ∈ wsX1_leastDistance := by decide +kernel
  have f_20 : (Cond.fieldLink RX1 20 "SmallSpaces$Heap" "joined" "LSmallSpaces$Space;").before args s = true := F.1.2.2.2.2 _ (by decide +kernel)
  have f_11 : (Cond.fieldLink RX1 11 "SmallSpaces$Heap" "spaces" "[LSmallSpaces$Space;").before args s = true := F.1.2.2.2.2 _ (by decide +kernel)
  intro n
  induction n with
  | zero => intro x1 x3 σ H locs ls hC hl hw; exact hw.elim
  | succ n ih =>
    intro x1 x3 σ H locs ls hC hl hw hk60
    refine lv_iload_n hx hb dX1_leastDistance_14 rfl (lv_at hl 3 rfl) ?_
    refine lv_iload_n hx hb dX1_leastDistance_15 rfl (lv_at hl 2 rfl) ?_
    refine lv_icmp_ge (tgt := 60) hx hb dX1_leastDistance_16 (by decide) (fun hc => ?_) (fun hc => ?_)
    · replace hw := hw.1 hc
      exact hk60 x1 x3 σ _ _ _ hC (lv_sub hl [0, 1, 2] rfl) hw
    · replace hw := hw.2 hc
      refine lv_aload_n hx hb dX1_leastDistance_19 rfl (lv_at hl 0 rfl) ?_
      refine ss_get (C := RX1) (T := TX1) (N := 3) (ci := 1) (v := .ref (L (165))) F hC (3) u_X1 (Nat.le_of_ble_eq_true rfl) rfl rfl 1 (by decide) f_20 rfl dX1_leastDistance_20 ?_
      refine lv_aload_n hx hb dX1_leastDistance_23 rfl (lv_at hl 0 rfl) ?_
      refine ss_get (C := RX1) (T := TX1) (N := 3) (ci := 1) (v := .ref (L (4))) F hC (3) u_X1 (Nat.le_of_ble_eq_true rfl) rfl rfl 0 (by decide) f_11 rfl dX1_leastDistance_24 ?_
      refine lv_iload_n hx hb dX1_leastDistance_27 rfl (lv_at hl 2 rfl) ?_
      have hv1 := hw.1
      replace hw := hw.2
      refine ss_aald (v := L (45 + 3 * (Int32.toNatClampNeg x2))) F hC 4 2 (Nat.le_of_ble_eq_true rfl) rfl rfl hv1 rfl dX1_leastDistance_28 ?_
      refine lv_aload_n hx hb dX1_leastDistance_29 rfl (lv_at hl 0 rfl) ?_
      refine ss_get (C := RX1) (T := TX1) (N := 3) (ci := 1) (v := .ref (L (4))) F hC (3) u_X1 (Nat.le_of_ble_eq_true rfl) rfl rfl 0 (by decide) f_11 rfl dX1_leastDistance_30 ?_
      refine lv_iload_n hx hb dX1_leastDistance_33 rfl (lv_at hl 3 rfl) ?_
      have hv2 := hw.1
      replace hw := hw.2
      refine ss_aald (v := L (45 + 3 * (Int32.toNatClampNeg x3))) F hC 4 2 (Nat.le_of_ble_eq_true rfl) rfl rfl hv2 rfl dX1_leastDistance_34 ?_
      refine ss_ki (ss_rVN (C := RX3) (host := RX4) (As := [.ref (L (45 + 3 * (Int32.toNatClampNeg x2))), .ref (L (45 + 3 * (Int32.toNatClampNeg x3)))]) (rest := []) F ((mX3_distance l D A L wr cI cZ cS σ 165 (45 + 3 * (Int32.toNatClampNeg x2)) (45 + 3 * (Int32.toNatClampNeg x3)) isSp_165 (isSp_heap hv1) (isSp_heap hv2)) _) gX1_leastDistance_X3_distance_n32 rfl ⟨rfl, rfl⟩ dvX3_distance (by decide +kernel) ⟨by decide +kernel, by decide +kernel, by decide +kernel⟩ ⟨Nat.le_of_ble_eq_true rfl, Nat.le_of_ble_eq_true rfl⟩ (ss_preV F.2.2.2.2.1 F.2.2.2.2.2 hC (ss_rec (C := RX3) (T := TX3) (N := 4) (ci := 3) F.2.2.2.2.1 hC (165) isSp_165.lt (ceC_sp (L := L) (cI := cI) (cS := cS) isSp_165 _) rfl) hw) rfl hl.1 rfl (Nat.le_of_ble_eq_true rfl) dX1_leastDistance_35 ⟨Nat.zero_le _, Nat.zero_le _⟩) hC (fun r4 σ3 H locs hC hw => ?_)
      refine lv_istore (lv' := [(4, .int (r4)), (0, .ref (L (3))), (1, .int (x1)), (2, .int (x2)), (3, .int (x3))]) hx hb dX1_leastDistance_38 hl (by decide) rfl (fun ls hl => ?_)
      refine lv_iload_n hx hb dX1_leastDistance_40 rfl (lv_at hl 2 rfl) ?_
      refine lv_iconst (v := -1) hx hb dX1_leastDistance_41 (by decide) ?_
      refine lv_icmp_eq (tgt := 51) hx hb dX1_leastDistance_42 (by decide) (fun hc => ?_) (fun hc => ?_)
      · replace hw := hw.1 hc
        refine lv_iload hx hb dX1_leastDistance_51 (lv_at hl 0 rfl) ?_
        refine lv_istore_n (lv' := [(1, .int (r4)), (4, .int (r4)), (0, .ref (L (3))), (2, .int (x2)), (3, .int (x3))]) hx hb dX1_leastDistance_53 rfl hl (by decide) rfl (fun ls hl => ?_)
        refine lv_iinc (v := x3 + 1) (lv' := [(3, .int (x3 + 1)), (1, .int (r4)), (4, .int (r4)), (0, .ref (L (3))), (2, .int (x2))]) hx hb dX1_leastDistance_54 hl (k := 4) rfl rfl (by decide) rfl (fun ls hl => ?_)
        refine lv_goto (tgt := 14) hx hb dX1_leastDistance_57 (by decide) ?_
        exact ih r4 (x3 + 1) σ3 _ _ _ hC (lv_sub hl [3, 1, 4, 0] rfl) hw hk60
      · replace hw := hw.2 hc
        refine lv_iload hx hb dX1_leastDistance_45 (lv_at hl 0 rfl) ?_
        refine lv_iload_n hx hb dX1_leastDistance_47 rfl (lv_at hl 2 rfl) ?_
        refine lv_icmp_ge (tgt := 54) hx hb dX1_leastDistance_48 (by decide) (fun hc => ?_) (fun hc => ?_)
        · replace hw := hw.1 hc
          refine lv_iinc (v := x3 + 1) (lv' := [(3, .int (x3 + 1)), (4, .int (r4)), (0, .ref (L (3))), (1, .int (x1)), (2, .int (x2))]) hx hb dX1_leastDistance_54 hl (k := 4) rfl rfl (by decide) rfl (fun ls hl => ?_)
          refine lv_goto (tgt := 14) hx hb dX1_leastDistance_57 (by decide) ?_
          exact ih x1 (x3 + 1) σ3 _ _ _ hC (lv_sub hl [2, 3, 4, 0] rfl) hw hk60
        · replace hw := hw.2 hc
          refine lv_iload hx hb dX1_leastDistance_51 (lv_at hl 0 rfl) ?_
          refine lv_istore_n (lv' := [(1, .int (r4)), (4, .int (r4)), (0, .ref (L (3))), (2, .int (x2)), (3, .int (x3))]) hx hb dX1_leastDistance_53 rfl hl (by decide) rfl (fun ls hl => ?_)
          refine lv_iinc (v := x3 + 1) (lv' := [(3, .int (x3 + 1)), (1, .int (r4)), (4, .int (r4)), (0, .ref (L (3))), (2, .int (x2))]) hx hb dX1_leastDistance_54 hl (k := 4) rfl rfl (by decide) rfl (fun ls hl => ?_)
          refine lv_goto (tgt := 14) hx hb dX1_leastDistance_57 (by decide) ?_
          exact ih r4 (x3 + 1) σ3 _ _ _ hC (lv_sub hl [3, 1, 4, 0] rfl) hw hk60

set_option maxHeartbeats 4000000 in
set_option maxRecDepth 100000 in
theorem tX1_leastDistance_4  {post : Int32 → ss_S → Prop} (F : ss_F p R s m args meth c (ss_EC D A L wr cI cZ cS) cX1_leastDistance 5 wsX1_leastDistance RX1 (some .int) rmX1_leastDistance)  (k66 : Int32 → Int32 → ss_S → Prop) : ∀ (n : Nat) (x1 : Int32) (x2 : Int32) (σ : ss_S) (H : Heap) (locs : List Loc) (ls : Array Slot), ss_C (ss_EC D A L wr cI cZ cS) σ s H locs → lv_has ls 5 [(0, .ref (L (3))), (1, .int (x1)), (2, .int (x2))] → lX1_leastDistance_4 post k66 n x1 x2 σ →
    (∀ (x1 : Int32) (x2 : Int32) (σ : ss_S) (H : Heap) (locs : List Loc) (ls : Array Slot), ss_C (ss_EC D A L wr cI cZ cS) σ s H locs → lv_has ls 5 [(1, .int (x1))] → k66 x1 x2 σ → W p l e R s m args below meth c H locs 0 0 (MQ below (va_Qi post (ss_B (ss_EC D A L wr cI cZ cS)) A) args s 0 0 A) (F0 m 66 ls [])) →
    W p l e R s m args below meth c H locs 0 0 (MQ below (va_Qi post (ss_B (ss_EC D A L wr cI cZ cS)) A) args s 0 0 A) (F0 m 4 ls []) := by
  have hx := F.1.1
  have hb := F.1.2.1
  have u_X1 : ∀ w ∈ u_ws RX1 TX1 3, w ∈ wsX1_leastDistance := by decide +kernel
  have f_24 : (Cond.fieldLink RX1 24 "SmallSpaces$Heap" "size" "I").before args s = true := F.1.2.2.2.2 _ (by decide +kernel)
  intro n
  induction n with
  | zero => intro x1 x2 σ H locs ls hC hl hw; exact hw.elim
  | succ n ih =>
    intro x1 x2 σ H locs ls hC hl hw hk66
    refine lv_iload_n hx hb dX1_leastDistance_4 rfl (lv_at hl 2 rfl) ?_
    refine lv_aload_n hx hb dX1_leastDistance_5 rfl (lv_at hl 0 rfl) ?_
    refine ss_get (C := RX1) (T := TX1) (N := 3) (ci := 1) (v := .int (σ 3 2)) F hC (3) u_X1 (Nat.le_of_ble_eq_true rfl) rfl rfl 2 (by decide) f_24 rfl dX1_leastDistance_6 ?_
    refine lv_icmp_ge (tgt := 66) hx hb dX1_leastDistance_9 (by decide) (fun hc => ?_) (fun hc => ?_)
    · replace hw := hw.1 hc
      exact hk66 x1 x2 σ _ _ _ hC (lv_sub hl [1] rfl) hw
    · replace hw := hw.2 hc
      refine lv_iconst (v := 0) hx hb dX1_leastDistance_12 (by decide) ?_
      refine lv_istore_n (lv' := [(3, .int (0)), (0, .ref (L (3))), (1, .int (x1)), (2, .int (x2))]) hx hb dX1_leastDistance_13 rfl hl (by decide) rfl (fun ls hl => ?_)
      obtain ⟨n_, hw⟩ := hw
      refine tX1_leastDistance_14 F  _ n_ x1 0 σ _ _ _ hC (lv_sub hl [1, 2, 3, 0] rfl) hw ?_
      · intro x1_5 x3_5 σ_5 H locs ls hC hl hw
        refine lv_iinc (v := x2 + 1) (lv' := [(2, .int (x2 + 1)), (0, .ref (L (3))), (1, .int (x1_5))]) hx hb dX1_leastDistance_60 hl (k := 2) rfl rfl (by decide) rfl (fun ls hl => ?_)
        refine lv_goto (tgt := 4) hx hb dX1_leastDistance_63 (by decide) ?_
        exact ih x1_5 (x2 + 1) σ_5 _ _ _ hC (lv_sub hl [1, 2, 0] rfl) hw hk66

set_option maxHeartbeats 4000000 in
set_option maxRecDepth 100000 in
theorem bX1_leastDistance  {post : Int32 → ss_S → Prop} (F : ss_F p R s m args meth c (ss_EC D A L wr cI cZ cS) cX1_leastDistance 5 wsX1_leastDistance RX1 (some .int) rmX1_leastDistance)  : ∀ (σ : ss_S) (H : Heap) (locs : List Loc) (ls : Array Slot), ss_C (ss_EC D A L wr cI cZ cS) σ s H locs → lv_has ls 5 [(0, .ref (L (3)))] → wX1_leastDistance  σ post → W p l e R s m args below meth c H locs 0 0 (MQ below (va_Qi post (ss_B (ss_EC D A L wr cI cZ cS)) A) args s 0 0 A) (F0 m 0 ls []) := by
  have hx := F.1.1
  have hb := F.1.2.1
  intro σ H locs ls hC hl hw
  unfold wX1_leastDistance at hw
  refine lv_iconst (v := -1) hx hb dX1_leastDistance_0 (by decide) ?_
  refine lv_istore_n (lv' := [(1, .int ((-1))), (0, .ref (L (3)))]) hx hb dX1_leastDistance_1 rfl hl (by decide) rfl (fun ls hl => ?_)
  refine lv_iconst (v := 1) hx hb dX1_leastDistance_2 (by decide) ?_
  refine lv_istore_n (lv' := [(2, .int (1)), (1, .int ((-1))), (0, .ref (L (3)))]) hx hb dX1_leastDistance_3 rfl hl (by decide) rfl (fun ls hl => ?_)
  obtain ⟨n_, hw⟩ := hw
  refine tX1_leastDistance_4 F  _ n_ ((-1)) 1 σ _ _ _ hC (lv_sub hl [2, 1, 0] rfl) hw ?_
  · intro x1_6 x2_6 σ_6 H locs ls hC hl hw
    refine lv_iload_n hx hb dX1_leastDistance_66 rfl (lv_at hl 0 rfl) ?_
    exact ss_iret F hC hw dX1_leastDistance_67

theorem mX1_leastDistance (l : Launch) (D : va_G) (A : Nat → Prop) (L : Nat → Nat) (wr : va_W) (cI cZ cS : ClassId) (σ : ss_S)   : ss_MI l yX1_leastDistance wsX1_leastDistance rmX1_leastDistance (ss_EC D A L wr cI cZ cS) [.ref (L (3))] σ (fun post => wX1_leastDistance  σ post) :=
  ss_MI.of (cc := cX1_leastDistance) (nL := 5) (ret := (some .int)) (own := RX1) (by decide) rfl rfl (Nat.le_of_ble_eq_true rfl) (fun post p e R s m below meth c H locs ls F hC hl hw => bX1_leastDistance F  σ H locs ls hC hl hw)

set_option maxHeartbeats 4000000 in
set_option maxRecDepth 100000 in
theorem tX1_covers_2 {s1 : Nat} {post : Int32 → ss_S → Prop} (F : ss_F p R s m args meth c (ss_EC D A L wr cI cZ cS) cX1_covers 3 wsX1_covers RX1 (some .boolean) rmX1_covers) (h1 : isAr s1) (k32 : Int32 → ss_S → Prop) : ∀ (n : Nat) (x2 : Int32) (σ : ss_S) (H : Heap) (locs : List Loc) (ls : Array Slot), ss_C (ss_EC D A L wr cI cZ cS) σ s H locs → lv_has ls 3 [(0, .ref (L (3))), (1, .ref (L (s1))), (2, .int (x2))] → lX1_covers_2 s1 post k32 n x2 σ →
    (∀ (x2 : Int32) (σ : ss_S) (H : Heap) (locs : List Loc) (ls : Array Slot), ss_C (ss_EC D A L wr cI cZ cS) σ s H locs → lv_has ls 3 [] → k32 x2 σ → W p l e R s m args below meth c H locs 0 0 (MQ below (va_Qi post (ss_B (ss_EC D A L wr cI cZ cS)) A) args s 0 0 A) (F0 m 32 ls [])) →
    W p l e R s m args below meth c H locs 0 0 (MQ below (va_Qi post (ss_B (ss_EC D A L wr cI cZ cS)) A) args s 0 0 A) (F0 m 2 ls []) := by
  have hx := F.1.1
  have hb := F.1.2.1
  have u_X1 : ∀ w ∈ u_ws RX1 TX1 3, w ∈ wsX1_covers := by decide +kernel
  have f_24 : (Cond.fieldLink RX1 24 "SmallSpaces$Heap" "size" "I").before args s = true := F.1.2.2.2.2 _ (by decide +kernel)
  have f_11 : (Cond.fieldLink RX1 11 "SmallSpaces$Heap" "spaces" "[LSmallSpaces$Space;").before args s = true := F.1.2.2.2.2 _ (by decide +kernel)
  intro n
  induction n with
  | zero => intro x2 σ H locs ls hC hl hw; exact hw.elim
  | succ n ih =>
    intro x2 σ H locs ls hC hl hw hk32
    refine lv_iload_n hx hb dX1_covers_2 rfl (lv_at hl 2 rfl) ?_
    refine lv_aload_n hx hb dX1_covers_3 rfl (lv_at hl 0 rfl) ?_
    refine ss_get (C := RX1) (T := TX1) (N := 3) (ci := 1) (v := .int (σ 3 2)) F hC (3) u_X1 (Nat.le_of_ble_eq_true rfl) rfl rfl 2 (by decide) f_24 rfl dX1_covers_4 ?_
    refine lv_icmp_ge (tgt := 32) hx hb dX1_covers_7 (by decide) (fun hc => ?_) (fun hc => ?_)
    · replace hw := hw.1 hc
      exact hk32 x2 σ _ _ _ hC (lv_sub hl [] rfl) hw
    · replace hw := hw.2 hc
      refine lv_aload_n hx hb dX1_covers_10 rfl (lv_at hl 0 rfl) ?_
      refine ss_get (C := RX1) (T := TX1) (N := 3) (ci := 1) (v := .ref (L (4))) F hC (3) u_X1 (Nat.le_of_ble_eq_true rfl) rfl rfl 0 (by decide) f_11 rfl dX1_covers_11 ?_
      refine lv_iload_n hx hb dX1_covers_14 rfl (lv_at hl 2 rfl) ?_
      have hv1 := hw.1
      replace hw := hw.2
      refine ss_aald (v := L (45 + 3 * (Int32.toNatClampNeg x2))) F hC 4 2 (Nat.le_of_ble_eq_true rfl) rfl rfl hv1 rfl dX1_covers_15 ?_
      refine lv_aload_n hx hb dX1_covers_16 rfl (lv_at hl 1 rfl) ?_
      refine lv_iconst (v := 0) hx hb dX1_covers_17 (by decide) ?_
      refine ss_ki (ss_rVN (C := RX3) (host := RX4) (As := [.ref (L (s1)), .int (0)]) (rest := []) F ((mX3_holds l D A L wr cI cZ cS σ (45 + 3 * (Int32.toNatClampNeg x2)) s1 0 (isSp_heap hv1) h1) _) gX1_covers_X3_holds_n36 rfl ⟨rfl, rfl⟩ dvX3_holds (by decide +kernel) ⟨by decide +kernel, by decide +kernel, by decide +kernel⟩ ⟨Nat.le_of_ble_eq_true rfl, Nat.le_of_ble_eq_true rfl⟩ (ss_preV F.2.2.2.2.1 F.2.2.2.2.2 hC (ss_rec (C := RX3) (T := TX3) (N := 4) (ci := 3) F.2.2.2.2.1 hC (45 + 3 * (Int32.toNatClampNeg x2)) (isSp_heap hv1).lt (ceC_sp (L := L) (cI := cI) (cS := cS) (isSp_heap hv1) _) rfl) hw) rfl hl.1 rfl (Nat.le_of_ble_eq_true rfl) dX1_covers_18 ⟨Nat.zero_le _, Nat.zero_le _⟩) hC (fun r3 σ2 H locs hC hw => ?_)
      refine lv_if_eq (tgt := 26) hx hb dX1_covers_21 (by decide) (fun hc => ?_) (fun hc => ?_)
      · replace hw := hw.1 hc
        refine lv_iinc (v := x2 + 1) (lv' := [(2, .int (x2 + 1)), (0, .ref (L (3))), (1, .ref (L (s1)))]) hx hb dX1_covers_26 hl (k := 2) rfl rfl (by decide) rfl (fun ls hl => ?_)
        refine lv_goto (tgt := 2) hx hb dX1_covers_29 (by decide) ?_
        exact ih (x2 + 1) σ2 _ _ _ hC (lv_sub hl [1, 2, 0] rfl) hw hk32
      · replace hw := hw.2 hc
        refine lv_iconst (v := 1) hx hb dX1_covers_24 (by decide) ?_
        exact ss_zret F hC rfl hw dX1_covers_25

set_option maxHeartbeats 4000000 in
set_option maxRecDepth 100000 in
theorem bX1_covers {s1 : Nat} {post : Int32 → ss_S → Prop} (F : ss_F p R s m args meth c (ss_EC D A L wr cI cZ cS) cX1_covers 3 wsX1_covers RX1 (some .boolean) rmX1_covers) (h1 : isAr s1) : ∀ (σ : ss_S) (H : Heap) (locs : List Loc) (ls : Array Slot), ss_C (ss_EC D A L wr cI cZ cS) σ s H locs → lv_has ls 3 [(0, .ref (L (3))), (1, .ref (L (s1)))] → wX1_covers s1 σ post → W p l e R s m args below meth c H locs 0 0 (MQ below (va_Qi post (ss_B (ss_EC D A L wr cI cZ cS)) A) args s 0 0 A) (F0 m 0 ls []) := by
  have hx := F.1.1
  have hb := F.1.2.1
  intro σ H locs ls hC hl hw
  unfold wX1_covers at hw
  refine lv_iconst (v := 0) hx hb dX1_covers_0 (by decide) ?_
  refine lv_istore_n (lv' := [(2, .int (0)), (0, .ref (L (3))), (1, .ref (L (s1)))]) hx hb dX1_covers_1 rfl hl (by decide) rfl (fun ls hl => ?_)
  obtain ⟨n_, hw⟩ := hw
  refine tX1_covers_2 F h1 _ n_ 0 σ _ _ _ hC (lv_sub hl [1, 2, 0] rfl) hw ?_
  · intro x2_4 σ_4 H locs ls hC hl hw
    refine lv_iconst (v := 0) hx hb dX1_covers_32 (by decide) ?_
    exact ss_zret F hC rfl hw dX1_covers_33

theorem mX1_covers (l : Launch) (D : va_G) (A : Nat → Prop) (L : Nat → Nat) (wr : va_W) (cI cZ cS : ClassId) (σ : ss_S) (s1 : Nat) (h1 : isAr s1) : ss_MI l yX1_covers wsX1_covers rmX1_covers (ss_EC D A L wr cI cZ cS) [.ref (L (3)), .ref (L (s1))] σ (fun post => wX1_covers s1 σ post) :=
  ss_MI.of (cc := cX1_covers) (nL := 3) (ret := (some .boolean)) (own := RX1) (by decide) rfl rfl (Nat.le_of_ble_eq_true rfl) (fun post p e R s m below meth c H locs ls F hC hl hw => bX1_covers F h1 σ H locs ls hC hl hw)

set_option maxHeartbeats 4000000 in
set_option maxRecDepth 100000 in
theorem tX2_becomeIdentity_10  {post : ss_S → Prop} (F : ss_F p R s m args meth c (ss_EC D A L wr cI cZ cS) cX2_becomeIdentity 2 wsX2_becomeIdentity RX2 none rmX2_becomeIdentity)  (k39 : Int32 → ss_S → Prop) : ∀ (n : Nat) (x1 : Int32) (σ : ss_S) (H : Heap) (locs : List Loc) (ls : Array Slot), ss_C (ss_EC D A L wr cI cZ cS) σ s H locs → lv_has ls 2 [(0, .ref (L (5))), (1, .int (x1))] → lX2_becomeIdentity_10 post k39 n x1 σ →
    (∀ (x1 : Int32) (σ : ss_S) (H : Heap) (locs : List Loc) (ls : Array Slot), ss_C (ss_EC D A L wr cI cZ cS) σ s H locs → lv_has ls 2 [] → k39 x1 σ → W p l e R s m args below meth c H locs 0 0 (MQ below (va_Qv post (ss_B (ss_EC D A L wr cI cZ cS)) A) args s 0 0 A) (F0 m 39 ls [])) →
    W p l e R s m args below meth c H locs 0 0 (MQ below (va_Qv post (ss_B (ss_EC D A L wr cI cZ cS)) A) args s 0 0 A) (F0 m 10 ls []) := by
  have hx := F.1.1
  have hb := F.1.2.1
  have u_X2 : ∀ w ∈ u_ws RX2 TX2 3, w ∈ wsX2_becomeIdentity := by decide +kernel
  have f_18 : (Cond.fieldLink RX2 18 "SmallSpaces$Linear" "frame" "LSmallSpaces$Frame;").before args s = true := F.1.2.2.2.2 _ (by decide +kernel)
  have u_X0 : ∀ w ∈ u_ws RX0 TX0 3, w ∈ wsX2_becomeIdentity := by decide +kernel
  have f_9 : (Cond.fieldLink RX2 9 "SmallSpaces$Linear" "cells" "[I").before args s = true := F.1.2.2.2.2 _ (by decide +kernel)
  intro n
  induction n with
  | zero => intro x1 σ H locs ls hC hl hw; exact hw.elim
  | succ n ih =>
    intro x1 σ H locs ls hC hl hw hk39
    refine lv_iload_n hx hb dX2_becomeIdentity_10 rfl (lv_at hl 1 rfl) ?_
    refine lv_aload_n hx hb dX2_becomeIdentity_11 rfl (lv_at hl 0 rfl) ?_
    refine ss_get (C := RX2) (T := TX2) (N := 3) (ci := 2) (v := .ref (L (1))) F hC (5) u_X2 (Nat.le_of_ble_eq_true rfl) rfl rfl 0 (by decide) f_18 rfl dX2_becomeIdentity_12 ?_
    refine ss_getN (C := RX0) (T := TX0) (N := 3) (ci := 0) (host := RX4) (v := .int (σ 1 1)) F hC (1) u_X0 (Nat.le_of_ble_eq_true rfl) rfl rfl 1 (by decide) (by decide +kernel) rfl dX2_becomeIdentity_15 ?_
    refine lv_icmp_ge (tgt := 39) hx hb dX2_becomeIdentity_18 (by decide) (fun hc => ?_) (fun hc => ?_)
    · replace hw := hw.1 hc
      exact hk39 x1 σ _ _ _ hC (lv_sub hl [] rfl) hw
    · replace hw := hw.2 hc
      refine lv_aload_n hx hb dX2_becomeIdentity_21 rfl (lv_at hl 0 rfl) ?_
      refine ss_get (C := RX2) (T := TX2) (N := 3) (ci := 2) (v := .ref (L (7))) F hC (5) u_X2 (Nat.le_of_ble_eq_true rfl) rfl rfl 1 (by decide) f_9 rfl dX2_becomeIdentity_22 ?_
      refine lv_iload_n hx hb dX2_becomeIdentity_25 rfl (lv_at hl 1 rfl) ?_
      refine lv_bipush (v := 6) hx hb dX2_becomeIdentity_26 (by decide) ?_
      refine lv_imul hx hb dX2_becomeIdentity_28 ?_
      refine lv_iload_n hx hb dX2_becomeIdentity_29 rfl (lv_at hl 1 rfl) ?_
      refine lv_iadd hx hb dX2_becomeIdentity_30 ?_
      refine lv_iconst (v := 1) hx hb dX2_becomeIdentity_31 (by decide) ?_
      refine ss_iast F hC (7) 0 isAr_7.lt (ceC_ar (L := L) (cI := cI) (cS := cS) isAr_7) rfl hw.1 dX2_becomeIdentity_32 (fun H locs hC => ?_)
      replace hw := hw.2
      refine lv_iinc (v := x1 + 1) (lv' := [(1, .int (x1 + 1)), (0, .ref (L (5)))]) hx hb dX2_becomeIdentity_33 hl (k := 1) rfl rfl (by decide) rfl (fun ls hl => ?_)
      refine lv_goto (tgt := 10) hx hb dX2_becomeIdentity_36 (by decide) ?_
      exact ih (x1 + 1) (u2 σ 7 (Int32.toNatClampNeg ((x1 * 6) + x1)) 1) _ _ _ hC (lv_sub hl [1, 0] rfl) hw hk39

set_option maxHeartbeats 4000000 in
set_option maxRecDepth 100000 in
theorem bX2_becomeIdentity  {post : ss_S → Prop} (F : ss_F p R s m args meth c (ss_EC D A L wr cI cZ cS) cX2_becomeIdentity 2 wsX2_becomeIdentity RX2 none rmX2_becomeIdentity)  : ∀ (σ : ss_S) (H : Heap) (locs : List Loc) (ls : Array Slot), ss_C (ss_EC D A L wr cI cZ cS) σ s H locs → lv_has ls 2 [(0, .ref (L (5)))] → wX2_becomeIdentity  σ post → W p l e R s m args below meth c H locs 0 0 (MQ below (va_Qv post (ss_B (ss_EC D A L wr cI cZ cS)) A) args s 0 0 A) (F0 m 0 ls []) := by
  have hx := F.1.1
  have hb := F.1.2.1
  have u_X2 : ∀ w ∈ u_ws RX2 TX2 3, w ∈ wsX2_becomeIdentity := by decide +kernel
  have f_9 : (Cond.fieldLink RX2 9 "SmallSpaces$Linear" "cells" "[I").before args s = true := F.1.2.2.2.2 _ (by decide +kernel)
  intro σ H locs ls hC hl hw
  unfold wX2_becomeIdentity at hw
  refine lv_aload_n hx hb dX2_becomeIdentity_0 rfl (lv_at hl 0 rfl) ?_
  refine ss_get (C := RX2) (T := TX2) (N := 3) (ci := 2) (v := .ref (L (7))) F hC (5) u_X2 (Nat.le_of_ble_eq_true rfl) rfl rfl 1 (by decide) f_9 rfl dX2_becomeIdentity_1 ?_
  refine lv_iconst (v := 0) hx hb dX2_becomeIdentity_4 (by decide) ?_
  refine ss_kv (ss_rS (As := [.ref (L (7)), .int (0)]) (rest := []) F ((mJ7_fill_53178 l D A L wr cI cZ cS σ 7 0 isAr_7) _) gX2_becomeIdentity_J7_fill_53178 rfl ⟨rfl, rfl⟩ dvJ7_fill_53178 ⟨Nat.le_of_ble_eq_true rfl, Nat.le_of_ble_eq_true rfl⟩ (ss_preS F.2.2.2.2.1 F.2.2.2.2.2 hC hw) rfl hl.1 rfl (Nat.le_of_ble_eq_true rfl) dX2_becomeIdentity_5 ⟨Nat.zero_le _, Nat.zero_le _⟩) hC (fun σ1 H locs hC hw => ?_)
  refine lv_iconst (v := 0) hx hb dX2_becomeIdentity_8 (by decide) ?_
  refine lv_istore_n (lv' := [(1, .int (0)), (0, .ref (L (5)))]) hx hb dX2_becomeIdentity_9 rfl hl (by decide) rfl (fun ls hl => ?_)
  obtain ⟨n_, hw⟩ := hw
  refine tX2_becomeIdentity_10 F  _ n_ 0 σ1 _ _ _ hC (lv_sub hl [1, 0] rfl) hw ?_
  · intro x1_2 σ_2 H locs ls hC hl hw
    exact ss_vret F hC hw dX2_becomeIdentity_39

theorem mX2_becomeIdentity (l : Launch) (D : va_G) (A : Nat → Prop) (L : Nat → Nat) (wr : va_W) (cI cZ cS : ClassId) (σ : ss_S)   : ss_MV l yX2_becomeIdentity wsX2_becomeIdentity rmX2_becomeIdentity (ss_EC D A L wr cI cZ cS) [.ref (L (5))] σ (fun post => wX2_becomeIdentity  σ post) :=
  ss_MV.of (cc := cX2_becomeIdentity) (nL := 2) (ret := none) (own := RX2) (by decide) rfl rfl (Nat.le_of_ble_eq_true rfl) (fun post p e R s m below meth c H locs ls F hC hl hw => bX2_becomeIdentity F  σ H locs ls hC hl hw)

set_option maxHeartbeats 4000000 in
set_option maxRecDepth 100000 in
theorem bX2_imageNumber {x1 : Int32} {post : Int32 → ss_S → Prop} (F : ss_F p R s m args meth c (ss_EC D A L wr cI cZ cS) cX2_imageNumber 2 wsX2_imageNumber RX2 (some .int) rmX2_imageNumber)  : ∀ (σ : ss_S) (H : Heap) (locs : List Loc) (ls : Array Slot), ss_C (ss_EC D A L wr cI cZ cS) σ s H locs → lv_has ls 2 [(0, .ref (L (5))), (1, .int (x1))] → wX2_imageNumber x1 σ post → W p l e R s m args below meth c H locs 0 0 (MQ below (va_Qi post (ss_B (ss_EC D A L wr cI cZ cS)) A) args s 0 0 A) (F0 m 0 ls []) := by
  have hx := F.1.1
  have hb := F.1.2.1
  have u_X2 : ∀ w ∈ u_ws RX2 TX2 3, w ∈ wsX2_imageNumber := by decide +kernel
  have f_18 : (Cond.fieldLink RX2 18 "SmallSpaces$Linear" "frame" "LSmallSpaces$Frame;").before args s = true := F.1.2.2.2.2 _ (by decide +kernel)
  have f_9 : (Cond.fieldLink RX2 9 "SmallSpaces$Linear" "cells" "[I").before args s = true := F.1.2.2.2.2 _ (by decide +kernel)
  intro σ H locs ls hC hl hw
  unfold wX2_imageNumber at hw
  refine lv_aload_n hx hb dX2_imageNumber_0 rfl (lv_at hl 0 rfl) ?_
  refine ss_get (C := RX2) (T := TX2) (N := 3) (ci := 2) (v := .ref (L (1))) F hC (5) u_X2 (Nat.le_of_ble_eq_true rfl) rfl rfl 0 (by decide) f_18 rfl dX2_imageNumber_1 ?_
  refine lv_aload_n hx hb dX2_imageNumber_4 rfl (lv_at hl 0 rfl) ?_
  refine ss_get (C := RX2) (T := TX2) (N := 3) (ci := 2) (v := .ref (L (7))) F hC (5) u_X2 (Nat.le_of_ble_eq_true rfl) rfl rfl 1 (by decide) f_9 rfl dX2_imageNumber_5 ?_
  refine lv_iload_n hx hb dX2_imageNumber_8 rfl (lv_at hl 1 rfl) ?_
  refine lv_bipush (v := 6) hx hb dX2_imageNumber_9 (by decide) ?_
  refine lv_imul hx hb dX2_imageNumber_11 ?_
  refine ss_ki (ss_rVN (C := RX0) (host := RX4) (As := [.ref (L (7)), .int (x1 * 6)]) (rest := []) F ((mX0_vectorNumber l D A L wr cI cZ cS σ 7 (x1 * 6) isAr_7) _) gX2_imageNumber_X0_vectorNumber_n37 rfl ⟨rfl, rfl⟩ dvX0_vectorNumber (by decide +kernel) ⟨by decide +kernel, by decide +kernel, by decide +kernel⟩ ⟨Nat.le_of_ble_eq_true rfl, Nat.le_of_ble_eq_true rfl⟩ (ss_preV F.2.2.2.2.1 F.2.2.2.2.2 hC (ss_rec (C := RX0) (T := TX0) (N := 3) (ci := 0) F.2.2.2.2.1 hC (1) (Nat.le_of_ble_eq_true rfl) rfl rfl) hw) rfl hl.1 rfl (Nat.le_of_ble_eq_true rfl) dX2_imageNumber_12 ⟨Nat.zero_le _, Nat.zero_le _⟩) hC (fun r2 σ1 H locs hC hw => ?_)
  exact ss_iret F hC hw dX2_imageNumber_15

theorem mX2_imageNumber (l : Launch) (D : va_G) (A : Nat → Prop) (L : Nat → Nat) (wr : va_W) (cI cZ cS : ClassId) (σ : ss_S) (x1 : Int32)  : ss_MI l yX2_imageNumber wsX2_imageNumber rmX2_imageNumber (ss_EC D A L wr cI cZ cS) [.ref (L (5)), .int (x1)] σ (fun post => wX2_imageNumber x1 σ post) :=
  ss_MI.of (cc := cX2_imageNumber) (nL := 2) (ret := (some .int)) (own := RX2) (by decide) rfl rfl (Nat.le_of_ble_eq_true rfl) (fun post p e R s m below meth c H locs ls F hC hl hw => bX2_imageNumber F  σ H locs ls hC hl hw)

set_option maxHeartbeats 4000000 in
set_option maxRecDepth 100000 in
theorem bX2_setImage {x1 : Int32} {x2 : Int32} {post : ss_S → Prop} (F : ss_F p R s m args meth c (ss_EC D A L wr cI cZ cS) cX2_setImage 3 wsX2_setImage RX2 none rmX2_setImage)  : ∀ (σ : ss_S) (H : Heap) (locs : List Loc) (ls : Array Slot), ss_C (ss_EC D A L wr cI cZ cS) σ s H locs → lv_has ls 3 [(0, .ref (L (5))), (1, .int (x1)), (2, .int (x2))] → wX2_setImage x1 x2 σ post → W p l e R s m args below meth c H locs 0 0 (MQ below (va_Qv post (ss_B (ss_EC D A L wr cI cZ cS)) A) args s 0 0 A) (F0 m 0 ls []) := by
  have hx := F.1.1
  have hb := F.1.2.1
  have u_X2 : ∀ w ∈ u_ws RX2 TX2 3, w ∈ wsX2_setImage := by decide +kernel
  have f_18 : (Cond.fieldLink RX2 18 "SmallSpaces$Linear" "frame" "LSmallSpaces$Frame;").before args s = true := F.1.2.2.2.2 _ (by decide +kernel)
  have f_9 : (Cond.fieldLink RX2 9 "SmallSpaces$Linear" "cells" "[I").before args s = true := F.1.2.2.2.2 _ (by decide +kernel)
  intro σ H locs ls hC hl hw
  unfold wX2_setImage at hw
  refine lv_aload_n hx hb dX2_setImage_0 rfl (lv_at hl 0 rfl) ?_
  refine ss_get (C := RX2) (T := TX2) (N := 3) (ci := 2) (v := .ref (L (1))) F hC (5) u_X2 (Nat.le_of_ble_eq_true rfl) rfl rfl 0 (by decide) f_18 rfl dX2_setImage_1 ?_
  refine lv_iload_n hx hb dX2_setImage_4 rfl (lv_at hl 2 rfl) ?_
  refine lv_aload_n hx hb dX2_setImage_5 rfl (lv_at hl 0 rfl) ?_
  refine ss_get (C := RX2) (T := TX2) (N := 3) (ci := 2) (v := .ref (L (7))) F hC (5) u_X2 (Nat.le_of_ble_eq_true rfl) rfl rfl 1 (by decide) f_9 rfl dX2_setImage_6 ?_
  refine lv_iload_n hx hb dX2_setImage_9 rfl (lv_at hl 1 rfl) ?_
  refine lv_bipush (v := 6) hx hb dX2_setImage_10 (by decide) ?_
  refine lv_imul hx hb dX2_setImage_12 ?_
  refine ss_kv (ss_rVN (C := RX0) (host := RX4) (As := [.int (x2), .ref (L (7)), .int (x1 * 6)]) (rest := []) F ((mX0_spell l D A L wr cI cZ cS σ x2 7 (x1 * 6) isAr_7) _) gX2_setImage_X0_spell_n41 rfl ⟨rfl, rfl⟩ dvX0_spell (by decide +kernel) ⟨by decide +kernel, by decide +kernel, by decide +kernel⟩ ⟨Nat.le_of_ble_eq_true rfl, Nat.le_of_ble_eq_true rfl⟩ (ss_preV F.2.2.2.2.1 F.2.2.2.2.2 hC (ss_rec (C := RX0) (T := TX0) (N := 3) (ci := 0) F.2.2.2.2.1 hC (1) (Nat.le_of_ble_eq_true rfl) rfl rfl) hw) rfl hl.1 rfl (Nat.le_of_ble_eq_true rfl) dX2_setImage_13 ⟨Nat.zero_le _, Nat.zero_le _⟩) hC (fun σ1 H locs hC hw => ?_)
  exact ss_vret F hC hw dX2_setImage_16

theorem mX2_setImage (l : Launch) (D : va_G) (A : Nat → Prop) (L : Nat → Nat) (wr : va_W) (cI cZ cS : ClassId) (σ : ss_S) (x1 : Int32) (x2 : Int32)  : ss_MV l yX2_setImage wsX2_setImage rmX2_setImage (ss_EC D A L wr cI cZ cS) [.ref (L (5)), .int (x1), .int (x2)] σ (fun post => wX2_setImage x1 x2 σ post) :=
  ss_MV.of (cc := cX2_setImage) (nL := 3) (ret := none) (own := RX2) (by decide) rfl rfl (Nat.le_of_ble_eq_true rfl) (fun post p e R s m below meth c H locs ls F hC hl hw => bX2_setImage F  σ H locs ls hC hl hw)

set_option maxHeartbeats 4000000 in
set_option maxRecDepth 100000 in
theorem tX2_applyInto_10 {s1 : Nat} {x2 : Int32} {post : ss_S → Prop} (F : ss_F p R s m args meth c (ss_EC D A L wr cI cZ cS) cX2_applyInto 4 wsX2_applyInto RX2 none rmX2_applyInto) (h1 : isAr s1) (k60 : Int32 → ss_S → Prop) : ∀ (n : Nat) (x3 : Int32) (σ : ss_S) (H : Heap) (locs : List Loc) (ls : Array Slot), ss_C (ss_EC D A L wr cI cZ cS) σ s H locs → lv_has ls 4 [(0, .ref (L (5))), (1, .ref (L (s1))), (2, .int (x2)), (3, .int (x3))] → lX2_applyInto_10 s1 x2 post k60 n x3 σ →
    (∀ (x3 : Int32) (σ : ss_S) (H : Heap) (locs : List Loc) (ls : Array Slot), ss_C (ss_EC D A L wr cI cZ cS) σ s H locs → lv_has ls 4 [] → k60 x3 σ → W p l e R s m args below meth c H locs 0 0 (MQ below (va_Qv post (ss_B (ss_EC D A L wr cI cZ cS)) A) args s 0 0 A) (F0 m 60 ls [])) →
    W p l e R s m args below meth c H locs 0 0 (MQ below (va_Qv post (ss_B (ss_EC D A L wr cI cZ cS)) A) args s 0 0 A) (F0 m 10 ls []) := by
  have hx := F.1.1
  have hb := F.1.2.1
  have u_X2 : ∀ w ∈ u_ws RX2 TX2 3, w ∈ wsX2_applyInto := by decide +kernel
  have f_18 : (Cond.fieldLink RX2 18 "SmallSpaces$Linear" "frame" "LSmallSpaces$Frame;").before args s = true := F.1.2.2.2.2 _ (by decide +kernel)
  have u_X0 : ∀ w ∈ u_ws RX0 TX0 3, w ∈ wsX2_applyInto := by decide +kernel
  have f_15 : (Cond.fieldLink RX2 15 "SmallSpaces$Linear" "result" "[I").before args s = true := F.1.2.2.2.2 _ (by decide +kernel)
  have f_9 : (Cond.fieldLink RX2 9 "SmallSpaces$Linear" "cells" "[I").before args s = true := F.1.2.2.2.2 _ (by decide +kernel)
  intro n
  induction n with
  | zero => intro x3 σ H locs ls hC hl hw; exact hw.elim
  | succ n ih =>
    intro x3 σ H locs ls hC hl hw hk60
    refine lv_iload_n hx hb dX2_applyInto_10 rfl (lv_at hl 3 rfl) ?_
    refine lv_aload_n hx hb dX2_applyInto_11 rfl (lv_at hl 0 rfl) ?_
    refine ss_get (C := RX2) (T := TX2) (N := 3) (ci := 2) (v := .ref (L (1))) F hC (5) u_X2 (Nat.le_of_ble_eq_true rfl) rfl rfl 0 (by decide) f_18 rfl dX2_applyInto_12 ?_
    refine ss_getN (C := RX0) (T := TX0) (N := 3) (ci := 0) (host := RX4) (v := .int (σ 1 1)) F hC (1) u_X0 (Nat.le_of_ble_eq_true rfl) rfl rfl 1 (by decide) (by decide +kernel) rfl dX2_applyInto_15 ?_
    refine lv_icmp_ge (tgt := 60) hx hb dX2_applyInto_18 (by decide) (fun hc => ?_) (fun hc => ?_)
    · replace hw := hw.1 hc
      exact hk60 x3 σ _ _ _ hC (lv_sub hl [] rfl) hw
    · replace hw := hw.2 hc
      refine lv_aload_n hx hb dX2_applyInto_21 rfl (lv_at hl 1 rfl) ?_
      refine lv_iload_n hx hb dX2_applyInto_22 rfl (lv_at hl 2 rfl) ?_
      refine lv_iload_n hx hb dX2_applyInto_23 rfl (lv_at hl 3 rfl) ?_
      refine lv_iadd hx hb dX2_applyInto_24 ?_
      refine ss_iald F hC (s1) 0 h1.lt (ceC_ar (L := L) (cI := cI) (cS := cS) h1) rfl hw.1 dX2_applyInto_25 ?_
      replace hw := hw.2
      refine lv_if_eq (tgt := 54) hx hb dX2_applyInto_26 (by decide) (fun hc => ?_) (fun hc => ?_)
      · replace hw := hw.1 hc
        refine lv_iinc (v := x3 + 1) (lv' := [(3, .int (x3 + 1)), (0, .ref (L (5))), (1, .ref (L (s1))), (2, .int (x2))]) hx hb dX2_applyInto_54 hl (k := 3) rfl rfl (by decide) rfl (fun ls hl => ?_)
        refine lv_goto (tgt := 10) hx hb dX2_applyInto_57 (by decide) ?_
        exact ih (x3 + 1) σ _ _ _ hC (lv_sub hl [1, 2, 3, 0] rfl) hw hk60
      · replace hw := hw.2 hc
        refine lv_aload_n hx hb dX2_applyInto_29 rfl (lv_at hl 0 rfl) ?_
        refine ss_get (C := RX2) (T := TX2) (N := 3) (ci := 2) (v := .ref (L (1))) F hC (5) u_X2 (Nat.le_of_ble_eq_true rfl) rfl rfl 0 (by decide) f_18 rfl dX2_applyInto_30 ?_
        refine lv_aload_n hx hb dX2_applyInto_33 rfl (lv_at hl 0 rfl) ?_
        refine ss_get (C := RX2) (T := TX2) (N := 3) (ci := 2) (v := .ref (L (8))) F hC (5) u_X2 (Nat.le_of_ble_eq_true rfl) rfl rfl 2 (by decide) f_15 rfl dX2_applyInto_34 ?_
        refine lv_iconst (v := 0) hx hb dX2_applyInto_37 (by decide) ?_
        refine lv_aload_n hx hb dX2_applyInto_38 rfl (lv_at hl 0 rfl) ?_
        refine ss_get (C := RX2) (T := TX2) (N := 3) (ci := 2) (v := .ref (L (7))) F hC (5) u_X2 (Nat.le_of_ble_eq_true rfl) rfl rfl 1 (by decide) f_9 rfl dX2_applyInto_39 ?_
        refine lv_iload_n hx hb dX2_applyInto_42 rfl (lv_at hl 3 rfl) ?_
        refine lv_bipush (v := 6) hx hb dX2_applyInto_43 (by decide) ?_
        refine lv_imul hx hb dX2_applyInto_45 ?_
        refine lv_aload_n hx hb dX2_applyInto_46 rfl (lv_at hl 1 rfl) ?_
        refine lv_iload_n hx hb dX2_applyInto_47 rfl (lv_at hl 2 rfl) ?_
        refine lv_iload_n hx hb dX2_applyInto_48 rfl (lv_at hl 3 rfl) ?_
        refine lv_iadd hx hb dX2_applyInto_49 ?_
        refine ss_iald F hC (s1) 0 h1.lt (ceC_ar (L := L) (cI := cI) (cS := cS) h1) rfl hw.1 dX2_applyInto_50 ?_
        replace hw := hw.2
        refine ss_kv (ss_rVN (C := RX0) (host := RX4) (As := [.ref (L (8)), .int (0), .ref (L (7)), .int (x3 * 6), .int (σ s1 (Int32.toNatClampNeg (x2 + x3)))]) (rest := []) F ((mX0_addMultiple l D A L wr cI cZ cS σ 8 0 7 (x3 * 6) (σ s1 (Int32.toNatClampNeg (x2 + x3))) isAr_8 isAr_7) _) gX2_applyInto_X0_addMultiple_n48 rfl ⟨rfl, rfl⟩ dvX0_addMultiple (by decide +kernel) ⟨by decide +kernel, by decide +kernel, by decide +kernel⟩ ⟨Nat.le_of_ble_eq_true rfl, Nat.le_of_ble_eq_true rfl⟩ (ss_preV F.2.2.2.2.1 F.2.2.2.2.2 hC (ss_rec (C := RX0) (T := TX0) (N := 3) (ci := 0) F.2.2.2.2.1 hC (1) (Nat.le_of_ble_eq_true rfl) rfl rfl) hw) rfl hl.1 rfl (Nat.le_of_ble_eq_true rfl) dX2_applyInto_51 ⟨Nat.zero_le _, Nat.zero_le _⟩) hC (fun σ2 H locs hC hw => ?_)
        refine lv_iinc (v := x3 + 1) (lv' := [(3, .int (x3 + 1)), (0, .ref (L (5))), (1, .ref (L (s1))), (2, .int (x2))]) hx hb dX2_applyInto_54 hl (k := 3) rfl rfl (by decide) rfl (fun ls hl => ?_)
        refine lv_goto (tgt := 10) hx hb dX2_applyInto_57 (by decide) ?_
        exact ih (x3 + 1) σ2 _ _ _ hC (lv_sub hl [1, 2, 3, 0] rfl) hw hk60

set_option maxHeartbeats 4000000 in
set_option maxRecDepth 100000 in
theorem bX2_applyInto {s1 : Nat} {x2 : Int32} {post : ss_S → Prop} (F : ss_F p R s m args meth c (ss_EC D A L wr cI cZ cS) cX2_applyInto 4 wsX2_applyInto RX2 none rmX2_applyInto) (h1 : isAr s1) : ∀ (σ : ss_S) (H : Heap) (locs : List Loc) (ls : Array Slot), ss_C (ss_EC D A L wr cI cZ cS) σ s H locs → lv_has ls 4 [(0, .ref (L (5))), (1, .ref (L (s1))), (2, .int (x2))] → wX2_applyInto s1 x2 σ post → W p l e R s m args below meth c H locs 0 0 (MQ below (va_Qv post (ss_B (ss_EC D A L wr cI cZ cS)) A) args s 0 0 A) (F0 m 0 ls []) := by
  have hx := F.1.1
  have hb := F.1.2.1
  have u_X2 : ∀ w ∈ u_ws RX2 TX2 3, w ∈ wsX2_applyInto := by decide +kernel
  have f_15 : (Cond.fieldLink RX2 15 "SmallSpaces$Linear" "result" "[I").before args s = true := F.1.2.2.2.2 _ (by decide +kernel)
  intro σ H locs ls hC hl hw
  unfold wX2_applyInto at hw
  refine lv_aload_n hx hb dX2_applyInto_0 rfl (lv_at hl 0 rfl) ?_
  refine ss_get (C := RX2) (T := TX2) (N := 3) (ci := 2) (v := .ref (L (8))) F hC (5) u_X2 (Nat.le_of_ble_eq_true rfl) rfl rfl 2 (by decide) f_15 rfl dX2_applyInto_1 ?_
  refine lv_iconst (v := 0) hx hb dX2_applyInto_4 (by decide) ?_
  refine ss_kv (ss_rS (As := [.ref (L (8)), .int (0)]) (rest := []) F ((mJ7_fill_53178 l D A L wr cI cZ cS σ 8 0 isAr_8) _) gX2_applyInto_J7_fill_53178 rfl ⟨rfl, rfl⟩ dvJ7_fill_53178 ⟨Nat.le_of_ble_eq_true rfl, Nat.le_of_ble_eq_true rfl⟩ (ss_preS F.2.2.2.2.1 F.2.2.2.2.2 hC hw) rfl hl.1 rfl (Nat.le_of_ble_eq_true rfl) dX2_applyInto_5 ⟨Nat.zero_le _, Nat.zero_le _⟩) hC (fun σ1 H locs hC hw => ?_)
  refine lv_iconst (v := 0) hx hb dX2_applyInto_8 (by decide) ?_
  refine lv_istore_n (lv' := [(3, .int (0)), (0, .ref (L (5))), (1, .ref (L (s1))), (2, .int (x2))]) hx hb dX2_applyInto_9 rfl hl (by decide) rfl (fun ls hl => ?_)
  obtain ⟨n_, hw⟩ := hw
  refine tX2_applyInto_10 F h1 _ n_ 0 σ1 _ _ _ hC (lv_sub hl [1, 2, 3, 0] rfl) hw ?_
  · intro x3_3 σ_3 H locs ls hC hl hw
    exact ss_vret F hC hw dX2_applyInto_60

theorem mX2_applyInto (l : Launch) (D : va_G) (A : Nat → Prop) (L : Nat → Nat) (wr : va_W) (cI cZ cS : ClassId) (σ : ss_S) (s1 : Nat) (x2 : Int32) (h1 : isAr s1) : ss_MV l yX2_applyInto wsX2_applyInto rmX2_applyInto (ss_EC D A L wr cI cZ cS) [.ref (L (5)), .ref (L (s1)), .int (x2)] σ (fun post => wX2_applyInto s1 x2 σ post) :=
  ss_MV.of (cc := cX2_applyInto) (nL := 4) (ret := none) (own := RX2) (by decide) rfl rfl (Nat.le_of_ble_eq_true rfl) (fun post p e R s m below meth c H locs ls F hC hl hw => bX2_applyInto F h1 σ H locs ls hC hl hw)

set_option maxHeartbeats 4000000 in
set_option maxRecDepth 100000 in
theorem bX2_apply {s1 : Nat} {post : Int32 → ss_S → Prop} (F : ss_F p R s m args meth c (ss_EC D A L wr cI cZ cS) cX2_apply 2 wsX2_apply RX2 (some .int) rmX2_apply) (h1 : isAr s1) : ∀ (σ : ss_S) (H : Heap) (locs : List Loc) (ls : Array Slot), ss_C (ss_EC D A L wr cI cZ cS) σ s H locs → lv_has ls 2 [(0, .ref (L (5))), (1, .ref (L (s1)))] → wX2_apply s1 σ post → W p l e R s m args below meth c H locs 0 0 (MQ below (va_Qi post (ss_B (ss_EC D A L wr cI cZ cS)) A) args s 0 0 A) (F0 m 0 ls []) := by
  have hx := F.1.1
  have hb := F.1.2.1
  have u_X2 : ∀ w ∈ u_ws RX2 TX2 3, w ∈ wsX2_apply := by decide +kernel
  have f_18 : (Cond.fieldLink RX2 18 "SmallSpaces$Linear" "frame" "LSmallSpaces$Frame;").before args s = true := F.1.2.2.2.2 _ (by decide +kernel)
  have f_15 : (Cond.fieldLink RX2 15 "SmallSpaces$Linear" "result" "[I").before args s = true := F.1.2.2.2.2 _ (by decide +kernel)
  intro σ H locs ls hC hl hw
  unfold wX2_apply at hw
  refine lv_aload_n hx hb dX2_apply_0 rfl (lv_at hl 0 rfl) ?_
  refine lv_aload_n hx hb dX2_apply_1 rfl (lv_at hl 1 rfl) ?_
  refine lv_iconst (v := 0) hx hb dX2_apply_2 (by decide) ?_
  refine ss_kv (ss_rV (C := RX2) (As := [.ref (L (s1)), .int (0)]) (rest := []) F ((mX2_applyInto l D A L wr cI cZ cS σ s1 0 h1) _) gX2_apply_X2_applyInto rfl ⟨rfl, rfl⟩ ⟨rfl, dvX2_applyInto⟩ ⟨Nat.le_of_ble_eq_true rfl, Nat.le_of_ble_eq_true rfl⟩ (ss_preV F.2.2.2.2.1 F.2.2.2.2.2 hC (ss_rec (C := RX2) (T := TX2) (N := 3) (ci := 2) F.2.2.2.2.1 hC (5) (Nat.le_of_ble_eq_true rfl) rfl rfl) hw) rfl hl.1 rfl (Nat.le_of_ble_eq_true rfl) dX2_apply_3 ⟨Nat.zero_le _, Nat.zero_le _⟩) hC (fun σ1 H locs hC hw => ?_)
  refine lv_aload_n hx hb dX2_apply_6 rfl (lv_at hl 0 rfl) ?_
  refine ss_get (C := RX2) (T := TX2) (N := 3) (ci := 2) (v := .ref (L (1))) F hC (5) u_X2 (Nat.le_of_ble_eq_true rfl) rfl rfl 0 (by decide) f_18 rfl dX2_apply_7 ?_
  refine lv_aload_n hx hb dX2_apply_10 rfl (lv_at hl 0 rfl) ?_
  refine ss_get (C := RX2) (T := TX2) (N := 3) (ci := 2) (v := .ref (L (8))) F hC (5) u_X2 (Nat.le_of_ble_eq_true rfl) rfl rfl 2 (by decide) f_15 rfl dX2_apply_11 ?_
  refine lv_iconst (v := 0) hx hb dX2_apply_14 (by decide) ?_
  refine ss_ki (ss_rVN (C := RX0) (host := RX4) (As := [.ref (L (8)), .int (0)]) (rest := []) F ((mX0_vectorNumber l D A L wr cI cZ cS σ1 8 0 isAr_8) _) gX2_apply_X0_vectorNumber_n37 rfl ⟨rfl, rfl⟩ dvX0_vectorNumber (by decide +kernel) ⟨by decide +kernel, by decide +kernel, by decide +kernel⟩ ⟨Nat.le_of_ble_eq_true rfl, Nat.le_of_ble_eq_true rfl⟩ (ss_preV F.2.2.2.2.1 F.2.2.2.2.2 hC (ss_rec (C := RX0) (T := TX0) (N := 3) (ci := 0) F.2.2.2.2.1 hC (1) (Nat.le_of_ble_eq_true rfl) rfl rfl) hw) rfl hl.1 rfl (Nat.le_of_ble_eq_true rfl) dX2_apply_15 ⟨Nat.zero_le _, Nat.zero_le _⟩) hC (fun r3 σ2 H locs hC hw => ?_)
  exact ss_iret F hC hw dX2_apply_18

theorem mX2_apply (l : Launch) (D : va_G) (A : Nat → Prop) (L : Nat → Nat) (wr : va_W) (cI cZ cS : ClassId) (σ : ss_S) (s1 : Nat) (h1 : isAr s1) : ss_MI l yX2_apply wsX2_apply rmX2_apply (ss_EC D A L wr cI cZ cS) [.ref (L (5)), .ref (L (s1))] σ (fun post => wX2_apply s1 σ post) :=
  ss_MI.of (cc := cX2_apply) (nL := 2) (ret := (some .int)) (own := RX2) (by decide) rfl rfl (Nat.le_of_ble_eq_true rfl) (fun post p e R s m below meth c H locs ls F hC hl hw => bX2_apply F h1 σ H locs ls hC hl hw)

set_option maxHeartbeats 4000000 in
set_option maxRecDepth 100000 in
theorem tX2_applyToSpace_6 {s1 : Nat} {s2 : Nat} {post : ss_S → Prop} (F : ss_F p R s m args meth c (ss_EC D A L wr cI cZ cS) cX2_applyToSpace 4 wsX2_applyToSpace RX2 none rmX2_applyToSpace) (h1 : isSp s1) (h2 : isSp s2) (k52 : Int32 → ss_S → Prop) : ∀ (n : Nat) (x3 : Int32) (σ : ss_S) (H : Heap) (locs : List Loc) (ls : Array Slot), ss_C (ss_EC D A L wr cI cZ cS) σ s H locs → lv_has ls 4 [(0, .ref (L (5))), (1, .ref (L (s1))), (2, .ref (L (s2))), (3, .int (x3))] → lX2_applyToSpace_6 s1 s2 post k52 n x3 σ →
    (∀ (x3 : Int32) (σ : ss_S) (H : Heap) (locs : List Loc) (ls : Array Slot), ss_C (ss_EC D A L wr cI cZ cS) σ s H locs → lv_has ls 4 [] → k52 x3 σ → W p l e R s m args below meth c H locs 0 0 (MQ below (va_Qv post (ss_B (ss_EC D A L wr cI cZ cS)) A) args s 0 0 A) (F0 m 52 ls [])) →
    W p l e R s m args below meth c H locs 0 0 (MQ below (va_Qv post (ss_B (ss_EC D A L wr cI cZ cS)) A) args s 0 0 A) (F0 m 6 ls []) := by
  have hx := F.1.1
  have hb := F.1.2.1
  have u_X2 : ∀ w ∈ u_ws RX2 TX2 3, w ∈ wsX2_applyToSpace := by decide +kernel
  have f_18 : (Cond.fieldLink RX2 18 "SmallSpaces$Linear" "frame" "LSmallSpaces$Frame;").before args s = true := F.1.2.2.2.2 _ (by decide +kernel)
  have u_X0 : ∀ w ∈ u_ws RX0 TX0 3, w ∈ wsX2_applyToSpace := by decide +kernel
  have u_X3 : ∀ w ∈ u_ws RX3 TX3 4, w ∈ wsX2_applyToSpace := by decide +kernel
  have f_15 : (Cond.fieldLink RX2 15 "SmallSpaces$Linear" "result" "[I").before args s = true := F.1.2.2.2.2 _ (by decide +kernel)
  intro n
  induction n with
  | zero => intro x3 σ H locs ls hC hl hw; exact hw.elim
  | succ n ih =>
    intro x3 σ H locs ls hC hl hw hk52
    refine lv_iload_n hx hb dX2_applyToSpace_6 rfl (lv_at hl 3 rfl) ?_
    refine lv_aload_n hx hb dX2_applyToSpace_7 rfl (lv_at hl 0 rfl) ?_
    refine ss_get (C := RX2) (T := TX2) (N := 3) (ci := 2) (v := .ref (L (1))) F hC (5) u_X2 (Nat.le_of_ble_eq_true rfl) rfl rfl 0 (by decide) f_18 rfl dX2_applyToSpace_8 ?_
    refine ss_getN (C := RX0) (T := TX0) (N := 3) (ci := 0) (host := RX4) (v := .int (σ 1 1)) F hC (1) u_X0 (Nat.le_of_ble_eq_true rfl) rfl rfl 1 (by decide) (by decide +kernel) rfl dX2_applyToSpace_11 ?_
    refine lv_icmp_ge (tgt := 52) hx hb dX2_applyToSpace_14 (by decide) (fun hc => ?_) (fun hc => ?_)
    · replace hw := hw.1 hc
      exact hk52 x3 σ _ _ _ hC (lv_sub hl [] rfl) hw
    · replace hw := hw.2 hc
      refine lv_aload_n hx hb dX2_applyToSpace_17 rfl (lv_at hl 1 rfl) ?_
      refine lv_iload_n hx hb dX2_applyToSpace_18 rfl (lv_at hl 3 rfl) ?_
      refine ss_ki (ss_rVN (C := RX3) (host := RX4) (As := [.int (x3)]) (rest := []) F ((mX3_isPivot l D A L wr cI cZ cS σ s1 x3 h1) _) gX2_applyToSpace_X3_isPivot_n57 rfl ⟨rfl, rfl⟩ dvX3_isPivot (by decide +kernel) ⟨by decide +kernel, by decide +kernel, by decide +kernel⟩ ⟨Nat.le_of_ble_eq_true rfl, Nat.le_of_ble_eq_true rfl⟩ (ss_preV F.2.2.2.2.1 F.2.2.2.2.2 hC (ss_rec (C := RX3) (T := TX3) (N := 4) (ci := 3) F.2.2.2.2.1 hC (s1) h1.lt (ceC_sp (L := L) (cI := cI) (cS := cS) h1 _) rfl) hw) rfl hl.1 rfl (Nat.le_of_ble_eq_true rfl) dX2_applyToSpace_19 ⟨Nat.zero_le _, Nat.zero_le _⟩) hC (fun r3 σ2 H locs hC hw => ?_)
      refine lv_if_eq (tgt := 46) hx hb dX2_applyToSpace_22 (by decide) (fun hc => ?_) (fun hc => ?_)
      · replace hw := hw.1 hc
        refine lv_iinc (v := x3 + 1) (lv' := [(3, .int (x3 + 1)), (0, .ref (L (5))), (1, .ref (L (s1))), (2, .ref (L (s2)))]) hx hb dX2_applyToSpace_46 hl (k := 3) rfl rfl (by decide) rfl (fun ls hl => ?_)
        refine lv_goto (tgt := 6) hx hb dX2_applyToSpace_49 (by decide) ?_
        exact ih (x3 + 1) σ2 _ _ _ hC (lv_sub hl [1, 2, 3, 0] rfl) hw hk52
      · replace hw := hw.2 hc
        refine lv_aload_n hx hb dX2_applyToSpace_25 rfl (lv_at hl 0 rfl) ?_
        refine lv_aload_n hx hb dX2_applyToSpace_26 rfl (lv_at hl 1 rfl) ?_
        refine ss_getN (C := RX3) (T := TX3) (N := 4) (ci := 3) (host := RX4) (v := .ref (L (s1 + 1))) F hC (s1) u_X3 h1.lt (ceC_sp (L := L) (cI := cI) (cS := cS) h1 _) rfl 1 (by decide) (by decide +kernel) rfl dX2_applyToSpace_27 ?_
        refine lv_iload_n hx hb dX2_applyToSpace_30 rfl (lv_at hl 3 rfl) ?_
        refine lv_bipush (v := 6) hx hb dX2_applyToSpace_31 (by decide) ?_
        refine lv_imul hx hb dX2_applyToSpace_33 ?_
        refine ss_kv (ss_rV (C := RX2) (As := [.ref (L (s1 + 1)), .int (x3 * 6)]) (rest := []) F ((mX2_applyInto l D A L wr cI cZ cS σ2 (s1 + 1) (x3 * 6) h1.cells) _) gX2_applyToSpace_X2_applyInto rfl ⟨rfl, rfl⟩ ⟨rfl, dvX2_applyInto⟩ ⟨Nat.le_of_ble_eq_true rfl, Nat.le_of_ble_eq_true rfl⟩ (ss_preV F.2.2.2.2.1 F.2.2.2.2.2 hC (ss_rec (C := RX2) (T := TX2) (N := 3) (ci := 2) F.2.2.2.2.1 hC (5) (Nat.le_of_ble_eq_true rfl) rfl rfl) hw) rfl hl.1 rfl (Nat.le_of_ble_eq_true rfl) dX2_applyToSpace_34 ⟨Nat.zero_le _, Nat.zero_le _⟩) hC (fun σ4 H locs hC hw => ?_)
        refine lv_aload_n hx hb dX2_applyToSpace_37 rfl (lv_at hl 2 rfl) ?_
        refine lv_aload_n hx hb dX2_applyToSpace_38 rfl (lv_at hl 0 rfl) ?_
        refine ss_get (C := RX2) (T := TX2) (N := 3) (ci := 2) (v := .ref (L (8))) F hC (5) u_X2 (Nat.le_of_ble_eq_true rfl) rfl rfl 2 (by decide) f_15 rfl dX2_applyToSpace_39 ?_
        refine lv_iconst (v := 0) hx hb dX2_applyToSpace_42 (by decide) ?_
        refine ss_kv (ss_rVN (C := RX3) (host := RX4) (As := [.ref (L (8)), .int (0)]) (rest := []) F ((mX3_joinVector l D A L wr cI cZ cS σ4 s2 8 0 h2 isAr_8) _) gX2_applyToSpace_X3_joinVector_n62 rfl ⟨rfl, rfl⟩ dvX3_joinVector (by decide +kernel) ⟨by decide +kernel, by decide +kernel, by decide +kernel⟩ ⟨Nat.le_of_ble_eq_true rfl, Nat.le_of_ble_eq_true rfl⟩ (ss_preV F.2.2.2.2.1 F.2.2.2.2.2 hC (ss_rec (C := RX3) (T := TX3) (N := 4) (ci := 3) F.2.2.2.2.1 hC (s2) h2.lt (ceC_sp (L := L) (cI := cI) (cS := cS) h2 _) rfl) hw) rfl hl.1 rfl (Nat.le_of_ble_eq_true rfl) dX2_applyToSpace_43 ⟨Nat.zero_le _, Nat.zero_le _⟩) hC (fun σ5 H locs hC hw => ?_)
        refine lv_iinc (v := x3 + 1) (lv' := [(3, .int (x3 + 1)), (0, .ref (L (5))), (1, .ref (L (s1))), (2, .ref (L (s2)))]) hx hb dX2_applyToSpace_46 hl (k := 3) rfl rfl (by decide) rfl (fun ls hl => ?_)
        refine lv_goto (tgt := 6) hx hb dX2_applyToSpace_49 (by decide) ?_
        exact ih (x3 + 1) σ5 _ _ _ hC (lv_sub hl [1, 2, 3, 0] rfl) hw hk52

set_option maxHeartbeats 4000000 in
set_option maxRecDepth 100000 in
theorem bX2_applyToSpace {s1 : Nat} {s2 : Nat} {post : ss_S → Prop} (F : ss_F p R s m args meth c (ss_EC D A L wr cI cZ cS) cX2_applyToSpace 4 wsX2_applyToSpace RX2 none rmX2_applyToSpace) (h1 : isSp s1) (h2 : isSp s2) : ∀ (σ : ss_S) (H : Heap) (locs : List Loc) (ls : Array Slot), ss_C (ss_EC D A L wr cI cZ cS) σ s H locs → lv_has ls 4 [(0, .ref (L (5))), (1, .ref (L (s1))), (2, .ref (L (s2)))] → wX2_applyToSpace s1 s2 σ post → W p l e R s m args below meth c H locs 0 0 (MQ below (va_Qv post (ss_B (ss_EC D A L wr cI cZ cS)) A) args s 0 0 A) (F0 m 0 ls []) := by
  have hx := F.1.1
  have hb := F.1.2.1
  intro σ H locs ls hC hl hw
  unfold wX2_applyToSpace at hw
  refine lv_aload_n hx hb dX2_applyToSpace_0 rfl (lv_at hl 2 rfl) ?_
  refine ss_kv (ss_rVN (C := RX3) (host := RX4) (As := []) (rest := []) F ((mX3_becomeZero l D A L wr cI cZ cS σ s2 h2) _) gX2_applyToSpace_X3_becomeZero_n52 rfl ⟨rfl, rfl⟩ dvX3_becomeZero (by decide +kernel) ⟨by decide +kernel, by decide +kernel, by decide +kernel⟩ ⟨Nat.le_of_ble_eq_true rfl, Nat.le_of_ble_eq_true rfl⟩ (ss_preV F.2.2.2.2.1 F.2.2.2.2.2 hC (ss_rec (C := RX3) (T := TX3) (N := 4) (ci := 3) F.2.2.2.2.1 hC (s2) h2.lt (ceC_sp (L := L) (cI := cI) (cS := cS) h2 _) rfl) hw) rfl hl.1 rfl (Nat.le_of_ble_eq_true rfl) dX2_applyToSpace_1 ⟨Nat.zero_le _, Nat.zero_le _⟩) hC (fun σ1 H locs hC hw => ?_)
  refine lv_iconst (v := 0) hx hb dX2_applyToSpace_4 (by decide) ?_
  refine lv_istore_n (lv' := [(3, .int (0)), (0, .ref (L (5))), (1, .ref (L (s1))), (2, .ref (L (s2)))]) hx hb dX2_applyToSpace_5 rfl hl (by decide) rfl (fun ls hl => ?_)
  obtain ⟨n_, hw⟩ := hw
  refine tX2_applyToSpace_6 F h1 h2 _ n_ 0 σ1 _ _ _ hC (lv_sub hl [1, 2, 3, 0] rfl) hw ?_
  · intro x3_6 σ_6 H locs ls hC hl hw
    exact ss_vret F hC hw dX2_applyToSpace_52

theorem mX2_applyToSpace (l : Launch) (D : va_G) (A : Nat → Prop) (L : Nat → Nat) (wr : va_W) (cI cZ cS : ClassId) (σ : ss_S) (s1 : Nat) (s2 : Nat) (h1 : isSp s1) (h2 : isSp s2) : ss_MV l yX2_applyToSpace wsX2_applyToSpace rmX2_applyToSpace (ss_EC D A L wr cI cZ cS) [.ref (L (5)), .ref (L (s1)), .ref (L (s2))] σ (fun post => wX2_applyToSpace s1 s2 σ post) :=
  ss_MV.of (cc := cX2_applyToSpace) (nL := 4) (ret := none) (own := RX2) (by decide) rfl rfl (Nat.le_of_ble_eq_true rfl) (fun post p e R s m below meth c H locs ls F hC hl hw => bX2_applyToSpace F h1 h2 σ H locs ls hC hl hw)

set_option maxHeartbeats 4000000 in
set_option maxRecDepth 100000 in
theorem tX2_columnSpace_19 {s1 : Nat} {x2 : Int32} {post : ss_S → Prop} (F : ss_F p R s m args meth c (ss_EC D A L wr cI cZ cS) cX2_columnSpace 4 wsX2_columnSpace RX2 none rmX2_columnSpace) (h1 : isSp s1) (k53 : Int32 → ss_S → Prop) : ∀ (n : Nat) (x3 : Int32) (σ : ss_S) (H : Heap) (locs : List Loc) (ls : Array Slot), ss_C (ss_EC D A L wr cI cZ cS) σ s H locs → lv_has ls 4 [(0, .ref (L (5))), (1, .ref (L (s1))), (2, .int (x2)), (3, .int (x3))] → lX2_columnSpace_19 s1 x2 post k53 n x3 σ →
    (∀ (x3 : Int32) (σ : ss_S) (H : Heap) (locs : List Loc) (ls : Array Slot), ss_C (ss_EC D A L wr cI cZ cS) σ s H locs → lv_has ls 4 [(0, .ref (L (5))), (1, .ref (L (s1))), (2, .int (x2))] → k53 x3 σ → W p l e R s m args below meth c H locs 0 0 (MQ below (va_Qv post (ss_B (ss_EC D A L wr cI cZ cS)) A) args s 0 0 A) (F0 m 53 ls [])) →
    W p l e R s m args below meth c H locs 0 0 (MQ below (va_Qv post (ss_B (ss_EC D A L wr cI cZ cS)) A) args s 0 0 A) (F0 m 19 ls []) := by
  have hx := F.1.1
  have hb := F.1.2.1
  have u_X2 : ∀ w ∈ u_ws RX2 TX2 3, w ∈ wsX2_columnSpace := by decide +kernel
  have f_18 : (Cond.fieldLink RX2 18 "SmallSpaces$Linear" "frame" "LSmallSpaces$Frame;").before args s = true := F.1.2.2.2.2 _ (by decide +kernel)
  have u_X0 : ∀ w ∈ u_ws RX0 TX0 3, w ∈ wsX2_columnSpace := by decide +kernel
  have f_15 : (Cond.fieldLink RX2 15 "SmallSpaces$Linear" "result" "[I").before args s = true := F.1.2.2.2.2 _ (by decide +kernel)
  have f_9 : (Cond.fieldLink RX2 9 "SmallSpaces$Linear" "cells" "[I").before args s = true := F.1.2.2.2.2 _ (by decide +kernel)
  intro n
  induction n with
  | zero => intro x3 σ H locs ls hC hl hw; exact hw.elim
  | succ n ih =>
    intro x3 σ H locs ls hC hl hw hk53
    refine lv_iload_n hx hb dX2_columnSpace_19 rfl (lv_at hl 3 rfl) ?_
    refine lv_aload_n hx hb dX2_columnSpace_20 rfl (lv_at hl 0 rfl) ?_
    refine ss_get (C := RX2) (T := TX2) (N := 3) (ci := 2) (v := .ref (L (1))) F hC (5) u_X2 (Nat.le_of_ble_eq_true rfl) rfl rfl 0 (by decide) f_18 rfl dX2_columnSpace_21 ?_
    refine ss_getN (C := RX0) (T := TX0) (N := 3) (ci := 0) (host := RX4) (v := .int (σ 1 1)) F hC (1) u_X0 (Nat.le_of_ble_eq_true rfl) rfl rfl 1 (by decide) (by decide +kernel) rfl dX2_columnSpace_24 ?_
    refine lv_icmp_ge (tgt := 53) hx hb dX2_columnSpace_27 (by decide) (fun hc => ?_) (fun hc => ?_)
    · replace hw := hw.1 hc
      exact hk53 x3 σ _ _ _ hC (lv_sub hl [0, 1, 2] rfl) hw
    · replace hw := hw.2 hc
      refine lv_aload_n hx hb dX2_columnSpace_30 rfl (lv_at hl 0 rfl) ?_
      refine ss_get (C := RX2) (T := TX2) (N := 3) (ci := 2) (v := .ref (L (8))) F hC (5) u_X2 (Nat.le_of_ble_eq_true rfl) rfl rfl 2 (by decide) f_15 rfl dX2_columnSpace_31 ?_
      refine lv_iload_n hx hb dX2_columnSpace_34 rfl (lv_at hl 3 rfl) ?_
      refine lv_aload_n hx hb dX2_columnSpace_35 rfl (lv_at hl 0 rfl) ?_
      refine ss_get (C := RX2) (T := TX2) (N := 3) (ci := 2) (v := .ref (L (7))) F hC (5) u_X2 (Nat.le_of_ble_eq_true rfl) rfl rfl 1 (by decide) f_9 rfl dX2_columnSpace_36 ?_
      refine lv_iload_n hx hb dX2_columnSpace_39 rfl (lv_at hl 3 rfl) ?_
      refine lv_bipush (v := 6) hx hb dX2_columnSpace_40 (by decide) ?_
      refine lv_imul hx hb dX2_columnSpace_42 ?_
      refine lv_iload_n hx hb dX2_columnSpace_43 rfl (lv_at hl 2 rfl) ?_
      refine lv_iadd hx hb dX2_columnSpace_44 ?_
      refine ss_iald F hC (7) 0 isAr_7.lt (ceC_ar (L := L) (cI := cI) (cS := cS) isAr_7) rfl hw.1 dX2_columnSpace_45 ?_
      replace hw := hw.2
      refine ss_iast F hC (8) 0 isAr_8.lt (ceC_ar (L := L) (cI := cI) (cS := cS) isAr_8) rfl hw.1 dX2_columnSpace_46 (fun H locs hC => ?_)
      replace hw := hw.2
      refine lv_iinc (v := x3 + 1) (lv' := [(3, .int (x3 + 1)), (0, .ref (L (5))), (1, .ref (L (s1))), (2, .int (x2))]) hx hb dX2_columnSpace_47 hl (k := 3) rfl rfl (by decide) rfl (fun ls hl => ?_)
      refine lv_goto (tgt := 19) hx hb dX2_columnSpace_50 (by decide) ?_
      exact ih (x3 + 1) (u2 σ 8 (Int32.toNatClampNeg x3) (σ 7 (Int32.toNatClampNeg ((x3 * 6) + x2)))) _ _ _ hC (lv_sub hl [1, 2, 3, 0] rfl) hw hk53

set_option maxHeartbeats 4000000 in
set_option maxRecDepth 100000 in
theorem tX2_columnSpace_6 {s1 : Nat} {post : ss_S → Prop} (F : ss_F p R s m args meth c (ss_EC D A L wr cI cZ cS) cX2_columnSpace 4 wsX2_columnSpace RX2 none rmX2_columnSpace) (h1 : isSp s1) (k68 : Int32 → ss_S → Prop) : ∀ (n : Nat) (x2 : Int32) (σ : ss_S) (H : Heap) (locs : List Loc) (ls : Array Slot), ss_C (ss_EC D A L wr cI cZ cS) σ s H locs → lv_has ls 4 [(0, .ref (L (5))), (1, .ref (L (s1))), (2, .int (x2))] → lX2_columnSpace_6 s1 post k68 n x2 σ →
    (∀ (x2 : Int32) (σ : ss_S) (H : Heap) (locs : List Loc) (ls : Array Slot), ss_C (ss_EC D A L wr cI cZ cS) σ s H locs → lv_has ls 4 [] → k68 x2 σ → W p l e R s m args below meth c H locs 0 0 (MQ below (va_Qv post (ss_B (ss_EC D A L wr cI cZ cS)) A) args s 0 0 A) (F0 m 68 ls [])) →
    W p l e R s m args below meth c H locs 0 0 (MQ below (va_Qv post (ss_B (ss_EC D A L wr cI cZ cS)) A) args s 0 0 A) (F0 m 6 ls []) := by
  have hx := F.1.1
  have hb := F.1.2.1
  have u_X2 : ∀ w ∈ u_ws RX2 TX2 3, w ∈ wsX2_columnSpace := by decide +kernel
  have f_18 : (Cond.fieldLink RX2 18 "SmallSpaces$Linear" "frame" "LSmallSpaces$Frame;").before args s = true := F.1.2.2.2.2 _ (by decide +kernel)
  have u_X0 : ∀ w ∈ u_ws RX0 TX0 3, w ∈ wsX2_columnSpace := by decide +kernel
  have f_15 : (Cond.fieldLink RX2 15 "SmallSpaces$Linear" "result" "[I").before args s = true := F.1.2.2.2.2 _ (by decide +kernel)
  intro n
  induction n with
  | zero => intro x2 σ H locs ls hC hl hw; exact hw.elim
  | succ n ih =>
    intro x2 σ H locs ls hC hl hw hk68
    refine lv_iload_n hx hb dX2_columnSpace_6 rfl (lv_at hl 2 rfl) ?_
    refine lv_aload_n hx hb dX2_columnSpace_7 rfl (lv_at hl 0 rfl) ?_
    refine ss_get (C := RX2) (T := TX2) (N := 3) (ci := 2) (v := .ref (L (1))) F hC (5) u_X2 (Nat.le_of_ble_eq_true rfl) rfl rfl 0 (by decide) f_18 rfl dX2_columnSpace_8 ?_
    refine ss_getN (C := RX0) (T := TX0) (N := 3) (ci := 0) (host := RX4) (v := .int (σ 1 1)) F hC (1) u_X0 (Nat.le_of_ble_eq_true rfl) rfl rfl 1 (by decide) (by decide +kernel) rfl dX2_columnSpace_11 ?_
    refine lv_icmp_ge (tgt := 68) hx hb dX2_columnSpace_14 (by decide) (fun hc => ?_) (fun hc => ?_)
    · replace hw := hw.1 hc
      exact hk68 x2 σ _ _ _ hC (lv_sub hl [] rfl) hw
    · replace hw := hw.2 hc
      refine lv_iconst (v := 0) hx hb dX2_columnSpace_17 (by decide) ?_
      refine lv_istore_n (lv' := [(3, .int (0)), (0, .ref (L (5))), (1, .ref (L (s1))), (2, .int (x2))]) hx hb dX2_columnSpace_18 rfl hl (by decide) rfl (fun ls hl => ?_)
      obtain ⟨n_, hw⟩ := hw
      refine tX2_columnSpace_19 F h1 _ n_ 0 σ _ _ _ hC (lv_sub hl [1, 2, 3, 0] rfl) hw ?_
      · intro x3_2 σ_2 H locs ls hC hl hw
        refine lv_aload_n hx hb dX2_columnSpace_53 rfl (lv_at hl 1 rfl) ?_
        refine lv_aload_n hx hb dX2_columnSpace_54 rfl (lv_at hl 0 rfl) ?_
        refine ss_get (C := RX2) (T := TX2) (N := 3) (ci := 2) (v := .ref (L (8))) F hC (5) u_X2 (Nat.le_of_ble_eq_true rfl) rfl rfl 2 (by decide) f_15 rfl dX2_columnSpace_55 ?_
        refine lv_iconst (v := 0) hx hb dX2_columnSpace_58 (by decide) ?_
        refine ss_kv (ss_rVN (C := RX3) (host := RX4) (As := [.ref (L (8)), .int (0)]) (rest := []) F ((mX3_joinVector l D A L wr cI cZ cS σ_2 s1 8 0 h1 isAr_8) _) gX2_columnSpace_X3_joinVector_n62 rfl ⟨rfl, rfl⟩ dvX3_joinVector (by decide +kernel) ⟨by decide +kernel, by decide +kernel, by decide +kernel⟩ ⟨Nat.le_of_ble_eq_true rfl, Nat.le_of_ble_eq_true rfl⟩ (ss_preV F.2.2.2.2.1 F.2.2.2.2.2 hC (ss_rec (C := RX3) (T := TX3) (N := 4) (ci := 3) F.2.2.2.2.1 hC (s1) h1.lt (ceC_sp (L := L) (cI := cI) (cS := cS) h1 _) rfl) hw) rfl hl.1 rfl (Nat.le_of_ble_eq_true rfl) dX2_columnSpace_59 ⟨Nat.zero_le _, Nat.zero_le _⟩) hC (fun σ3 H locs hC hw => ?_)
        refine lv_iinc (v := x2 + 1) (lv' := [(2, .int (x2 + 1)), (0, .ref (L (5))), (1, .ref (L (s1)))]) hx hb dX2_columnSpace_62 hl (k := 2) rfl rfl (by decide) rfl (fun ls hl => ?_)
        refine lv_goto (tgt := 6) hx hb dX2_columnSpace_65 (by decide) ?_
        exact ih (x2 + 1) σ3 _ _ _ hC (lv_sub hl [1, 2, 0] rfl) hw hk68

set_option maxHeartbeats 4000000 in
set_option maxRecDepth 100000 in
theorem bX2_columnSpace {s1 : Nat} {post : ss_S → Prop} (F : ss_F p R s m args meth c (ss_EC D A L wr cI cZ cS) cX2_columnSpace 4 wsX2_columnSpace RX2 none rmX2_columnSpace) (h1 : isSp s1) : ∀ (σ : ss_S) (H : Heap) (locs : List Loc) (ls : Array Slot), ss_C (ss_EC D A L wr cI cZ cS) σ s H locs → lv_has ls 4 [(0, .ref (L (5))), (1, .ref (L (s1)))] → wX2_columnSpace s1 σ post → W p l e R s m args below meth c H locs 0 0 (MQ below (va_Qv post (ss_B (ss_EC D A L wr cI cZ cS)) A) args s 0 0 A) (F0 m 0 ls []) := by
  have hx := F.1.1
  have hb := F.1.2.1
  intro σ H locs ls hC hl hw
  unfold wX2_columnSpace at hw
  refine lv_aload_n hx hb dX2_columnSpace_0 rfl (lv_at hl 1 rfl) ?_
  refine ss_kv (ss_rVN (C := RX3) (host := RX4) (As := []) (rest := []) F ((mX3_becomeZero l D A L wr cI cZ cS σ s1 h1) _) gX2_columnSpace_X3_becomeZero_n52 rfl ⟨rfl, rfl⟩ dvX3_becomeZero (by decide +kernel) ⟨by decide +kernel, by decide +kernel, by decide +kernel⟩ ⟨Nat.le_of_ble_eq_true rfl, Nat.le_of_ble_eq_true rfl⟩ (ss_preV F.2.2.2.2.1 F.2.2.2.2.2 hC (ss_rec (C := RX3) (T := TX3) (N := 4) (ci := 3) F.2.2.2.2.1 hC (s1) h1.lt (ceC_sp (L := L) (cI := cI) (cS := cS) h1 _) rfl) hw) rfl hl.1 rfl (Nat.le_of_ble_eq_true rfl) dX2_columnSpace_1 ⟨Nat.zero_le _, Nat.zero_le _⟩) hC (fun σ1 H locs hC hw => ?_)
  refine lv_iconst (v := 0) hx hb dX2_columnSpace_4 (by decide) ?_
  refine lv_istore_n (lv' := [(2, .int (0)), (0, .ref (L (5))), (1, .ref (L (s1)))]) hx hb dX2_columnSpace_5 rfl hl (by decide) rfl (fun ls hl => ?_)
  obtain ⟨n_, hw⟩ := hw
  refine tX2_columnSpace_6 F h1 _ n_ 0 σ1 _ _ _ hC (lv_sub hl [1, 2, 0] rfl) hw ?_
  · intro x2_4 σ_4 H locs ls hC hl hw
    exact ss_vret F hC hw dX2_columnSpace_68

theorem mX2_columnSpace (l : Launch) (D : va_G) (A : Nat → Prop) (L : Nat → Nat) (wr : va_W) (cI cZ cS : ClassId) (σ : ss_S) (s1 : Nat) (h1 : isSp s1) : ss_MV l yX2_columnSpace wsX2_columnSpace rmX2_columnSpace (ss_EC D A L wr cI cZ cS) [.ref (L (5)), .ref (L (s1))] σ (fun post => wX2_columnSpace s1 σ post) :=
  ss_MV.of (cc := cX2_columnSpace) (nL := 4) (ret := none) (own := RX2) (by decide) rfl rfl (Nat.le_of_ble_eq_true rfl) (fun post p e R s m below meth c H locs ls F hC hl hw => bX2_columnSpace F h1 σ H locs ls hC hl hw)
end
