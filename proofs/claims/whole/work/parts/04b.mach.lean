section
variable {p : Program} {l : Launch} {e : Env} {R : Room} {s : State} {m : MethodId} {args : Array Value} {below : List Frame} {meth : Method} {c : Code} {D : va_G} {A : Nat → Prop} {L : Nat → Nat} {wr : va_W} {cI cZ cS : ClassId}
set_option maxHeartbeats 4000000 in
set_option maxRecDepth 100000 in
theorem bX3_copyFrom {s0 : Nat} {s1 : Nat} {post : ss_S → Prop} (F : ss_F p R s m args meth c (ss_EC D A L wr cI cZ cS) cX3_copyFrom 2 wsX3_copyFrom RX3 none rmX3_copyFrom) (h0 : isSp s0) (h1 : isSp s1) : ∀ (σ : ss_S) (H : Heap) (locs : List Loc) (ls : Array Slot), ss_C (ss_EC D A L wr cI cZ cS) σ s H locs → lv_has ls 2 [(0, .ref (L (s0))), (1, .ref (L (s1)))] → wX3_copyFrom s0 s1 σ post → W p l e R s m args below meth c H locs 0 0 (MQ below (va_Qv post (ss_B (ss_EC D A L wr cI cZ cS)) A) args s 0 0 A) (F0 m 0 ls []) := by
  have hx := F.1.1
  have hb := F.1.2.1
  have u_X3 : ∀ w ∈ u_ws RX3 TX3 4, w ∈ wsX3_copyFrom := by decide +kernel
  have f_22 : (Cond.fieldLink RX3 22 "SmallSpaces$Space" "pivots" "I").before args s = true := F.1.2.2.2.2 _ (by decide +kernel)
  have f_9 : (Cond.fieldLink RX3 9 "SmallSpaces$Space" "cells" "[I").before args s = true := F.1.2.2.2.2 _ (by decide +kernel)
  have a_l : (Cond.methodLink RX3 26 arraycopyName).before args s = true := F.1.2.2.2.2 _ (by decide +kernel)
  have a_n : (Cond.native arraycopyName).before args s = true := F.1.2.2.2.2 _ (by decide +kernel)
  have a_s : (Cond.static arraycopyName).before args s = true := F.1.2.2.2.2 _ (by decide +kernel)
  have a_i : (Cond.initialized "java/lang/System").before args s = true := F.1.2.2.2.2 _ (by decide +kernel)
  intro σ H locs ls hC hl hw
  unfold wX3_copyFrom at hw
  refine lv_aload_n hx hb dX3_copyFrom_0 rfl (lv_at hl 0 rfl) ?_
  refine lv_aload_n hx hb dX3_copyFrom_1 rfl (lv_at hl 1 rfl) ?_
  refine ss_get (C := RX3) (T := TX3) (N := 4) (ci := 3) (v := .int (σ s1 3)) F hC (s1) u_X3 h1.lt (ceC_sp (L := L) (cI := cI) (cS := cS) h1 _) rfl 3 (by decide) f_22 rfl dX3_copyFrom_2 ?_
  refine ss_put (C := RX3) (T := TX3) (N := 4) (ci := 3) F hC (s0) tyX3 tyX3_ok nmX3 u_X3 h0.lt (ceC_sp (L := L) (cI := cI) (cS := cS) h0 _) rfl 3 (by decide) f_22 rfl (by decide +kernel) (Nat.le_of_ble_eq_true rfl) ((ceC_sp (L := L) (cI := cI) (cS := cS) h0 _).trans rfl) dX3_copyFrom_5 (fun H locs hC => ?_)
  refine lv_aload_n hx hb dX3_copyFrom_8 rfl (lv_at hl 1 rfl) ?_
  refine ss_get (C := RX3) (T := TX3) (N := 4) (ci := 3) (v := .ref (L (s1 + 1))) F hC (s1) u_X3 h1.lt (ceC_sp (L := L) (cI := cI) (cS := cS) h1 _) rfl 1 (by decide) f_9 rfl dX3_copyFrom_9 ?_
  refine lv_iconst (v := 0) hx hb dX3_copyFrom_12 (by decide) ?_
  refine lv_aload_n hx hb dX3_copyFrom_13 rfl (lv_at hl 0 rfl) ?_
  refine ss_get (C := RX3) (T := TX3) (N := 4) (ci := 3) (v := .ref (L (s0 + 1))) F hC (s0) u_X3 h0.lt (ceC_sp (L := L) (cI := cI) (cS := cS) h0 _) rfl 1 (by decide) f_9 rfl dX3_copyFrom_14 ?_
  refine lv_iconst (v := 0) hx hb dX3_copyFrom_17 (by decide) ?_
  refine lv_aload_n hx hb dX3_copyFrom_18 rfl (lv_at hl 0 rfl) ?_
  refine ss_get (C := RX3) (T := TX3) (N := 4) (ci := 3) (v := .ref (L (s0 + 1))) F hC (s0) u_X3 h0.lt (ceC_sp (L := L) (cI := cI) (cS := cS) h0 _) rfl 1 (by decide) f_9 rfl dX3_copyFrom_19 ?_
  refine ss_alen F hC (s0 + 1) 0 h0.cells.lt (ceC_ar (L := L) (cI := cI) (cS := cS) h0.cells) rfl dX3_copyFrom_22 ?_
  refine ss_copy F hC hl.1 a_l a_n a_s a_i (s1 + 1) (s0 + 1) 0 h1.cells.lt h0.cells.lt (ceC_ar (L := L) (cI := cI) (cS := cS) h1.cells) (ceC_ar (L := L) (cI := cI) (cS := cS) h0.cells) rfl hw.1 hw.2.1 hw.2.2.1 hw.2.2.2.1 hw.2.2.2.2.1 (Nat.le_of_ble_eq_true rfl) (Nat.le_of_ble_eq_true rfl) dX3_copyFrom_23 (fun H locs hC => ?_)
  replace hw := hw.2.2.2.2.2
  exact ss_vret F hC hw dX3_copyFrom_26

theorem mX3_copyFrom (l : Launch) (D : va_G) (A : Nat → Prop) (L : Nat → Nat) (wr : va_W) (cI cZ cS : ClassId) (σ : ss_S) (s0 : Nat) (s1 : Nat) (h0 : isSp s0) (h1 : isSp s1) : ss_MV l yX3_copyFrom wsX3_copyFrom rmX3_copyFrom (ss_EC D A L wr cI cZ cS) [.ref (L (s0)), .ref (L (s1))] σ (fun post => wX3_copyFrom s0 s1 σ post) :=
  ss_MV.of (cc := cX3_copyFrom) (nL := 2) (ret := none) (own := RX3) (by decide) rfl rfl (Nat.le_of_ble_eq_true rfl) (fun post p e R s m below meth c H locs ls F hC hl hw => bX3_copyFrom F h0 h1 σ H locs ls hC hl hw)

set_option maxHeartbeats 4000000 in
set_option maxRecDepth 100000 in
theorem bX3_isPivot {s0 : Nat} {x1 : Int32} {post : Int32 → ss_S → Prop} (F : ss_F p R s m args meth c (ss_EC D A L wr cI cZ cS) cX3_isPivot 2 wsX3_isPivot RX3 (some .boolean) rmX3_isPivot) (h0 : isSp s0) : ∀ (σ : ss_S) (H : Heap) (locs : List Loc) (ls : Array Slot), ss_C (ss_EC D A L wr cI cZ cS) σ s H locs → lv_has ls 2 [(0, .ref (L (s0))), (1, .int (x1))] → wX3_isPivot s0 x1 σ post → W p l e R s m args below meth c H locs 0 0 (MQ below (va_Qi post (ss_B (ss_EC D A L wr cI cZ cS)) A) args s 0 0 A) (F0 m 0 ls []) := by
  have hx := F.1.1
  have hb := F.1.2.1
  have u_X3 : ∀ w ∈ u_ws RX3 TX3 4, w ∈ wsX3_isPivot := by decide +kernel
  have f_22 : (Cond.fieldLink RX3 22 "SmallSpaces$Space" "pivots" "I").before args s = true := F.1.2.2.2.2 _ (by decide +kernel)
  have f_18 : (Cond.fieldLink RX3 18 "SmallSpaces$Space" "frame" "LSmallSpaces$Frame;").before args s = true := F.1.2.2.2.2 _ (by decide +kernel)
  have u_X0 : ∀ w ∈ u_ws RX0 TX0 3, w ∈ wsX3_isPivot := by decide +kernel
  intro σ H locs ls hC hl hw
  unfold wX3_isPivot at hw
  refine lv_aload_n hx hb dX3_isPivot_0 rfl (lv_at hl 0 rfl) ?_
  refine ss_get (C := RX3) (T := TX3) (N := 4) (ci := 3) (v := .int (σ s0 3)) F hC (s0) u_X3 h0.lt (ceC_sp (L := L) (cI := cI) (cS := cS) h0 _) rfl 3 (by decide) f_22 rfl dX3_isPivot_1 ?_
  refine lv_aload_n hx hb dX3_isPivot_4 rfl (lv_at hl 0 rfl) ?_
  refine ss_get (C := RX3) (T := TX3) (N := 4) (ci := 3) (v := .ref (L (1))) F hC (s0) u_X3 h0.lt (ceC_sp (L := L) (cI := cI) (cS := cS) h0 _) rfl 0 (by decide) f_18 rfl dX3_isPivot_5 ?_
  refine ss_getN (C := RX0) (T := TX0) (N := 3) (ci := 0) (host := RX4) (v := .int (σ 1 1)) F hC (1) u_X0 (Nat.le_of_ble_eq_true rfl) rfl rfl 1 (by decide) (by decide +kernel) rfl dX3_isPivot_8 ?_
  refine lv_iconst (v := 1) hx hb dX3_isPivot_11 (by decide) ?_
  refine lv_isub hx hb dX3_isPivot_12 ?_
  refine lv_iload_n hx hb dX3_isPivot_13 rfl (lv_at hl 1 rfl) ?_
  refine lv_isub hx hb dX3_isPivot_14 ?_
  refine lv_ishr hx hb dX3_isPivot_15 ?_
  refine lv_iconst (v := 1) hx hb dX3_isPivot_16 (by decide) ?_
  refine lv_iand hx hb dX3_isPivot_17 ?_
  refine lv_iconst (v := 1) hx hb dX3_isPivot_18 (by decide) ?_
  refine lv_icmp_ne (tgt := 26) hx hb dX3_isPivot_19 (by decide) (fun hc => ?_) (fun hc => ?_)
  · replace hw := hw.1 hc
    refine lv_iconst (v := 0) hx hb dX3_isPivot_26 (by decide) ?_
    exact ss_zret F hC rfl hw dX3_isPivot_27
  · replace hw := hw.2 hc
    refine lv_iconst (v := 1) hx hb dX3_isPivot_22 (by decide) ?_
    refine lv_goto (tgt := 27) hx hb dX3_isPivot_23 (by decide) ?_
    exact ss_zret F hC rfl hw dX3_isPivot_27

theorem mX3_isPivot (l : Launch) (D : va_G) (A : Nat → Prop) (L : Nat → Nat) (wr : va_W) (cI cZ cS : ClassId) (σ : ss_S) (s0 : Nat) (x1 : Int32) (h0 : isSp s0) : ss_MI l yX3_isPivot wsX3_isPivot rmX3_isPivot (ss_EC D A L wr cI cZ cS) [.ref (L (s0)), .int (x1)] σ (fun post => wX3_isPivot s0 x1 σ post) :=
  ss_MI.of (cc := cX3_isPivot) (nL := 2) (ret := (some .boolean)) (own := RX3) (by decide) rfl rfl (Nat.le_of_ble_eq_true rfl) (fun post p e R s m below meth c H locs ls F hC hl hw => bX3_isPivot F h0 σ H locs ls hC hl hw)

set_option maxHeartbeats 4000000 in
set_option maxRecDepth 100000 in
theorem tX3_reduceFresh_2 {s0 : Nat} {post : ss_S → Prop} (F : ss_F p R s m args meth c (ss_EC D A L wr cI cZ cS) cX3_reduceFresh 2 wsX3_reduceFresh RX3 none rmX3_reduceFresh) (h0 : isSp s0) (k70 : Int32 → ss_S → Prop) : ∀ (n : Nat) (x1 : Int32) (σ : ss_S) (H : Heap) (locs : List Loc) (ls : Array Slot), ss_C (ss_EC D A L wr cI cZ cS) σ s H locs → lv_has ls 2 [(0, .ref (L (s0))), (1, .int (x1))] → lX3_reduceFresh_2 s0 post k70 n x1 σ →
    (∀ (x1 : Int32) (σ : ss_S) (H : Heap) (locs : List Loc) (ls : Array Slot), ss_C (ss_EC D A L wr cI cZ cS) σ s H locs → lv_has ls 2 [] → k70 x1 σ → W p l e R s m args below meth c H locs 0 0 (MQ below (va_Qv post (ss_B (ss_EC D A L wr cI cZ cS)) A) args s 0 0 A) (F0 m 70 ls [])) →
    W p l e R s m args below meth c H locs 0 0 (MQ below (va_Qv post (ss_B (ss_EC D A L wr cI cZ cS)) A) args s 0 0 A) (F0 m 2 ls []) := by
  have hx := F.1.1
  have hb := F.1.2.1
  have u_X3 : ∀ w ∈ u_ws RX3 TX3 4, w ∈ wsX3_reduceFresh := by decide +kernel
  have f_18 : (Cond.fieldLink RX3 18 "SmallSpaces$Space" "frame" "LSmallSpaces$Frame;").before args s = true := F.1.2.2.2.2 _ (by decide +kernel)
  have u_X0 : ∀ w ∈ u_ws RX0 TX0 3, w ∈ wsX3_reduceFresh := by decide +kernel
  have f_15 : (Cond.fieldLink RX3 15 "SmallSpaces$Space" "fresh" "[I").before args s = true := F.1.2.2.2.2 _ (by decide +kernel)
  have f_9 : (Cond.fieldLink RX3 9 "SmallSpaces$Space" "cells" "[I").before args s = true := F.1.2.2.2.2 _ (by decide +kernel)
  intro n
  induction n with
  | zero => intro x1 σ H locs ls hC hl hw; exact hw.elim
  | succ n ih =>
    intro x1 σ H locs ls hC hl hw hk70
    refine lv_iload_n hx hb dX3_reduceFresh_2 rfl (lv_at hl 1 rfl) ?_
    refine lv_aload_n hx hb dX3_reduceFresh_3 rfl (lv_at hl 0 rfl) ?_
    refine ss_get (C := RX3) (T := TX3) (N := 4) (ci := 3) (v := .ref (L (1))) F hC (s0) u_X3 h0.lt (ceC_sp (L := L) (cI := cI) (cS := cS) h0 _) rfl 0 (by decide) f_18 rfl dX3_reduceFresh_4 ?_
    refine ss_getN (C := RX0) (T := TX0) (N := 3) (ci := 0) (host := RX4) (v := .int (σ 1 1)) F hC (1) u_X0 (Nat.le_of_ble_eq_true rfl) rfl rfl 1 (by decide) (by decide +kernel) rfl dX3_reduceFresh_7 ?_
    refine lv_icmp_ge (tgt := 70) hx hb dX3_reduceFresh_10 (by decide) (fun hc => ?_) (fun hc => ?_)
    · replace hw := hw.1 hc
      exact hk70 x1 σ _ _ _ hC (lv_sub hl [] rfl) hw
    · replace hw := hw.2 hc
      refine lv_aload_n hx hb dX3_reduceFresh_13 rfl (lv_at hl 0 rfl) ?_
      refine ss_get (C := RX3) (T := TX3) (N := 4) (ci := 3) (v := .ref (L (s0 + 2))) F hC (s0) u_X3 h0.lt (ceC_sp (L := L) (cI := cI) (cS := cS) h0 _) rfl 2 (by decide) f_15 rfl dX3_reduceFresh_14 ?_
      refine lv_iload_n hx hb dX3_reduceFresh_17 rfl (lv_at hl 1 rfl) ?_
      refine ss_iald F hC (s0 + 2) 0 h0.fresh.lt (ceC_ar (L := L) (cI := cI) (cS := cS) h0.fresh) rfl hw.1 dX3_reduceFresh_18 ?_
      replace hw := hw.2
      refine lv_if_eq (tgt := 64) hx hb dX3_reduceFresh_19 (by decide) (fun hc => ?_) (fun hc => ?_)
      · replace hw := hw.1 hc
        refine lv_iinc (v := x1 + 1) (lv' := [(1, .int (x1 + 1)), (0, .ref (L (s0)))]) hx hb dX3_reduceFresh_64 hl (k := 1) rfl rfl (by decide) rfl (fun ls hl => ?_)
        refine lv_goto (tgt := 2) hx hb dX3_reduceFresh_67 (by decide) ?_
        exact ih (x1 + 1) σ _ _ _ hC (lv_sub hl [1, 0] rfl) hw hk70
      · replace hw := hw.2 hc
        refine lv_aload_n hx hb dX3_reduceFresh_22 rfl (lv_at hl 0 rfl) ?_
        refine lv_iload_n hx hb dX3_reduceFresh_23 rfl (lv_at hl 1 rfl) ?_
        refine ss_ki (ss_rV (C := RX3) (As := [.int (x1)]) (rest := []) F ((mX3_isPivot l D A L wr cI cZ cS σ s0 x1 h0) _) gX3_reduceFresh_X3_isPivot rfl ⟨rfl, rfl⟩ ⟨rfl, dvX3_isPivot⟩ ⟨Nat.le_of_ble_eq_true rfl, Nat.le_of_ble_eq_true rfl⟩ (ss_preV F.2.2.2.2.1 F.2.2.2.2.2 hC (ss_rec (C := RX3) (T := TX3) (N := 4) (ci := 3) F.2.2.2.2.1 hC (s0) h0.lt (ceC_sp (L := L) (cI := cI) (cS := cS) h0 _) rfl) hw) rfl hl.1 rfl (Nat.le_of_ble_eq_true rfl) dX3_reduceFresh_24 ⟨Nat.zero_le _, Nat.zero_le _⟩) hC (fun r2 σ1 H locs hC hw => ?_)
        refine lv_if_eq (tgt := 64) hx hb dX3_reduceFresh_27 (by decide) (fun hc => ?_) (fun hc => ?_)
        · replace hw := hw.1 hc
          refine lv_iinc (v := x1 + 1) (lv' := [(1, .int (x1 + 1)), (0, .ref (L (s0)))]) hx hb dX3_reduceFresh_64 hl (k := 1) rfl rfl (by decide) rfl (fun ls hl => ?_)
          refine lv_goto (tgt := 2) hx hb dX3_reduceFresh_67 (by decide) ?_
          exact ih (x1 + 1) σ1 _ _ _ hC (lv_sub hl [1, 0] rfl) hw hk70
        · replace hw := hw.2 hc
          refine lv_aload_n hx hb dX3_reduceFresh_30 rfl (lv_at hl 0 rfl) ?_
          refine ss_get (C := RX3) (T := TX3) (N := 4) (ci := 3) (v := .ref (L (1))) F hC (s0) u_X3 h0.lt (ceC_sp (L := L) (cI := cI) (cS := cS) h0 _) rfl 0 (by decide) f_18 rfl dX3_reduceFresh_31 ?_
          refine lv_aload_n hx hb dX3_reduceFresh_34 rfl (lv_at hl 0 rfl) ?_
          refine ss_get (C := RX3) (T := TX3) (N := 4) (ci := 3) (v := .ref (L (s0 + 2))) F hC (s0) u_X3 h0.lt (ceC_sp (L := L) (cI := cI) (cS := cS) h0 _) rfl 2 (by decide) f_15 rfl dX3_reduceFresh_35 ?_
          refine lv_iconst (v := 0) hx hb dX3_reduceFresh_38 (by decide) ?_
          refine lv_aload_n hx hb dX3_reduceFresh_39 rfl (lv_at hl 0 rfl) ?_
          refine ss_get (C := RX3) (T := TX3) (N := 4) (ci := 3) (v := .ref (L (s0 + 1))) F hC (s0) u_X3 h0.lt (ceC_sp (L := L) (cI := cI) (cS := cS) h0 _) rfl 1 (by decide) f_9 rfl dX3_reduceFresh_40 ?_
          refine lv_iload_n hx hb dX3_reduceFresh_43 rfl (lv_at hl 1 rfl) ?_
          refine lv_bipush (v := 6) hx hb dX3_reduceFresh_44 (by decide) ?_
          refine lv_imul hx hb dX3_reduceFresh_46 ?_
          refine lv_aload_n hx hb dX3_reduceFresh_47 rfl (lv_at hl 0 rfl) ?_
          refine ss_get (C := RX3) (T := TX3) (N := 4) (ci := 3) (v := .ref (L (1))) F hC (s0) u_X3 h0.lt (ceC_sp (L := L) (cI := cI) (cS := cS) h0 _) rfl 0 (by decide) f_18 rfl dX3_reduceFresh_48 ?_
          refine ss_getN (C := RX0) (T := TX0) (N := 3) (ci := 0) (host := RX4) (v := .int (σ1 1 0)) F hC (1) u_X0 (Nat.le_of_ble_eq_true rfl) rfl rfl 0 (by decide) (by decide +kernel) rfl dX3_reduceFresh_51 ?_
          refine lv_aload_n hx hb dX3_reduceFresh_54 rfl (lv_at hl 0 rfl) ?_
          refine ss_get (C := RX3) (T := TX3) (N := 4) (ci := 3) (v := .ref (L (s0 + 2))) F hC (s0) u_X3 h0.lt (ceC_sp (L := L) (cI := cI) (cS := cS) h0 _) rfl 2 (by decide) f_15 rfl dX3_reduceFresh_55 ?_
          refine lv_iload_n hx hb dX3_reduceFresh_58 rfl (lv_at hl 1 rfl) ?_
          refine ss_iald F hC (s0 + 2) 0 h0.fresh.lt (ceC_ar (L := L) (cI := cI) (cS := cS) h0.fresh) rfl hw.1 dX3_reduceFresh_59 ?_
          replace hw := hw.2
          refine lv_isub hx hb dX3_reduceFresh_60 ?_
          refine ss_kv (ss_rVN (C := RX0) (host := RX4) (As := [.ref (L (s0 + 2)), .int (0), .ref (L (s0 + 1)), .int (x1 * 6), .int ((σ1 1 0) - (σ1 (s0 + 2) (Int32.toNatClampNeg x1)))]) (rest := []) F ((mX0_addMultiple l D A L wr cI cZ cS σ1 (s0 + 2) 0 (s0 + 1) (x1 * 6) ((σ1 1 0) - (σ1 (s0 + 2) (Int32.toNatClampNeg x1))) h0.fresh h0.cells) _) gX3_reduceFresh_X0_addMultiple_n79 rfl ⟨rfl, rfl⟩ dvX0_addMultiple (by decide +kernel) ⟨by decide +kernel, by decide +kernel, by decide +kernel⟩ ⟨Nat.le_of_ble_eq_true rfl, Nat.le_of_ble_eq_true rfl⟩ (ss_preV F.2.2.2.2.1 F.2.2.2.2.2 hC (ss_rec (C := RX0) (T := TX0) (N := 3) (ci := 0) F.2.2.2.2.1 hC (1) (Nat.le_of_ble_eq_true rfl) rfl rfl) hw) rfl hl.1 rfl (Nat.le_of_ble_eq_true rfl) dX3_reduceFresh_61 ⟨Nat.zero_le _, Nat.zero_le _⟩) hC (fun σ3 H locs hC hw => ?_)
          refine lv_iinc (v := x1 + 1) (lv' := [(1, .int (x1 + 1)), (0, .ref (L (s0)))]) hx hb dX3_reduceFresh_64 hl (k := 1) rfl rfl (by decide) rfl (fun ls hl => ?_)
          refine lv_goto (tgt := 2) hx hb dX3_reduceFresh_67 (by decide) ?_
          exact ih (x1 + 1) σ3 _ _ _ hC (lv_sub hl [1, 0] rfl) hw hk70

set_option maxHeartbeats 4000000 in
set_option maxRecDepth 100000 in
theorem bX3_reduceFresh {s0 : Nat} {post : ss_S → Prop} (F : ss_F p R s m args meth c (ss_EC D A L wr cI cZ cS) cX3_reduceFresh 2 wsX3_reduceFresh RX3 none rmX3_reduceFresh) (h0 : isSp s0) : ∀ (σ : ss_S) (H : Heap) (locs : List Loc) (ls : Array Slot), ss_C (ss_EC D A L wr cI cZ cS) σ s H locs → lv_has ls 2 [(0, .ref (L (s0)))] → wX3_reduceFresh s0 σ post → W p l e R s m args below meth c H locs 0 0 (MQ below (va_Qv post (ss_B (ss_EC D A L wr cI cZ cS)) A) args s 0 0 A) (F0 m 0 ls []) := by
  have hx := F.1.1
  have hb := F.1.2.1
  intro σ H locs ls hC hl hw
  unfold wX3_reduceFresh at hw
  refine lv_iconst (v := 0) hx hb dX3_reduceFresh_0 (by decide) ?_
  refine lv_istore_n (lv' := [(1, .int (0)), (0, .ref (L (s0)))]) hx hb dX3_reduceFresh_1 rfl hl (by decide) rfl (fun ls hl => ?_)
  obtain ⟨n_, hw⟩ := hw
  refine tX3_reduceFresh_2 F h0 _ n_ 0 σ _ _ _ hC (lv_sub hl [1, 0] rfl) hw ?_
  · intro x1_4 σ_4 H locs ls hC hl hw
    exact ss_vret F hC hw dX3_reduceFresh_70

theorem mX3_reduceFresh (l : Launch) (D : va_G) (A : Nat → Prop) (L : Nat → Nat) (wr : va_W) (cI cZ cS : ClassId) (σ : ss_S) (s0 : Nat) (h0 : isSp s0) : ss_MV l yX3_reduceFresh wsX3_reduceFresh rmX3_reduceFresh (ss_EC D A L wr cI cZ cS) [.ref (L (s0))] σ (fun post => wX3_reduceFresh s0 σ post) :=
  ss_MV.of (cc := cX3_reduceFresh) (nL := 2) (ret := none) (own := RX3) (by decide) rfl rfl (Nat.le_of_ble_eq_true rfl) (fun post p e R s m below meth c H locs ls F hC hl hw => bX3_reduceFresh F h0 σ H locs ls hC hl hw)

set_option maxHeartbeats 4000000 in
set_option maxRecDepth 100000 in
theorem tX3_takeRow_2 {s0 : Nat} {x1 : Int32} {x2 : Int32} {post : ss_S → Prop} (F : ss_F p R s m args meth c (ss_EC D A L wr cI cZ cS) cX3_takeRow 4 wsX3_takeRow RX3 none rmX3_takeRow) (h0 : isSp s0) (k46 : Int32 → ss_S → Prop) : ∀ (n : Nat) (x3 : Int32) (σ : ss_S) (H : Heap) (locs : List Loc) (ls : Array Slot), ss_C (ss_EC D A L wr cI cZ cS) σ s H locs → lv_has ls 4 [(0, .ref (L (s0))), (1, .int (x1)), (2, .int (x2)), (3, .int (x3))] → lX3_takeRow_2 s0 x1 x2 post k46 n x3 σ →
    (∀ (x3 : Int32) (σ : ss_S) (H : Heap) (locs : List Loc) (ls : Array Slot), ss_C (ss_EC D A L wr cI cZ cS) σ s H locs → lv_has ls 4 [(0, .ref (L (s0))), (1, .int (x1))] → k46 x3 σ → W p l e R s m args below meth c H locs 0 0 (MQ below (va_Qv post (ss_B (ss_EC D A L wr cI cZ cS)) A) args s 0 0 A) (F0 m 46 ls [])) →
    W p l e R s m args below meth c H locs 0 0 (MQ below (va_Qv post (ss_B (ss_EC D A L wr cI cZ cS)) A) args s 0 0 A) (F0 m 2 ls []) := by
  have hx := F.1.1
  have hb := F.1.2.1
  have u_X3 : ∀ w ∈ u_ws RX3 TX3 4, w ∈ wsX3_takeRow := by decide +kernel
  have f_18 : (Cond.fieldLink RX3 18 "SmallSpaces$Space" "frame" "LSmallSpaces$Frame;").before args s = true := F.1.2.2.2.2 _ (by decide +kernel)
  have u_X0 : ∀ w ∈ u_ws RX0 TX0 3, w ∈ wsX3_takeRow := by decide +kernel
  have f_9 : (Cond.fieldLink RX3 9 "SmallSpaces$Space" "cells" "[I").before args s = true := F.1.2.2.2.2 _ (by decide +kernel)
  have f_15 : (Cond.fieldLink RX3 15 "SmallSpaces$Space" "fresh" "[I").before args s = true := F.1.2.2.2.2 _ (by decide +kernel)
  intro n
  induction n with
  | zero => intro x3 σ H locs ls hC hl hw; exact hw.elim
  | succ n ih =>
    intro x3 σ H locs ls hC hl hw hk46
    refine lv_iload_n hx hb dX3_takeRow_2 rfl (lv_at hl 3 rfl) ?_
    refine lv_aload_n hx hb dX3_takeRow_3 rfl (lv_at hl 0 rfl) ?_
    refine ss_get (C := RX3) (T := TX3) (N := 4) (ci := 3) (v := .ref (L (1))) F hC (s0) u_X3 h0.lt (ceC_sp (L := L) (cI := cI) (cS := cS) h0 _) rfl 0 (by decide) f_18 rfl dX3_takeRow_4 ?_
    refine ss_getN (C := RX0) (T := TX0) (N := 3) (ci := 0) (host := RX4) (v := .int (σ 1 1)) F hC (1) u_X0 (Nat.le_of_ble_eq_true rfl) rfl rfl 1 (by decide) (by decide +kernel) rfl dX3_takeRow_7 ?_
    refine lv_icmp_ge (tgt := 46) hx hb dX3_takeRow_10 (by decide) (fun hc => ?_) (fun hc => ?_)
    · replace hw := hw.1 hc
      exact hk46 x3 σ _ _ _ hC (lv_sub hl [0, 1] rfl) hw
    · replace hw := hw.2 hc
      refine lv_aload_n hx hb dX3_takeRow_13 rfl (lv_at hl 0 rfl) ?_
      refine ss_get (C := RX3) (T := TX3) (N := 4) (ci := 3) (v := .ref (L (s0 + 1))) F hC (s0) u_X3 h0.lt (ceC_sp (L := L) (cI := cI) (cS := cS) h0 _) rfl 1 (by decide) f_9 rfl dX3_takeRow_14 ?_
      refine lv_iload_n hx hb dX3_takeRow_17 rfl (lv_at hl 1 rfl) ?_
      refine lv_bipush (v := 6) hx hb dX3_takeRow_18 (by decide) ?_
      refine lv_imul hx hb dX3_takeRow_20 ?_
      refine lv_iload_n hx hb dX3_takeRow_21 rfl (lv_at hl 3 rfl) ?_
      refine lv_iadd hx hb dX3_takeRow_22 ?_
      refine lv_iload_n hx hb dX3_takeRow_23 rfl (lv_at hl 2 rfl) ?_
      refine lv_aload_n hx hb dX3_takeRow_24 rfl (lv_at hl 0 rfl) ?_
      refine ss_get (C := RX3) (T := TX3) (N := 4) (ci := 3) (v := .ref (L (s0 + 2))) F hC (s0) u_X3 h0.lt (ceC_sp (L := L) (cI := cI) (cS := cS) h0 _) rfl 2 (by decide) f_15 rfl dX3_takeRow_25 ?_
      refine lv_iload_n hx hb dX3_takeRow_28 rfl (lv_at hl 3 rfl) ?_
      refine ss_iald F hC (s0 + 2) 0 h0.fresh.lt (ceC_ar (L := L) (cI := cI) (cS := cS) h0.fresh) rfl hw.1 dX3_takeRow_29 ?_
      replace hw := hw.2
      refine lv_imul hx hb dX3_takeRow_30 ?_
      refine lv_aload_n hx hb dX3_takeRow_31 rfl (lv_at hl 0 rfl) ?_
      refine ss_get (C := RX3) (T := TX3) (N := 4) (ci := 3) (v := .ref (L (1))) F hC (s0) u_X3 h0.lt (ceC_sp (L := L) (cI := cI) (cS := cS) h0 _) rfl 0 (by decide) f_18 rfl dX3_takeRow_32 ?_
      refine ss_getN (C := RX0) (T := TX0) (N := 3) (ci := 0) (host := RX4) (v := .int (σ 1 0)) F hC (1) u_X0 (Nat.le_of_ble_eq_true rfl) rfl rfl 0 (by decide) (by decide +kernel) rfl dX3_takeRow_35 ?_
      refine lv_irem hx hb dX3_takeRow_38 hw.1 ?_
      replace hw := hw.2
      refine ss_iast F hC (s0 + 1) 0 h0.cells.lt (ceC_ar (L := L) (cI := cI) (cS := cS) h0.cells) rfl hw.1 dX3_takeRow_39 (fun H locs hC => ?_)
      replace hw := hw.2
      refine lv_iinc (v := x3 + 1) (lv' := [(3, .int (x3 + 1)), (0, .ref (L (s0))), (1, .int (x1)), (2, .int (x2))]) hx hb dX3_takeRow_40 hl (k := 3) rfl rfl (by decide) rfl (fun ls hl => ?_)
      refine lv_goto (tgt := 2) hx hb dX3_takeRow_43 (by decide) ?_
      exact ih (x3 + 1) (u2 σ (s0 + 1) (Int32.toNatClampNeg ((x1 * 6) + x3)) ((x2 * (σ (s0 + 2) (Int32.toNatClampNeg x3))) - (x2 * (σ (s0 + 2) (Int32.toNatClampNeg x3))) / (σ 1 0) * (σ 1 0))) _ _ _ hC (lv_sub hl [1, 2, 3, 0] rfl) hw hk46

set_option maxHeartbeats 4000000 in
set_option maxRecDepth 100000 in
theorem bX3_takeRow {s0 : Nat} {x1 : Int32} {x2 : Int32} {post : ss_S → Prop} (F : ss_F p R s m args meth c (ss_EC D A L wr cI cZ cS) cX3_takeRow 4 wsX3_takeRow RX3 none rmX3_takeRow) (h0 : isSp s0) : ∀ (σ : ss_S) (H : Heap) (locs : List Loc) (ls : Array Slot), ss_C (ss_EC D A L wr cI cZ cS) σ s H locs → lv_has ls 4 [(0, .ref (L (s0))), (1, .int (x1)), (2, .int (x2))] → wX3_takeRow s0 x1 x2 σ post → W p l e R s m args below meth c H locs 0 0 (MQ below (va_Qv post (ss_B (ss_EC D A L wr cI cZ cS)) A) args s 0 0 A) (F0 m 0 ls []) := by
  have hx := F.1.1
  have hb := F.1.2.1
  have u_X3 : ∀ w ∈ u_ws RX3 TX3 4, w ∈ wsX3_takeRow := by decide +kernel
  have f_22 : (Cond.fieldLink RX3 22 "SmallSpaces$Space" "pivots" "I").before args s = true := F.1.2.2.2.2 _ (by decide +kernel)
  have f_18 : (Cond.fieldLink RX3 18 "SmallSpaces$Space" "frame" "LSmallSpaces$Frame;").before args s = true := F.1.2.2.2.2 _ (by decide +kernel)
  have u_X0 : ∀ w ∈ u_ws RX0 TX0 3, w ∈ wsX3_takeRow := by decide +kernel
  intro σ H locs ls hC hl hw
  unfold wX3_takeRow at hw
  refine lv_iconst (v := 0) hx hb dX3_takeRow_0 (by decide) ?_
  refine lv_istore_n (lv' := [(3, .int (0)), (0, .ref (L (s0))), (1, .int (x1)), (2, .int (x2))]) hx hb dX3_takeRow_1 rfl hl (by decide) rfl (fun ls hl => ?_)
  obtain ⟨n_, hw⟩ := hw
  refine tX3_takeRow_2 F h0 _ n_ 0 σ _ _ _ hC (lv_sub hl [1, 2, 3, 0] rfl) hw ?_
  · intro x3_1 σ_1 H locs ls hC hl hw
    refine lv_aload_n hx hb dX3_takeRow_46 rfl (lv_at hl 0 rfl) ?_
    refine lv_dup hx hb dX3_takeRow_47 rfl ?_
    refine ss_get (C := RX3) (T := TX3) (N := 4) (ci := 3) (v := .int (σ_1 s0 3)) F hC (s0) u_X3 h0.lt (ceC_sp (L := L) (cI := cI) (cS := cS) h0 _) rfl 3 (by decide) f_22 rfl dX3_takeRow_48 ?_
    refine lv_iconst (v := 1) hx hb dX3_takeRow_51 (by decide) ?_
    refine lv_aload_n hx hb dX3_takeRow_52 rfl (lv_at hl 0 rfl) ?_
    refine ss_get (C := RX3) (T := TX3) (N := 4) (ci := 3) (v := .ref (L (1))) F hC (s0) u_X3 h0.lt (ceC_sp (L := L) (cI := cI) (cS := cS) h0 _) rfl 0 (by decide) f_18 rfl dX3_takeRow_53 ?_
    refine ss_getN (C := RX0) (T := TX0) (N := 3) (ci := 0) (host := RX4) (v := .int (σ_1 1 1)) F hC (1) u_X0 (Nat.le_of_ble_eq_true rfl) rfl rfl 1 (by decide) (by decide +kernel) rfl dX3_takeRow_56 ?_
    refine lv_iconst (v := 1) hx hb dX3_takeRow_59 (by decide) ?_
    refine lv_isub hx hb dX3_takeRow_60 ?_
    refine lv_iload_n hx hb dX3_takeRow_61 rfl (lv_at hl 1 rfl) ?_
    refine lv_isub hx hb dX3_takeRow_62 ?_
    refine lv_ishl hx hb dX3_takeRow_63 ?_
    refine lv_ior hx hb dX3_takeRow_64 ?_
    refine ss_put (C := RX3) (T := TX3) (N := 4) (ci := 3) F hC (s0) tyX3 tyX3_ok nmX3 u_X3 h0.lt (ceC_sp (L := L) (cI := cI) (cS := cS) h0 _) rfl 3 (by decide) f_22 rfl (by decide +kernel) (Nat.le_of_ble_eq_true rfl) ((ceC_sp (L := L) (cI := cI) (cS := cS) h0 _).trans rfl) dX3_takeRow_65 (fun H locs hC => ?_)
    exact ss_vret F hC hw dX3_takeRow_68

theorem mX3_takeRow (l : Launch) (D : va_G) (A : Nat → Prop) (L : Nat → Nat) (wr : va_W) (cI cZ cS : ClassId) (σ : ss_S) (s0 : Nat) (x1 : Int32) (x2 : Int32) (h0 : isSp s0) : ss_MV l yX3_takeRow wsX3_takeRow rmX3_takeRow (ss_EC D A L wr cI cZ cS) [.ref (L (s0)), .int (x1), .int (x2)] σ (fun post => wX3_takeRow s0 x1 x2 σ post) :=
  ss_MV.of (cc := cX3_takeRow) (nL := 4) (ret := none) (own := RX3) (by decide) rfl rfl (Nat.le_of_ble_eq_true rfl) (fun post p e R s m below meth c H locs ls F hC hl hw => bX3_takeRow F h0 σ H locs ls hC hl hw)

set_option maxHeartbeats 4000000 in
set_option maxRecDepth 100000 in
theorem tX3_joinFresh_6 {s0 : Nat} {post : ss_S → Prop} (F : ss_F p R s m args meth c (ss_EC D A L wr cI cZ cS) cX3_joinFresh 4 wsX3_joinFresh RX3 none rmX3_joinFresh) (h0 : isSp s0) (k32 : Int32 → ss_S → Prop) : ∀ (n : Nat) (x1 : Int32) (σ : ss_S) (H : Heap) (locs : List Loc) (ls : Array Slot), ss_C (ss_EC D A L wr cI cZ cS) σ s H locs → lv_has ls 4 [(0, .ref (L (s0))), (1, .int (x1))] → lX3_joinFresh_6 s0 post k32 n x1 σ →
    (∀ (x1 : Int32) (σ : ss_S) (H : Heap) (locs : List Loc) (ls : Array Slot), ss_C (ss_EC D A L wr cI cZ cS) σ s H locs → lv_has ls 4 [(0, .ref (L (s0))), (1, .int (x1))] → k32 x1 σ → W p l e R s m args below meth c H locs 0 0 (MQ below (va_Qv post (ss_B (ss_EC D A L wr cI cZ cS)) A) args s 0 0 A) (F0 m 32 ls [])) →
    W p l e R s m args below meth c H locs 0 0 (MQ below (va_Qv post (ss_B (ss_EC D A L wr cI cZ cS)) A) args s 0 0 A) (F0 m 6 ls []) := by
  have hx := F.1.1
  have hb := F.1.2.1
  have u_X3 : ∀ w ∈ u_ws RX3 TX3 4, w ∈ wsX3_joinFresh := by decide +kernel
  have f_18 : (Cond.fieldLink RX3 18 "SmallSpaces$Space" "frame" "LSmallSpaces$Frame;").before args s = true := F.1.2.2.2.2 _ (by decide +kernel)
  have u_X0 : ∀ w ∈ u_ws RX0 TX0 3, w ∈ wsX3_joinFresh := by decide +kernel
  have f_15 : (Cond.fieldLink RX3 15 "SmallSpaces$Space" "fresh" "[I").before args s = true := F.1.2.2.2.2 _ (by decide +kernel)
  intro n
  induction n with
  | zero => intro x1 σ H locs ls hC hl hw; exact hw.elim
  | succ n ih =>
    intro x1 σ H locs ls hC hl hw hk32
    refine lv_iload_n hx hb dX3_joinFresh_6 rfl (lv_at hl 1 rfl) ?_
    refine lv_aload_n hx hb dX3_joinFresh_7 rfl (lv_at hl 0 rfl) ?_
    refine ss_get (C := RX3) (T := TX3) (N := 4) (ci := 3) (v := .ref (L (1))) F hC (s0) u_X3 h0.lt (ceC_sp (L := L) (cI := cI) (cS := cS) h0 _) rfl 0 (by decide) f_18 rfl dX3_joinFresh_8 ?_
    refine ss_getN (C := RX0) (T := TX0) (N := 3) (ci := 0) (host := RX4) (v := .int (σ 1 1)) F hC (1) u_X0 (Nat.le_of_ble_eq_true rfl) rfl rfl 1 (by decide) (by decide +kernel) rfl dX3_joinFresh_11 ?_
    refine lv_icmp_ge (tgt := 32) hx hb dX3_joinFresh_14 (by decide) (fun hc => ?_) (fun hc => ?_)
    · replace hw := hw.1 hc
      exact hk32 x1 σ _ _ _ hC (lv_sub hl [0, 1] rfl) hw
    · replace hw := hw.2 hc
      refine lv_aload_n hx hb dX3_joinFresh_17 rfl (lv_at hl 0 rfl) ?_
      refine ss_get (C := RX3) (T := TX3) (N := 4) (ci := 3) (v := .ref (L (s0 + 2))) F hC (s0) u_X3 h0.lt (ceC_sp (L := L) (cI := cI) (cS := cS) h0 _) rfl 2 (by decide) f_15 rfl dX3_joinFresh_18 ?_
      refine lv_iload_n hx hb dX3_joinFresh_21 rfl (lv_at hl 1 rfl) ?_
      refine ss_iald F hC (s0 + 2) 0 h0.fresh.lt (ceC_ar (L := L) (cI := cI) (cS := cS) h0.fresh) rfl hw.1 dX3_joinFresh_22 ?_
      replace hw := hw.2
      refine lv_if_ne (tgt := 32) hx hb dX3_joinFresh_23 (by decide) (fun hc => ?_) (fun hc => ?_)
      · replace hw := hw.1 hc
        exact hk32 x1 σ _ _ _ hC (lv_sub hl [0, 1] rfl) hw
      · replace hw := hw.2 hc
        refine lv_iinc (v := x1 + 1) (lv' := [(1, .int (x1 + 1)), (0, .ref (L (s0)))]) hx hb dX3_joinFresh_26 hl (k := 1) rfl rfl (by decide) rfl (fun ls hl => ?_)
        refine lv_goto (tgt := 6) hx hb dX3_joinFresh_29 (by decide) ?_
        exact ih (x1 + 1) σ _ _ _ hC (lv_sub hl [1, 0] rfl) hw hk32

set_option maxHeartbeats 4000000 in
set_option maxRecDepth 100000 in
theorem tX3_joinFresh_64 {s0 : Nat} {x1 : Int32} {post : ss_S → Prop} (F : ss_F p R s m args meth c (ss_EC D A L wr cI cZ cS) cX3_joinFresh 4 wsX3_joinFresh RX3 none rmX3_joinFresh) (h0 : isSp s0) (k131 : Int32 → ss_S → Prop) : ∀ (n : Nat) (x2 : Int32) (σ : ss_S) (H : Heap) (locs : List Loc) (ls : Array Slot), ss_C (ss_EC D A L wr cI cZ cS) σ s H locs → lv_has ls 4 [(0, .ref (L (s0))), (1, .int (x1)), (2, .int (x2))] → lX3_joinFresh_64 s0 x1 post k131 n x2 σ →
    (∀ (x2 : Int32) (σ : ss_S) (H : Heap) (locs : List Loc) (ls : Array Slot), ss_C (ss_EC D A L wr cI cZ cS) σ s H locs → lv_has ls 4 [] → k131 x2 σ → W p l e R s m args below meth c H locs 0 0 (MQ below (va_Qv post (ss_B (ss_EC D A L wr cI cZ cS)) A) args s 0 0 A) (F0 m 131 ls [])) →
    W p l e R s m args below meth c H locs 0 0 (MQ below (va_Qv post (ss_B (ss_EC D A L wr cI cZ cS)) A) args s 0 0 A) (F0 m 64 ls []) := by
  have hx := F.1.1
  have hb := F.1.2.1
  have u_X3 : ∀ w ∈ u_ws RX3 TX3 4, w ∈ wsX3_joinFresh := by decide +kernel
  have f_9 : (Cond.fieldLink RX3 9 "SmallSpaces$Space" "cells" "[I").before args s = true := F.1.2.2.2.2 _ (by decide +kernel)
  have f_18 : (Cond.fieldLink RX3 18 "SmallSpaces$Space" "frame" "LSmallSpaces$Frame;").before args s = true := F.1.2.2.2.2 _ (by decide +kernel)
  have u_X0 : ∀ w ∈ u_ws RX0 TX0 3, w ∈ wsX3_joinFresh := by decide +kernel
  intro n
  induction n with
  | zero => intro x2 σ H locs ls hC hl hw; exact hw.elim
  | succ n ih =>
    intro x2 σ H locs ls hC hl hw hk131
    refine lv_iload_n hx hb dX3_joinFresh_64 rfl (lv_at hl 2 rfl) ?_
    refine lv_iload_n hx hb dX3_joinFresh_65 rfl (lv_at hl 1 rfl) ?_
    refine lv_icmp_ge (tgt := 131) hx hb dX3_joinFresh_66 (by decide) (fun hc => ?_) (fun hc => ?_)
    · replace hw := hw.1 hc
      exact hk131 x2 σ _ _ _ hC (lv_sub hl [] rfl) hw
    · replace hw := hw.2 hc
      refine lv_aload_n hx hb dX3_joinFresh_69 rfl (lv_at hl 0 rfl) ?_
      refine ss_get (C := RX3) (T := TX3) (N := 4) (ci := 3) (v := .ref (L (s0 + 1))) F hC (s0) u_X3 h0.lt (ceC_sp (L := L) (cI := cI) (cS := cS) h0 _) rfl 1 (by decide) f_9 rfl dX3_joinFresh_70 ?_
      refine lv_iload_n hx hb dX3_joinFresh_73 rfl (lv_at hl 2 rfl) ?_
      refine lv_bipush (v := 6) hx hb dX3_joinFresh_74 (by decide) ?_
      refine lv_imul hx hb dX3_joinFresh_76 ?_
      refine lv_iload_n hx hb dX3_joinFresh_77 rfl (lv_at hl 1 rfl) ?_
      refine lv_iadd hx hb dX3_joinFresh_78 ?_
      refine ss_iald F hC (s0 + 1) 0 h0.cells.lt (ceC_ar (L := L) (cI := cI) (cS := cS) h0.cells) rfl hw.1 dX3_joinFresh_79 ?_
      replace hw := hw.2
      refine lv_istore_n (lv' := [(3, .int (σ (s0 + 1) (Int32.toNatClampNeg ((x2 * 6) + x1)))), (0, .ref (L (s0))), (1, .int (x1)), (2, .int (x2))]) hx hb dX3_joinFresh_80 rfl hl (by decide) rfl (fun ls hl => ?_)
      refine lv_aload_n hx hb dX3_joinFresh_81 rfl (lv_at hl 1 rfl) ?_
      refine lv_iload_n hx hb dX3_joinFresh_82 rfl (lv_at hl 3 rfl) ?_
      refine ss_ki (ss_rV (C := RX3) (As := [.int (x2)]) (rest := []) F ((mX3_isPivot l D A L wr cI cZ cS σ s0 x2 h0) _) gX3_joinFresh_X3_isPivot rfl ⟨rfl, rfl⟩ ⟨rfl, dvX3_isPivot⟩ ⟨Nat.le_of_ble_eq_true rfl, Nat.le_of_ble_eq_true rfl⟩ (ss_preV F.2.2.2.2.1 F.2.2.2.2.2 hC (ss_rec (C := RX3) (T := TX3) (N := 4) (ci := 3) F.2.2.2.2.1 hC (s0) h0.lt (ceC_sp (L := L) (cI := cI) (cS := cS) h0 _) rfl) hw) rfl hl.1 rfl (Nat.le_of_ble_eq_true rfl) dX3_joinFresh_83 ⟨Nat.zero_le _, Nat.zero_le _⟩) hC (fun r7 σ6 H locs hC hw => ?_)
      refine lv_if_eq (tgt := 125) hx hb dX3_joinFresh_86 (by decide) (fun hc => ?_) (fun hc => ?_)
      · replace hw := hw.1 hc
        refine lv_iinc (v := x2 + 1) (lv' := [(2, .int (x2 + 1)), (3, .int (σ (s0 + 1) (Int32.toNatClampNeg ((x2 * 6) + x1)))), (0, .ref (L (s0))), (1, .int (x1))]) hx hb dX3_joinFresh_125 hl (k := 3) rfl rfl (by decide) rfl (fun ls hl => ?_)
        refine lv_goto (tgt := 64) hx hb dX3_joinFresh_128 (by decide) ?_
        exact ih (x2 + 1) σ6 _ _ _ hC (lv_sub hl [2, 3, 0] rfl) hw hk131
      · replace hw := hw.2 hc
        refine lv_iload_n hx hb dX3_joinFresh_89 rfl (lv_at hl 0 rfl) ?_
        refine lv_if_eq (tgt := 125) hx hb dX3_joinFresh_90 (by decide) (fun hc => ?_) (fun hc => ?_)
        · replace hw := hw.1 hc
          refine lv_iinc (v := x2 + 1) (lv' := [(2, .int (x2 + 1)), (3, .int (σ (s0 + 1) (Int32.toNatClampNeg ((x2 * 6) + x1)))), (0, .ref (L (s0))), (1, .int (x1))]) hx hb dX3_joinFresh_125 hl (k := 3) rfl rfl (by decide) rfl (fun ls hl => ?_)
          refine lv_goto (tgt := 64) hx hb dX3_joinFresh_128 (by decide) ?_
          exact ih (x2 + 1) σ6 _ _ _ hC (lv_sub hl [2, 3, 0] rfl) hw hk131
        · replace hw := hw.2 hc
          refine lv_aload_n hx hb dX3_joinFresh_93 rfl (lv_at hl 1 rfl) ?_
          refine ss_get (C := RX3) (T := TX3) (N := 4) (ci := 3) (v := .ref (L (1))) F hC (s0) u_X3 h0.lt (ceC_sp (L := L) (cI := cI) (cS := cS) h0 _) rfl 0 (by decide) f_18 rfl dX3_joinFresh_94 ?_
          refine lv_aload_n hx hb dX3_joinFresh_97 rfl (lv_at hl 1 rfl) ?_
          refine ss_get (C := RX3) (T := TX3) (N := 4) (ci := 3) (v := .ref (L (s0 + 1))) F hC (s0) u_X3 h0.lt (ceC_sp (L := L) (cI := cI) (cS := cS) h0 _) rfl 1 (by decide) f_9 rfl dX3_joinFresh_98 ?_
          refine lv_iload_n hx hb dX3_joinFresh_101 rfl (lv_at hl 3 rfl) ?_
          refine lv_bipush (v := 6) hx hb dX3_joinFresh_102 (by decide) ?_
          refine lv_imul hx hb dX3_joinFresh_104 ?_
          refine lv_aload_n hx hb dX3_joinFresh_105 rfl (lv_at hl 1 rfl) ?_
          refine ss_get (C := RX3) (T := TX3) (N := 4) (ci := 3) (v := .ref (L (s0 + 1))) F hC (s0) u_X3 h0.lt (ceC_sp (L := L) (cI := cI) (cS := cS) h0 _) rfl 1 (by decide) f_9 rfl dX3_joinFresh_106 ?_
          refine lv_iload_n hx hb dX3_joinFresh_109 rfl (lv_at hl 2 rfl) ?_
          refine lv_bipush (v := 6) hx hb dX3_joinFresh_110 (by decide) ?_
          refine lv_imul hx hb dX3_joinFresh_112 ?_
          refine lv_aload_n hx hb dX3_joinFresh_113 rfl (lv_at hl 1 rfl) ?_
          refine ss_get (C := RX3) (T := TX3) (N := 4) (ci := 3) (v := .ref (L (1))) F hC (s0) u_X3 h0.lt (ceC_sp (L := L) (cI := cI) (cS := cS) h0 _) rfl 0 (by decide) f_18 rfl dX3_joinFresh_114 ?_
          refine ss_getN (C := RX0) (T := TX0) (N := 3) (ci := 0) (host := RX4) (v := .int (σ6 1 0)) F hC (1) u_X0 (Nat.le_of_ble_eq_true rfl) rfl rfl 0 (by decide) (by decide +kernel) rfl dX3_joinFresh_117 ?_
          refine lv_iload_n hx hb dX3_joinFresh_120 rfl (lv_at hl 0 rfl) ?_
          refine lv_isub hx hb dX3_joinFresh_121 ?_
          refine ss_kv (ss_rVN (C := RX0) (host := RX4) (As := [.ref (L (s0 + 1)), .int (x2 * 6), .ref (L (s0 + 1)), .int (x1 * 6), .int ((σ6 1 0) - (σ (s0 + 1) (Int32.toNatClampNeg ((x2 * 6) + x1))))]) (rest := []) F ((mX0_addMultiple l D A L wr cI cZ cS σ6 (s0 + 1) (x2 * 6) (s0 + 1) (x1 * 6) ((σ6 1 0) - (σ (s0 + 1) (Int32.toNatClampNeg ((x2 * 6) + x1)))) h0.cells h0.cells) _) gX3_joinFresh_X0_addMultiple_n79 rfl ⟨rfl, rfl⟩ dvX0_addMultiple (by decide +kernel) ⟨by decide +kernel, by decide +kernel, by decide +kernel⟩ ⟨Nat.le_of_ble_eq_true rfl, Nat.le_of_ble_eq_true rfl⟩ (ss_preV F.2.2.2.2.1 F.2.2.2.2.2 hC (ss_rec (C := RX0) (T := TX0) (N := 3) (ci := 0) F.2.2.2.2.1 hC (1) (Nat.le_of_ble_eq_true rfl) rfl rfl) hw) rfl hl.1 rfl (Nat.le_of_ble_eq_true rfl) dX3_joinFresh_122 ⟨Nat.zero_le _, Nat.zero_le _⟩) hC (fun σ8 H locs hC hw => ?_)
          refine lv_iinc (v := x2 + 1) (lv' := [(2, .int (x2 + 1)), (3, .int (σ (s0 + 1) (Int32.toNatClampNeg ((x2 * 6) + x1)))), (0, .ref (L (s0))), (1, .int (x1))]) hx hb dX3_joinFresh_125 hl (k := 3) rfl rfl (by decide) rfl (fun ls hl => ?_)
          refine lv_goto (tgt := 64) hx hb dX3_joinFresh_128 (by decide) ?_
          exact ih (x2 + 1) σ8 _ _ _ hC (lv_sub hl [2, 3, 0] rfl) hw hk131

set_option maxHeartbeats 4000000 in
set_option maxRecDepth 100000 in
theorem bX3_joinFresh {s0 : Nat} {post : ss_S → Prop} (F : ss_F p R s m args meth c (ss_EC D A L wr cI cZ cS) cX3_joinFresh 4 wsX3_joinFresh RX3 none rmX3_joinFresh) (h0 : isSp s0) : ∀ (σ : ss_S) (H : Heap) (locs : List Loc) (ls : Array Slot), ss_C (ss_EC D A L wr cI cZ cS) σ s H locs → lv_has ls 4 [(0, .ref (L (s0)))] → wX3_joinFresh s0 σ post → W p l e R s m args below meth c H locs 0 0 (MQ below (va_Qv post (ss_B (ss_EC D A L wr cI cZ cS)) A) args s 0 0 A) (F0 m 0 ls []) := by
  have hx := F.1.1
  have hb := F.1.2.1
  have u_X3 : ∀ w ∈ u_ws RX3 TX3 4, w ∈ wsX3_joinFresh := by decide +kernel
  have f_18 : (Cond.fieldLink RX3 18 "SmallSpaces$Space" "frame" "LSmallSpaces$Frame;").before args s = true := F.1.2.2.2.2 _ (by decide +kernel)
  have u_X0 : ∀ w ∈ u_ws RX0 TX0 3, w ∈ wsX3_joinFresh := by decide +kernel
  have f_15 : (Cond.fieldLink RX3 15 "SmallSpaces$Space" "fresh" "[I").before args s = true := F.1.2.2.2.2 _ (by decide +kernel)
  intro σ H locs ls hC hl hw
  unfold wX3_joinFresh at hw
  refine lv_aload_n hx hb dX3_joinFresh_0 rfl (lv_at hl 0 rfl) ?_
  refine ss_kv (ss_rV (C := RX3) (As := []) (rest := []) F ((mX3_reduceFresh l D A L wr cI cZ cS σ s0 h0) _) gX3_joinFresh_X3_reduceFresh rfl ⟨rfl, rfl⟩ ⟨rfl, dvX3_reduceFresh⟩ ⟨Nat.le_of_ble_eq_true rfl, Nat.le_of_ble_eq_true rfl⟩ (ss_preV F.2.2.2.2.1 F.2.2.2.2.2 hC (ss_rec (C := RX3) (T := TX3) (N := 4) (ci := 3) F.2.2.2.2.1 hC (s0) h0.lt (ceC_sp (L := L) (cI := cI) (cS := cS) h0 _) rfl) hw) rfl hl.1 rfl (Nat.le_of_ble_eq_true rfl) dX3_joinFresh_1 ⟨Nat.zero_le _, Nat.zero_le _⟩) hC (fun σ1 H locs hC hw => ?_)
  refine lv_iconst (v := 0) hx hb dX3_joinFresh_4 (by decide) ?_
  refine lv_istore_n (lv' := [(1, .int (0)), (0, .ref (L (s0)))]) hx hb dX3_joinFresh_5 rfl hl (by decide) rfl (fun ls hl => ?_)
  obtain ⟨n_, hw⟩ := hw
  refine tX3_joinFresh_6 F h0 _ n_ 0 σ1 _ _ _ hC (lv_sub hl [1, 0] rfl) hw ?_
  · intro x1_2 σ_2 H locs ls hC hl hw
    refine lv_iload_n hx hb dX3_joinFresh_32 rfl (lv_at hl 1 rfl) ?_
    refine lv_aload_n hx hb dX3_joinFresh_33 rfl (lv_at hl 0 rfl) ?_
    refine ss_get (C := RX3) (T := TX3) (N := 4) (ci := 3) (v := .ref (L (1))) F hC (s0) u_X3 h0.lt (ceC_sp (L := L) (cI := cI) (cS := cS) h0 _) rfl 0 (by decide) f_18 rfl dX3_joinFresh_34 ?_
    refine ss_getN (C := RX0) (T := TX0) (N := 3) (ci := 0) (host := RX4) (v := .int (σ_2 1 1)) F hC (1) u_X0 (Nat.le_of_ble_eq_true rfl) rfl rfl 1 (by decide) (by decide +kernel) rfl dX3_joinFresh_37 ?_
    refine lv_icmp_ne (tgt := 44) hx hb dX3_joinFresh_40 (by decide) (fun hc => ?_) (fun hc => ?_)
    · replace hw := hw.1 hc
      refine lv_aload_n hx hb dX3_joinFresh_44 rfl (lv_at hl 0 rfl) ?_
      refine lv_iload_n hx hb dX3_joinFresh_45 rfl (lv_at hl 1 rfl) ?_
      refine lv_aload_n hx hb dX3_joinFresh_46 rfl (lv_at hl 0 rfl) ?_
      refine ss_get (C := RX3) (T := TX3) (N := 4) (ci := 3) (v := .ref (L (1))) F hC (s0) u_X3 h0.lt (ceC_sp (L := L) (cI := cI) (cS := cS) h0 _) rfl 0 (by decide) f_18 rfl dX3_joinFresh_47 ?_
      refine lv_aload_n hx hb dX3_joinFresh_50 rfl (lv_at hl 0 rfl) ?_
      refine ss_get (C := RX3) (T := TX3) (N := 4) (ci := 3) (v := .ref (L (s0 + 2))) F hC (s0) u_X3 h0.lt (ceC_sp (L := L) (cI := cI) (cS := cS) h0 _) rfl 2 (by decide) f_15 rfl dX3_joinFresh_51 ?_
      refine lv_iload_n hx hb dX3_joinFresh_54 rfl (lv_at hl 1 rfl) ?_
      refine ss_iald F hC (s0 + 2) 0 h0.fresh.lt (ceC_ar (L := L) (cI := cI) (cS := cS) h0.fresh) rfl hw.1 dX3_joinFresh_55 ?_
      replace hw := hw.2
      refine ss_ki (ss_rVN (C := RX0) (host := RX4) (As := [.int (σ_2 (s0 + 2) (Int32.toNatClampNeg x1_2))]) (rest := [.int (x1_2), .ref (L (s0))]) F ((mX0_inverse l D A L wr cI cZ cS σ_2 (σ_2 (s0 + 2) (Int32.toNatClampNeg x1_2))) _) gX3_joinFresh_X0_inverse_n72 rfl ⟨rfl, rfl⟩ dvX0_inverse (by decide +kernel) ⟨by decide +kernel, by decide +kernel, by decide +kernel⟩ ⟨Nat.le_of_ble_eq_true rfl, Nat.le_of_ble_eq_true rfl⟩ (ss_preV F.2.2.2.2.1 F.2.2.2.2.2 hC (ss_rec (C := RX0) (T := TX0) (N := 3) (ci := 0) F.2.2.2.2.1 hC (1) (Nat.le_of_ble_eq_true rfl) rfl rfl) hw) rfl hl.1 rfl (Nat.le_of_ble_eq_true rfl) dX3_joinFresh_56 ⟨Nat.zero_le _, Nat.zero_le _⟩) hC (fun r4 σ3 H locs hC hw => ?_)
      refine ss_kv (ss_rV (C := RX3) (As := [.int (x1_2), .int (r4)]) (rest := []) F ((mX3_takeRow l D A L wr cI cZ cS σ3 s0 x1_2 r4 h0) _) gX3_joinFresh_X3_takeRow rfl ⟨rfl, rfl⟩ ⟨rfl, dvX3_takeRow⟩ ⟨Nat.le_of_ble_eq_true rfl, Nat.le_of_ble_eq_true rfl⟩ (ss_preV F.2.2.2.2.1 F.2.2.2.2.2 hC (ss_rec (C := RX3) (T := TX3) (N := 4) (ci := 3) F.2.2.2.2.1 hC (s0) h0.lt (ceC_sp (L := L) (cI := cI) (cS := cS) h0 _) rfl) hw) rfl hl.1 rfl (Nat.le_of_ble_eq_true rfl) dX3_joinFresh_59 ⟨Nat.zero_le _, Nat.zero_le _⟩) hC (fun σ5 H locs hC hw => ?_)
      refine lv_iconst (v := 0) hx hb dX3_joinFresh_62 (by decide) ?_
      refine lv_istore_n (lv' := [(2, .int (0)), (0, .ref (L (s0))), (1, .int (x1_2))]) hx hb dX3_joinFresh_63 rfl hl (by decide) rfl (fun ls hl => ?_)
      obtain ⟨n_, hw⟩ := hw
      refine tX3_joinFresh_64 F h0 _ n_ 0 σ5 _ _ _ hC (lv_sub hl [1, 2, 0] rfl) hw ?_
      · intro x2_9 σ_9 H locs ls hC hl hw
        exact ss_vret F hC hw dX3_joinFresh_131
    · replace hw := hw.2 hc
      exact ss_vret F hC hw dX3_joinFresh_43

theorem mX3_joinFresh (l : Launch) (D : va_G) (A : Nat → Prop) (L : Nat → Nat) (wr : va_W) (cI cZ cS : ClassId) (σ : ss_S) (s0 : Nat) (h0 : isSp s0) : ss_MV l yX3_joinFresh wsX3_joinFresh rmX3_joinFresh (ss_EC D A L wr cI cZ cS) [.ref (L (s0))] σ (fun post => wX3_joinFresh s0 σ post) :=
  ss_MV.of (cc := cX3_joinFresh) (nL := 4) (ret := none) (own := RX3) (by decide) rfl rfl (Nat.le_of_ble_eq_true rfl) (fun post p e R s m below meth c H locs ls F hC hl hw => bX3_joinFresh F h0 σ H locs ls hC hl hw)

set_option maxHeartbeats 4000000 in
set_option maxRecDepth 100000 in
theorem tX3_joinSpace_2 {s0 : Nat} {s1 : Nat} {post : ss_S → Prop} (F : ss_F p R s m args meth c (ss_EC D A L wr cI cZ cS) cX3_joinSpace 3 wsX3_joinSpace RX3 none rmX3_joinSpace) (h0 : isSp s0) (h1 : isSp s1) (k54 : Int32 → ss_S → Prop) : ∀ (n : Nat) (x2 : Int32) (σ : ss_S) (H : Heap) (locs : List Loc) (ls : Array Slot), ss_C (ss_EC D A L wr cI cZ cS) σ s H locs → lv_has ls 3 [(0, .ref (L (s0))), (1, .ref (L (s1))), (2, .int (x2))] → lX3_joinSpace_2 s0 s1 post k54 n x2 σ →
    (∀ (x2 : Int32) (σ : ss_S) (H : Heap) (locs : List Loc) (ls : Array Slot), ss_C (ss_EC D A L wr cI cZ cS) σ s H locs → lv_has ls 3 [] → k54 x2 σ → W p l e R s m args below meth c H locs 0 0 (MQ below (va_Qv post (ss_B (ss_EC D A L wr cI cZ cS)) A) args s 0 0 A) (F0 m 54 ls [])) →
    W p l e R s m args below meth c H locs 0 0 (MQ below (va_Qv post (ss_B (ss_EC D A L wr cI cZ cS)) A) args s 0 0 A) (F0 m 2 ls []) := by
  have hx := F.1.1
  have hb := F.1.2.1
  have u_X3 : ∀ w ∈ u_ws RX3 TX3 4, w ∈ wsX3_joinSpace := by decide +kernel
  have f_18 : (Cond.fieldLink RX3 18 "SmallSpaces$Space" "frame" "LSmallSpaces$Frame;").before args s = true := F.1.2.2.2.2 _ (by decide +kernel)
  have u_X0 : ∀ w ∈ u_ws RX0 TX0 3, w ∈ wsX3_joinSpace := by decide +kernel
  have f_9 : (Cond.fieldLink RX3 9 "SmallSpaces$Space" "cells" "[I").before args s = true := F.1.2.2.2.2 _ (by decide +kernel)
  have f_15 : (Cond.fieldLink RX3 15 "SmallSpaces$Space" "fresh" "[I").before args s = true := F.1.2.2.2.2 _ (by decide +kernel)
  have a_l : (Cond.methodLink RX3 26 arraycopyName).before args s = true := F.1.2.2.2.2 _ (by decide +kernel)
  have a_n : (Cond.native arraycopyName).before args s = true := F.1.2.2.2.2 _ (by decide +kernel)
  have a_s : (Cond.static arraycopyName).before args s = true := F.1.2.2.2.2 _ (by decide +kernel)
  have a_i : (Cond.initialized "java/lang/System").before args s = true := F.1.2.2.2.2 _ (by decide +kernel)
  intro n
  induction n with
  | zero => intro x2 σ H locs ls hC hl hw; exact hw.elim
  | succ n ih =>
    intro x2 σ H locs ls hC hl hw hk54
    refine lv_iload_n hx hb dX3_joinSpace_2 rfl (lv_at hl 2 rfl) ?_
    refine lv_aload_n hx hb dX3_joinSpace_3 rfl (lv_at hl 0 rfl) ?_
    refine ss_get (C := RX3) (T := TX3) (N := 4) (ci := 3) (v := .ref (L (1))) F hC (s0) u_X3 h0.lt (ceC_sp (L := L) (cI := cI) (cS := cS) h0 _) rfl 0 (by decide) f_18 rfl dX3_joinSpace_4 ?_
    refine ss_getN (C := RX0) (T := TX0) (N := 3) (ci := 0) (host := RX4) (v := .int (σ 1 1)) F hC (1) u_X0 (Nat.le_of_ble_eq_true rfl) rfl rfl 1 (by decide) (by decide +kernel) rfl dX3_joinSpace_7 ?_
    refine lv_icmp_ge (tgt := 54) hx hb dX3_joinSpace_10 (by decide) (fun hc => ?_) (fun hc => ?_)
    · replace hw := hw.1 hc
      exact hk54 x2 σ _ _ _ hC (lv_sub hl [] rfl) hw
    · replace hw := hw.2 hc
      refine lv_aload_n hx hb dX3_joinSpace_13 rfl (lv_at hl 1 rfl) ?_
      refine lv_iload_n hx hb dX3_joinSpace_14 rfl (lv_at hl 2 rfl) ?_
      refine ss_ki (ss_rV (C := RX3) (As := [.int (x2)]) (rest := []) F ((mX3_isPivot l D A L wr cI cZ cS σ s1 x2 h1) _) gX3_joinSpace_X3_isPivot rfl ⟨rfl, rfl⟩ ⟨rfl, dvX3_isPivot⟩ ⟨Nat.le_of_ble_eq_true rfl, Nat.le_of_ble_eq_true rfl⟩ (ss_preV F.2.2.2.2.1 F.2.2.2.2.2 hC (ss_rec (C := RX3) (T := TX3) (N := 4) (ci := 3) F.2.2.2.2.1 hC (s1) h1.lt (ceC_sp (L := L) (cI := cI) (cS := cS) h1 _) rfl) hw) rfl hl.1 rfl (Nat.le_of_ble_eq_true rfl) dX3_joinSpace_15 ⟨Nat.zero_le _, Nat.zero_le _⟩) hC (fun r2 σ1 H locs hC hw => ?_)
      refine lv_if_eq (tgt := 48) hx hb dX3_joinSpace_18 (by decide) (fun hc => ?_) (fun hc => ?_)
      · replace hw := hw.1 hc
        refine lv_iinc (v := x2 + 1) (lv' := [(2, .int (x2 + 1)), (0, .ref (L (s0))), (1, .ref (L (s1)))]) hx hb dX3_joinSpace_48 hl (k := 2) rfl rfl (by decide) rfl (fun ls hl => ?_)
        refine lv_goto (tgt := 2) hx hb dX3_joinSpace_51 (by decide) ?_
        exact ih (x2 + 1) σ1 _ _ _ hC (lv_sub hl [1, 2, 0] rfl) hw hk54
      · replace hw := hw.2 hc
        refine lv_aload_n hx hb dX3_joinSpace_21 rfl (lv_at hl 1 rfl) ?_
        refine ss_get (C := RX3) (T := TX3) (N := 4) (ci := 3) (v := .ref (L (s1 + 1))) F hC (s1) u_X3 h1.lt (ceC_sp (L := L) (cI := cI) (cS := cS) h1 _) rfl 1 (by decide) f_9 rfl dX3_joinSpace_22 ?_
        refine lv_iload_n hx hb dX3_joinSpace_25 rfl (lv_at hl 2 rfl) ?_
        refine lv_bipush (v := 6) hx hb dX3_joinSpace_26 (by decide) ?_
        refine lv_imul hx hb dX3_joinSpace_28 ?_
        refine lv_aload_n hx hb dX3_joinSpace_29 rfl (lv_at hl 0 rfl) ?_
        refine ss_get (C := RX3) (T := TX3) (N := 4) (ci := 3) (v := .ref (L (s0 + 2))) F hC (s0) u_X3 h0.lt (ceC_sp (L := L) (cI := cI) (cS := cS) h0 _) rfl 2 (by decide) f_15 rfl dX3_joinSpace_30 ?_
        refine lv_iconst (v := 0) hx hb dX3_joinSpace_33 (by decide) ?_
        refine lv_aload_n hx hb dX3_joinSpace_34 rfl (lv_at hl 0 rfl) ?_
        refine ss_get (C := RX3) (T := TX3) (N := 4) (ci := 3) (v := .ref (L (1))) F hC (s0) u_X3 h0.lt (ceC_sp (L := L) (cI := cI) (cS := cS) h0 _) rfl 0 (by decide) f_18 rfl dX3_joinSpace_35 ?_
        refine ss_getN (C := RX0) (T := TX0) (N := 3) (ci := 0) (host := RX4) (v := .int (σ1 1 1)) F hC (1) u_X0 (Nat.le_of_ble_eq_true rfl) rfl rfl 1 (by decide) (by decide +kernel) rfl dX3_joinSpace_38 ?_
        refine ss_copy F hC hl.1 a_l a_n a_s a_i (s1 + 1) (s0 + 2) 0 h1.cells.lt h0.fresh.lt (ceC_ar (L := L) (cI := cI) (cS := cS) h1.cells) (ceC_ar (L := L) (cI := cI) (cS := cS) h0.fresh) rfl hw.1 hw.2.1 hw.2.2.1 hw.2.2.2.1 hw.2.2.2.2.1 (Nat.le_of_ble_eq_true rfl) (Nat.le_of_ble_eq_true rfl) dX3_joinSpace_41 (fun H locs hC => ?_)
        replace hw := hw.2.2.2.2.2
        refine lv_aload_n hx hb dX3_joinSpace_44 rfl (lv_at hl 0 rfl) ?_
        refine ss_kv (ss_rV (C := RX3) (As := []) (rest := []) F ((mX3_joinFresh l D A L wr cI cZ cS (sA σ1 (s0 + 2) (va_cpy (σ1 (s1 + 1)) (σ1 (s0 + 2)) (Int32.toNatClampNeg (x2 * 6)) (Int32.toNatClampNeg 0) (Int32.toNatClampNeg (σ1 1 1)))) s0 h0) _) gX3_joinSpace_X3_joinFresh rfl ⟨rfl, rfl⟩ ⟨rfl, dvX3_joinFresh⟩ ⟨Nat.le_of_ble_eq_true rfl, Nat.le_of_ble_eq_true rfl⟩ (ss_preV F.2.2.2.2.1 F.2.2.2.2.2 hC (ss_rec (C := RX3) (T := TX3) (N := 4) (ci := 3) F.2.2.2.2.1 hC (s0) h0.lt (ceC_sp (L := L) (cI := cI) (cS := cS) h0 _) rfl) hw) rfl hl.1 rfl (Nat.le_of_ble_eq_true rfl) dX3_joinSpace_45 ⟨Nat.zero_le _, Nat.zero_le _⟩) hC (fun σ3 H locs hC hw => ?_)
        refine lv_iinc (v := x2 + 1) (lv' := [(2, .int (x2 + 1)), (0, .ref (L (s0))), (1, .ref (L (s1)))]) hx hb dX3_joinSpace_48 hl (k := 2) rfl rfl (by decide) rfl (fun ls hl => ?_)
        refine lv_goto (tgt := 2) hx hb dX3_joinSpace_51 (by decide) ?_
        exact ih (x2 + 1) σ3 _ _ _ hC (lv_sub hl [1, 2, 0] rfl) hw hk54

set_option maxHeartbeats 4000000 in
set_option maxRecDepth 100000 in
theorem bX3_joinSpace {s0 : Nat} {s1 : Nat} {post : ss_S → Prop} (F : ss_F p R s m args meth c (ss_EC D A L wr cI cZ cS) cX3_joinSpace 3 wsX3_joinSpace RX3 none rmX3_joinSpace) (h0 : isSp s0) (h1 : isSp s1) : ∀ (σ : ss_S) (H : Heap) (locs : List Loc) (ls : Array Slot), ss_C (ss_EC D A L wr cI cZ cS) σ s H locs → lv_has ls 3 [(0, .ref (L (s0))), (1, .ref (L (s1)))] → wX3_joinSpace s0 s1 σ post → W p l e R s m args below meth c H locs 0 0 (MQ below (va_Qv post (ss_B (ss_EC D A L wr cI cZ cS)) A) args s 0 0 A) (F0 m 0 ls []) := by
  have hx := F.1.1
  have hb := F.1.2.1
  intro σ H locs ls hC hl hw
  unfold wX3_joinSpace at hw
  refine lv_iconst (v := 0) hx hb dX3_joinSpace_0 (by decide) ?_
  refine lv_istore_n (lv' := [(2, .int (0)), (0, .ref (L (s0))), (1, .ref (L (s1)))]) hx hb dX3_joinSpace_1 rfl hl (by decide) rfl (fun ls hl => ?_)
  obtain ⟨n_, hw⟩ := hw
  refine tX3_joinSpace_2 F h0 h1 _ n_ 0 σ _ _ _ hC (lv_sub hl [1, 2, 0] rfl) hw ?_
  · intro x2_4 σ_4 H locs ls hC hl hw
    exact ss_vret F hC hw dX3_joinSpace_54

theorem mX3_joinSpace (l : Launch) (D : va_G) (A : Nat → Prop) (L : Nat → Nat) (wr : va_W) (cI cZ cS : ClassId) (σ : ss_S) (s0 : Nat) (s1 : Nat) (h0 : isSp s0) (h1 : isSp s1) : ss_MV l yX3_joinSpace wsX3_joinSpace rmX3_joinSpace (ss_EC D A L wr cI cZ cS) [.ref (L (s0)), .ref (L (s1))] σ (fun post => wX3_joinSpace s0 s1 σ post) :=
  ss_MV.of (cc := cX3_joinSpace) (nL := 3) (ret := none) (own := RX3) (by decide) rfl rfl (Nat.le_of_ble_eq_true rfl) (fun post p e R s m below meth c H locs ls F hC hl hw => bX3_joinSpace F h0 h1 σ H locs ls hC hl hw)

set_option maxHeartbeats 4000000 in
set_option maxRecDepth 100000 in
theorem bX3_rank {s0 : Nat} {post : Int32 → ss_S → Prop} (F : ss_F p R s m args meth c (ss_EC D A L wr cI cZ cS) cX3_rank 1 wsX3_rank RX3 (some .int) rmX3_rank) (h0 : isSp s0) : ∀ (σ : ss_S) (H : Heap) (locs : List Loc) (ls : Array Slot), ss_C (ss_EC D A L wr cI cZ cS) σ s H locs → lv_has ls 1 [(0, .ref (L (s0)))] → wX3_rank s0 σ post → W p l e R s m args below meth c H locs 0 0 (MQ below (va_Qi post (ss_B (ss_EC D A L wr cI cZ cS)) A) args s 0 0 A) (F0 m 0 ls []) := by
  have hx := F.1.1
  have hb := F.1.2.1
  have u_X3 : ∀ w ∈ u_ws RX3 TX3 4, w ∈ wsX3_rank := by decide +kernel
  have f_22 : (Cond.fieldLink RX3 22 "SmallSpaces$Space" "pivots" "I").before args s = true := F.1.2.2.2.2 _ (by decide +kernel)
  intro σ H locs ls hC hl hw
  unfold wX3_rank at hw
  refine lv_aload_n hx hb dX3_rank_0 rfl (lv_at hl 0 rfl) ?_
  refine ss_get (C := RX3) (T := TX3) (N := 4) (ci := 3) (v := .int (σ s0 3)) F hC (s0) u_X3 h0.lt (ceC_sp (L := L) (cI := cI) (cS := cS) h0 _) rfl 3 (by decide) f_22 rfl dX3_rank_1 ?_
  refine ss_ki (ss_rS (As := [.int (σ s0 3)]) (rest := []) F ((mJ6_bitCount_0f7a4 l D A L wr cI cZ cS σ (σ s0 3)) _) gX3_rank_J6_bitCount_0f7a4 rfl ⟨rfl, rfl⟩ dvJ6_bitCount_0f7a4 ⟨Nat.le_of_ble_eq_true rfl, Nat.le_of_ble_eq_true rfl⟩ (ss_preS F.2.2.2.2.1 F.2.2.2.2.2 hC hw) rfl hl.1 rfl (Nat.le_of_ble_eq_true rfl) dX3_rank_4 ⟨Nat.zero_le _, Nat.zero_le _⟩) hC (fun r2 σ1 H locs hC hw => ?_)
  exact ss_iret F hC hw dX3_rank_7

theorem mX3_rank (l : Launch) (D : va_G) (A : Nat → Prop) (L : Nat → Nat) (wr : va_W) (cI cZ cS : ClassId) (σ : ss_S) (s0 : Nat) (h0 : isSp s0) : ss_MI l yX3_rank wsX3_rank rmX3_rank (ss_EC D A L wr cI cZ cS) [.ref (L (s0))] σ (fun post => wX3_rank s0 σ post) :=
  ss_MI.of (cc := cX3_rank) (nL := 1) (ret := (some .int)) (own := RX3) (by decide) rfl rfl (Nat.le_of_ble_eq_true rfl) (fun post p e R s m below meth c H locs ls F hC hl hw => bX3_rank F h0 σ H locs ls hC hl hw)

set_option maxHeartbeats 4000000 in
set_option maxRecDepth 100000 in
theorem bX3_distance {s0 : Nat} {s1 : Nat} {s2 : Nat} {post : Int32 → ss_S → Prop} (F : ss_F p R s m args meth c (ss_EC D A L wr cI cZ cS) cX3_distance 3 wsX3_distance RX3 (some .int) rmX3_distance) (h0 : isSp s0) (h1 : isSp s1) (h2 : isSp s2) : ∀ (σ : ss_S) (H : Heap) (locs : List Loc) (ls : Array Slot), ss_C (ss_EC D A L wr cI cZ cS) σ s H locs → lv_has ls 3 [(0, .ref (L (s0))), (1, .ref (L (s1))), (2, .ref (L (s2)))] → wX3_distance s0 s1 s2 σ post → W p l e R s m args below meth c H locs 0 0 (MQ below (va_Qi post (ss_B (ss_EC D A L wr cI cZ cS)) A) args s 0 0 A) (F0 m 0 ls []) := by
  have hx := F.1.1
  have hb := F.1.2.1
  intro σ H locs ls hC hl hw
  unfold wX3_distance at hw
  refine lv_aload_n hx hb dX3_distance_0 rfl (lv_at hl 0 rfl) ?_
  refine lv_aload_n hx hb dX3_distance_1 rfl (lv_at hl 1 rfl) ?_
  refine ss_kv (ss_rV (C := RX3) (As := [.ref (L (s1))]) (rest := []) F ((mX3_copyFrom l D A L wr cI cZ cS σ s0 s1 h0 h1) _) gX3_distance_X3_copyFrom rfl ⟨rfl, rfl⟩ ⟨rfl, dvX3_copyFrom⟩ ⟨Nat.le_of_ble_eq_true rfl, Nat.le_of_ble_eq_true rfl⟩ (ss_preV F.2.2.2.2.1 F.2.2.2.2.2 hC (ss_rec (C := RX3) (T := TX3) (N := 4) (ci := 3) F.2.2.2.2.1 hC (s0) h0.lt (ceC_sp (L := L) (cI := cI) (cS := cS) h0 _) rfl) hw) rfl hl.1 rfl (Nat.le_of_ble_eq_true rfl) dX3_distance_2 ⟨Nat.zero_le _, Nat.zero_le _⟩) hC (fun σ1 H locs hC hw => ?_)
  refine lv_aload_n hx hb dX3_distance_5 rfl (lv_at hl 0 rfl) ?_
  refine lv_aload_n hx hb dX3_distance_6 rfl (lv_at hl 2 rfl) ?_
  refine ss_kv (ss_rV (C := RX3) (As := [.ref (L (s2))]) (rest := []) F ((mX3_joinSpace l D A L wr cI cZ cS σ1 s0 s2 h0 h2) _) gX3_distance_X3_joinSpace rfl ⟨rfl, rfl⟩ ⟨rfl, dvX3_joinSpace⟩ ⟨Nat.le_of_ble_eq_true rfl, Nat.le_of_ble_eq_true rfl⟩ (ss_preV F.2.2.2.2.1 F.2.2.2.2.2 hC (ss_rec (C := RX3) (T := TX3) (N := 4) (ci := 3) F.2.2.2.2.1 hC (s0) h0.lt (ceC_sp (L := L) (cI := cI) (cS := cS) h0 _) rfl) hw) rfl hl.1 rfl (Nat.le_of_ble_eq_true rfl) dX3_distance_7 ⟨Nat.zero_le _, Nat.zero_le _⟩) hC (fun σ2 H locs hC hw => ?_)
  refine lv_iconst (v := 2) hx hb dX3_distance_10 (by decide) ?_
  refine lv_aload_n hx hb dX3_distance_11 rfl (lv_at hl 0 rfl) ?_
  refine ss_ki (ss_rV (C := RX3) (As := []) (rest := [.int (2)]) F ((mX3_rank l D A L wr cI cZ cS σ2 s0 h0) _) gX3_distance_X3_rank rfl ⟨rfl, rfl⟩ ⟨rfl, dvX3_rank⟩ ⟨Nat.le_of_ble_eq_true rfl, Nat.le_of_ble_eq_true rfl⟩ (ss_preV F.2.2.2.2.1 F.2.2.2.2.2 hC (ss_rec (C := RX3) (T := TX3) (N := 4) (ci := 3) F.2.2.2.2.1 hC (s0) h0.lt (ceC_sp (L := L) (cI := cI) (cS := cS) h0 _) rfl) hw) rfl hl.1 rfl (Nat.le_of_ble_eq_true rfl) dX3_distance_12 ⟨Nat.zero_le _, Nat.zero_le _⟩) hC (fun r4 σ3 H locs hC hw => ?_)
  refine lv_imul hx hb dX3_distance_15 ?_
  refine lv_aload_n hx hb dX3_distance_16 rfl (lv_at hl 1 rfl) ?_
  refine ss_ki (ss_rV (C := RX3) (As := []) (rest := [.int (2 * r4)]) F ((mX3_rank l D A L wr cI cZ cS σ3 s1 h1) _) gX3_distance_X3_rank rfl ⟨rfl, rfl⟩ ⟨rfl, dvX3_rank⟩ ⟨Nat.le_of_ble_eq_true rfl, Nat.le_of_ble_eq_true rfl⟩ (ss_preV F.2.2.2.2.1 F.2.2.2.2.2 hC (ss_rec (C := RX3) (T := TX3) (N := 4) (ci := 3) F.2.2.2.2.1 hC (s1) h1.lt (ceC_sp (L := L) (cI := cI) (cS := cS) h1 _) rfl) hw) rfl hl.1 rfl (Nat.le_of_ble_eq_true rfl) dX3_distance_17 ⟨Nat.zero_le _, Nat.zero_le _⟩) hC (fun r6 σ5 H locs hC hw => ?_)
  refine lv_isub hx hb dX3_distance_20 ?_
  refine lv_aload_n hx hb dX3_distance_21 rfl (lv_at hl 2 rfl) ?_
  refine ss_ki (ss_rV (C := RX3) (As := []) (rest := [.int ((2 * r4) - r6)]) F ((mX3_rank l D A L wr cI cZ cS σ5 s2 h2) _) gX3_distance_X3_rank rfl ⟨rfl, rfl⟩ ⟨rfl, dvX3_rank⟩ ⟨Nat.le_of_ble_eq_true rfl, Nat.le_of_ble_eq_true rfl⟩ (ss_preV F.2.2.2.2.1 F.2.2.2.2.2 hC (ss_rec (C := RX3) (T := TX3) (N := 4) (ci := 3) F.2.2.2.2.1 hC (s2) h2.lt (ceC_sp (L := L) (cI := cI) (cS := cS) h2 _) rfl) hw) rfl hl.1 rfl (Nat.le_of_ble_eq_true rfl) dX3_distance_22 ⟨Nat.zero_le _, Nat.zero_le _⟩) hC (fun r8 σ7 H locs hC hw => ?_)
  refine lv_isub hx hb dX3_distance_25 ?_
  exact ss_iret F hC hw dX3_distance_26

theorem mX3_distance (l : Launch) (D : va_G) (A : Nat → Prop) (L : Nat → Nat) (wr : va_W) (cI cZ cS : ClassId) (σ : ss_S) (s0 : Nat) (s1 : Nat) (s2 : Nat) (h0 : isSp s0) (h1 : isSp s1) (h2 : isSp s2) : ss_MI l yX3_distance wsX3_distance rmX3_distance (ss_EC D A L wr cI cZ cS) [.ref (L (s0)), .ref (L (s1)), .ref (L (s2))] σ (fun post => wX3_distance s0 s1 s2 σ post) :=
  ss_MI.of (cc := cX3_distance) (nL := 3) (ret := (some .int)) (own := RX3) (by decide) rfl rfl (Nat.le_of_ble_eq_true rfl) (fun post p e R s m below meth c H locs ls F hC hl hw => bX3_distance F h0 h1 h2 σ H locs ls hC hl hw)

set_option maxHeartbeats 4000000 in
set_option maxRecDepth 100000 in
theorem tX3_settledFigure_6 {s0 : Nat} {s1 : Nat} {x2 : Int32} {x3 : Int32} {post : Int32 → ss_S → Prop} (F : ss_F p R s m args meth c (ss_EC D A L wr cI cZ cS) cX3_settledFigure 6 wsX3_settledFigure RX3 (some .int) rmX3_settledFigure) (h0 : isSp s0) (h1 : isAr s1) (k51 : Int32 → Int32 → ss_S → Prop) : ∀ (n : Nat) (x4 : Int32) (x5 : Int32) (σ : ss_S) (H : Heap) (locs : List Loc) (ls : Array Slot), ss_C (ss_EC D A L wr cI cZ cS) σ s H locs → lv_has ls 6 [(0, .ref (L (s0))), (1, .ref (L (s1))), (2, .int (x2)), (3, .int (x3)), (4, .int (x4)), (5, .int (x5))] → lX3_settledFigure_6 s0 s1 x2 x3 post k51 n x4 x5 σ →
    (∀ (x4 : Int32) (x5 : Int32) (σ : ss_S) (H : Heap) (locs : List Loc) (ls : Array Slot), ss_C (ss_EC D A L wr cI cZ cS) σ s H locs → lv_has ls 6 [(0, .ref (L (s0))), (4, .int (x4))] → k51 x4 x5 σ → W p l e R s m args below meth c H locs 0 0 (MQ below (va_Qi post (ss_B (ss_EC D A L wr cI cZ cS)) A) args s 0 0 A) (F0 m 51 ls [])) →
    W p l e R s m args below meth c H locs 0 0 (MQ below (va_Qi post (ss_B (ss_EC D A L wr cI cZ cS)) A) args s 0 0 A) (F0 m 6 ls []) := by
  have hx := F.1.1
  have hb := F.1.2.1
  have u_X3 : ∀ w ∈ u_ws RX3 TX3 4, w ∈ wsX3_settledFigure := by decide +kernel
  have f_9 : (Cond.fieldLink RX3 9 "SmallSpaces$Space" "cells" "[I").before args s = true := F.1.2.2.2.2 _ (by decide +kernel)
  intro n
  induction n with
  | zero => intro x4 x5 σ H locs ls hC hl hw; exact hw.elim
  | succ n ih =>
    intro x4 x5 σ H locs ls hC hl hw hk51
    refine lv_iload hx hb dX3_settledFigure_6 (lv_at hl 5 rfl) ?_
    refine lv_iload_n hx hb dX3_settledFigure_8 rfl (lv_at hl 3 rfl) ?_
    refine lv_icmp_ge (tgt := 51) hx hb dX3_settledFigure_9 (by decide) (fun hc => ?_) (fun hc => ?_)
    · replace hw := hw.1 hc
      exact hk51 x4 x5 σ _ _ _ hC (lv_sub hl [0, 4] rfl) hw
    · replace hw := hw.2 hc
      refine lv_aload_n hx hb dX3_settledFigure_12 rfl (lv_at hl 0 rfl) ?_
      refine lv_iload hx hb dX3_settledFigure_13 (lv_at hl 5 rfl) ?_
      refine ss_ki (ss_rV (C := RX3) (As := [.int (x5)]) (rest := []) F ((mX3_isPivot l D A L wr cI cZ cS σ s0 x5 h0) _) gX3_settledFigure_X3_isPivot rfl ⟨rfl, rfl⟩ ⟨rfl, dvX3_isPivot⟩ ⟨Nat.le_of_ble_eq_true rfl, Nat.le_of_ble_eq_true rfl⟩ (ss_preV F.2.2.2.2.1 F.2.2.2.2.2 hC (ss_rec (C := RX3) (T := TX3) (N := 4) (ci := 3) F.2.2.2.2.1 hC (s0) h0.lt (ceC_sp (L := L) (cI := cI) (cS := cS) h0 _) rfl) hw) rfl hl.1 rfl (Nat.le_of_ble_eq_true rfl) dX3_settledFigure_15 ⟨Nat.zero_le _, Nat.zero_le _⟩) hC (fun r2 σ1 H locs hC hw => ?_)
      refine lv_if_eq (tgt := 45) hx hb dX3_settledFigure_18 (by decide) (fun hc => ?_) (fun hc => ?_)
      · replace hw := hw.1 hc
        refine lv_iinc (v := x5 + 1) (lv' := [(5, .int (x5 + 1)), (0, .ref (L (s0))), (1, .ref (L (s1))), (2, .int (x2)), (3, .int (x3)), (4, .int (x4))]) hx hb dX3_settledFigure_45 hl (k := 5) rfl rfl (by decide) rfl (fun ls hl => ?_)
        refine lv_goto (tgt := 6) hx hb dX3_settledFigure_48 (by decide) ?_
        exact ih x4 (x5 + 1) σ1 _ _ _ hC (lv_sub hl [1, 2, 3, 4, 5, 0] rfl) hw hk51
      · replace hw := hw.2 hc
        refine lv_iload hx hb dX3_settledFigure_21 (lv_at hl 4 rfl) ?_
        refine lv_aload_n hx hb dX3_settledFigure_23 rfl (lv_at hl 1 rfl) ?_
        refine lv_iload_n hx hb dX3_settledFigure_24 rfl (lv_at hl 2 rfl) ?_
        refine lv_iload hx hb dX3_settledFigure_25 (lv_at hl 5 rfl) ?_
        refine lv_iadd hx hb dX3_settledFigure_27 ?_
        refine ss_iald F hC (s1) 0 h1.lt (ceC_ar (L := L) (cI := cI) (cS := cS) h1) rfl hw.1 dX3_settledFigure_28 ?_
        replace hw := hw.2
        refine lv_aload_n hx hb dX3_settledFigure_29 rfl (lv_at hl 0 rfl) ?_
        refine ss_get (C := RX3) (T := TX3) (N := 4) (ci := 3) (v := .ref (L (s0 + 1))) F hC (s0) u_X3 h0.lt (ceC_sp (L := L) (cI := cI) (cS := cS) h0 _) rfl 1 (by decide) f_9 rfl dX3_settledFigure_30 ?_
        refine lv_iload hx hb dX3_settledFigure_33 (lv_at hl 5 rfl) ?_
        refine lv_bipush (v := 6) hx hb dX3_settledFigure_35 (by decide) ?_
        refine lv_imul hx hb dX3_settledFigure_37 ?_
        refine lv_iload_n hx hb dX3_settledFigure_38 rfl (lv_at hl 3 rfl) ?_
        refine lv_iadd hx hb dX3_settledFigure_39 ?_
        refine ss_iald F hC (s0 + 1) 0 h0.cells.lt (ceC_ar (L := L) (cI := cI) (cS := cS) h0.cells) rfl hw.1 dX3_settledFigure_40 ?_
        replace hw := hw.2
        refine lv_imul hx hb dX3_settledFigure_41 ?_
        refine lv_iadd hx hb dX3_settledFigure_42 ?_
        refine lv_istore (lv' := [(4, .int (x4 + ((σ1 s1 (Int32.toNatClampNeg (x2 + x5))) * (σ1 (s0 + 1) (Int32.toNatClampNeg ((x5 * 6) + x3)))))), (0, .ref (L (s0))), (1, .ref (L (s1))), (2, .int (x2)), (3, .int (x3)), (5, .int (x5))]) hx hb dX3_settledFigure_43 hl (by decide) rfl (fun ls hl => ?_)
        refine lv_iinc (v := x5 + 1) (lv' := [(5, .int (x5 + 1)), (4, .int (x4 + ((σ1 s1 (Int32.toNatClampNeg (x2 + x5))) * (σ1 (s0 + 1) (Int32.toNatClampNeg ((x5 * 6) + x3)))))), (0, .ref (L (s0))), (1, .ref (L (s1))), (2, .int (x2)), (3, .int (x3))]) hx hb dX3_settledFigure_45 hl (k := 5) rfl rfl (by decide) rfl (fun ls hl => ?_)
        refine lv_goto (tgt := 6) hx hb dX3_settledFigure_48 (by decide) ?_
        exact ih (x4 + ((σ1 s1 (Int32.toNatClampNeg (x2 + x5))) * (σ1 (s0 + 1) (Int32.toNatClampNeg ((x5 * 6) + x3))))) (x5 + 1) σ1 _ _ _ hC (lv_sub hl [2, 3, 4, 5, 1, 0] rfl) hw hk51

set_option maxHeartbeats 4000000 in
set_option maxRecDepth 100000 in
theorem bX3_settledFigure {s0 : Nat} {s1 : Nat} {x2 : Int32} {x3 : Int32} {post : Int32 → ss_S → Prop} (F : ss_F p R s m args meth c (ss_EC D A L wr cI cZ cS) cX3_settledFigure 6 wsX3_settledFigure RX3 (some .int) rmX3_settledFigure) (h0 : isSp s0) (h1 : isAr s1) : ∀ (σ : ss_S) (H : Heap) (locs : List Loc) (ls : Array Slot), ss_C (ss_EC D A L wr cI cZ cS) σ s H locs → lv_has ls 6 [(0, .ref (L (s0))), (1, .ref (L (s1))), (2, .int (x2)), (3, .int (x3))] → wX3_settledFigure s0 s1 x2 x3 σ post → W p l e R s m args below meth c H locs 0 0 (MQ below (va_Qi post (ss_B (ss_EC D A L wr cI cZ cS)) A) args s 0 0 A) (F0 m 0 ls []) := by
  have hx := F.1.1
  have hb := F.1.2.1
  have u_X3 : ∀ w ∈ u_ws RX3 TX3 4, w ∈ wsX3_settledFigure := by decide +kernel
  have f_18 : (Cond.fieldLink RX3 18 "SmallSpaces$Space" "frame" "LSmallSpaces$Frame;").before args s = true := F.1.2.2.2.2 _ (by decide +kernel)
  have u_X0 : ∀ w ∈ u_ws RX0 TX0 3, w ∈ wsX3_settledFigure := by decide +kernel
  intro σ H locs ls hC hl hw
  unfold wX3_settledFigure at hw
  refine lv_iconst (v := 0) hx hb dX3_settledFigure_0 (by decide) ?_
  refine lv_istore (lv' := [(4, .int (0)), (0, .ref (L (s0))), (1, .ref (L (s1))), (2, .int (x2)), (3, .int (x3))]) hx hb dX3_settledFigure_1 hl (by decide) rfl (fun ls hl => ?_)
  refine lv_iconst (v := 0) hx hb dX3_settledFigure_3 (by decide) ?_
  refine lv_istore (lv' := [(5, .int (0)), (4, .int (0)), (0, .ref (L (s0))), (1, .ref (L (s1))), (2, .int (x2)), (3, .int (x3))]) hx hb dX3_settledFigure_4 hl (by decide) rfl (fun ls hl => ?_)
  obtain ⟨n_, hw⟩ := hw
  refine tX3_settledFigure_6 F h0 h1 _ n_ 0 0 σ _ _ _ hC (lv_sub hl [2, 3, 4, 5, 1, 0] rfl) hw ?_
  · intro x4_3 x5_3 σ_3 H locs ls hC hl hw
    refine lv_iload hx hb dX3_settledFigure_51 (lv_at hl 1 rfl) ?_
    refine lv_aload_n hx hb dX3_settledFigure_53 rfl (lv_at hl 0 rfl) ?_
    refine ss_get (C := RX3) (T := TX3) (N := 4) (ci := 3) (v := .ref (L (1))) F hC (s0) u_X3 h0.lt (ceC_sp (L := L) (cI := cI) (cS := cS) h0 _) rfl 0 (by decide) f_18 rfl dX3_settledFigure_54 ?_
    refine ss_getN (C := RX0) (T := TX0) (N := 3) (ci := 0) (host := RX4) (v := .int (σ_3 1 0)) F hC (1) u_X0 (Nat.le_of_ble_eq_true rfl) rfl rfl 0 (by decide) (by decide +kernel) rfl dX3_settledFigure_57 ?_
    refine lv_irem hx hb dX3_settledFigure_60 hw.1 ?_
    replace hw := hw.2
    exact ss_iret F hC hw dX3_settledFigure_61

theorem mX3_settledFigure (l : Launch) (D : va_G) (A : Nat → Prop) (L : Nat → Nat) (wr : va_W) (cI cZ cS : ClassId) (σ : ss_S) (s0 : Nat) (s1 : Nat) (x2 : Int32) (x3 : Int32) (h0 : isSp s0) (h1 : isAr s1) : ss_MI l yX3_settledFigure wsX3_settledFigure rmX3_settledFigure (ss_EC D A L wr cI cZ cS) [.ref (L (s0)), .ref (L (s1)), .int (x2), .int (x3)] σ (fun post => wX3_settledFigure s0 s1 x2 x3 σ post) :=
  ss_MI.of (cc := cX3_settledFigure) (nL := 6) (ret := (some .int)) (own := RX3) (by decide) rfl rfl (Nat.le_of_ble_eq_true rfl) (fun post p e R s m below meth c H locs ls F hC hl hw => bX3_settledFigure F h0 h1 σ H locs ls hC hl hw)

set_option maxHeartbeats 4000000 in
set_option maxRecDepth 100000 in
theorem tX3_holds_2 {s0 : Nat} {s1 : Nat} {x2 : Int32} {post : Int32 → ss_S → Prop} (F : ss_F p R s m args meth c (ss_EC D A L wr cI cZ cS) cX3_holds 4 wsX3_holds RX3 (some .boolean) rmX3_holds) (h0 : isSp s0) (h1 : isAr s1) (k44 : Int32 → ss_S → Prop) : ∀ (n : Nat) (x3 : Int32) (σ : ss_S) (H : Heap) (locs : List Loc) (ls : Array Slot), ss_C (ss_EC D A L wr cI cZ cS) σ s H locs → lv_has ls 4 [(0, .ref (L (s0))), (1, .ref (L (s1))), (2, .int (x2)), (3, .int (x3))] → lX3_holds_2 s0 s1 x2 post k44 n x3 σ →
    (∀ (x3 : Int32) (σ : ss_S) (H : Heap) (locs : List Loc) (ls : Array Slot), ss_C (ss_EC D A L wr cI cZ cS) σ s H locs → lv_has ls 4 [] → k44 x3 σ → W p l e R s m args below meth c H locs 0 0 (MQ below (va_Qi post (ss_B (ss_EC D A L wr cI cZ cS)) A) args s 0 0 A) (F0 m 44 ls [])) →
    W p l e R s m args below meth c H locs 0 0 (MQ below (va_Qi post (ss_B (ss_EC D A L wr cI cZ cS)) A) args s 0 0 A) (F0 m 2 ls []) := by
  have hx := F.1.1
  have hb := F.1.2.1
  have u_X3 : ∀ w ∈ u_ws RX3 TX3 4, w ∈ wsX3_holds := by decide +kernel
  have f_18 : (Cond.fieldLink RX3 18 "SmallSpaces$Space" "frame" "LSmallSpaces$Frame;").before args s = true := F.1.2.2.2.2 _ (by decide +kernel)
  have u_X0 : ∀ w ∈ u_ws RX0 TX0 3, w ∈ wsX3_holds := by decide +kernel
  intro n
  induction n with
  | zero => intro x3 σ H locs ls hC hl hw; exact hw.elim
  | succ n ih =>
    intro x3 σ H locs ls hC hl hw hk44
    refine lv_iload_n hx hb dX3_holds_2 rfl (lv_at hl 3 rfl) ?_
    refine lv_aload_n hx hb dX3_holds_3 rfl (lv_at hl 0 rfl) ?_
    refine ss_get (C := RX3) (T := TX3) (N := 4) (ci := 3) (v := .ref (L (1))) F hC (s0) u_X3 h0.lt (ceC_sp (L := L) (cI := cI) (cS := cS) h0 _) rfl 0 (by decide) f_18 rfl dX3_holds_4 ?_
    refine ss_getN (C := RX0) (T := TX0) (N := 3) (ci := 0) (host := RX4) (v := .int (σ 1 1)) F hC (1) u_X0 (Nat.le_of_ble_eq_true rfl) rfl rfl 1 (by decide) (by decide +kernel) rfl dX3_holds_7 ?_
    refine lv_icmp_ge (tgt := 44) hx hb dX3_holds_10 (by decide) (fun hc => ?_) (fun hc => ?_)
    · replace hw := hw.1 hc
      exact hk44 x3 σ _ _ _ hC (lv_sub hl [] rfl) hw
    · replace hw := hw.2 hc
      refine lv_aload_n hx hb dX3_holds_13 rfl (lv_at hl 0 rfl) ?_
      refine lv_iload_n hx hb dX3_holds_14 rfl (lv_at hl 3 rfl) ?_
      refine ss_ki (ss_rV (C := RX3) (As := [.int (x3)]) (rest := []) F ((mX3_isPivot l D A L wr cI cZ cS σ s0 x3 h0) _) gX3_holds_X3_isPivot rfl ⟨rfl, rfl⟩ ⟨rfl, dvX3_isPivot⟩ ⟨Nat.le_of_ble_eq_true rfl, Nat.le_of_ble_eq_true rfl⟩ (ss_preV F.2.2.2.2.1 F.2.2.2.2.2 hC (ss_rec (C := RX3) (T := TX3) (N := 4) (ci := 3) F.2.2.2.2.1 hC (s0) h0.lt (ceC_sp (L := L) (cI := cI) (cS := cS) h0 _) rfl) hw) rfl hl.1 rfl (Nat.le_of_ble_eq_true rfl) dX3_holds_15 ⟨Nat.zero_le _, Nat.zero_le _⟩) hC (fun r2 σ1 H locs hC hw => ?_)
      refine lv_if_ne (tgt := 38) hx hb dX3_holds_18 (by decide) (fun hc => ?_) (fun hc => ?_)
      · replace hw := hw.1 hc
        refine lv_iinc (v := x3 + 1) (lv' := [(3, .int (x3 + 1)), (0, .ref (L (s0))), (1, .ref (L (s1))), (2, .int (x2))]) hx hb dX3_holds_38 hl (k := 3) rfl rfl (by decide) rfl (fun ls hl => ?_)
        refine lv_goto (tgt := 2) hx hb dX3_holds_41 (by decide) ?_
        exact ih (x3 + 1) σ1 _ _ _ hC (lv_sub hl [1, 2, 3, 0] rfl) hw hk44
      · replace hw := hw.2 hc
        refine lv_aload_n hx hb dX3_holds_21 rfl (lv_at hl 0 rfl) ?_
        refine lv_aload_n hx hb dX3_holds_22 rfl (lv_at hl 1 rfl) ?_
        refine lv_iload_n hx hb dX3_holds_23 rfl (lv_at hl 2 rfl) ?_
        refine lv_iload_n hx hb dX3_holds_24 rfl (lv_at hl 3 rfl) ?_
        refine ss_ki (ss_rV (C := RX3) (As := [.ref (L (s1)), .int (x2), .int (x3)]) (rest := []) F ((mX3_settledFigure l D A L wr cI cZ cS σ1 s0 s1 x2 x3 h0 h1) _) gX3_holds_X3_settledFigure rfl ⟨rfl, rfl⟩ ⟨rfl, dvX3_settledFigure⟩ ⟨Nat.le_of_ble_eq_true rfl, Nat.le_of_ble_eq_true rfl⟩ (ss_preV F.2.2.2.2.1 F.2.2.2.2.2 hC (ss_rec (C := RX3) (T := TX3) (N := 4) (ci := 3) F.2.2.2.2.1 hC (s0) h0.lt (ceC_sp (L := L) (cI := cI) (cS := cS) h0 _) rfl) hw) rfl hl.1 rfl (Nat.le_of_ble_eq_true rfl) dX3_holds_25 ⟨Nat.zero_le _, Nat.zero_le _⟩) hC (fun r4 σ3 H locs hC hw => ?_)
        refine lv_aload_n hx hb dX3_holds_28 rfl (lv_at hl 1 rfl) ?_
        refine lv_iload_n hx hb dX3_holds_29 rfl (lv_at hl 2 rfl) ?_
        refine lv_iload_n hx hb dX3_holds_30 rfl (lv_at hl 3 rfl) ?_
        refine lv_iadd hx hb dX3_holds_31 ?_
        refine ss_iald F hC (s1) 0 h1.lt (ceC_ar (L := L) (cI := cI) (cS := cS) h1) rfl hw.1 dX3_holds_32 ?_
        replace hw := hw.2
        refine lv_icmp_eq (tgt := 38) hx hb dX3_holds_33 (by decide) (fun hc => ?_) (fun hc => ?_)
        · replace hw := hw.1 hc
          refine lv_iinc (v := x3 + 1) (lv' := [(3, .int (x3 + 1)), (0, .ref (L (s0))), (1, .ref (L (s1))), (2, .int (x2))]) hx hb dX3_holds_38 hl (k := 3) rfl rfl (by decide) rfl (fun ls hl => ?_)
          refine lv_goto (tgt := 2) hx hb dX3_holds_41 (by decide) ?_
          exact ih (x3 + 1) σ3 _ _ _ hC (lv_sub hl [1, 2, 3, 0] rfl) hw hk44
        · replace hw := hw.2 hc
          refine lv_iconst (v := 0) hx hb dX3_holds_36 (by decide) ?_
          exact ss_zret F hC rfl hw dX3_holds_37

set_option maxHeartbeats 4000000 in
set_option maxRecDepth 100000 in
theorem bX3_holds {s0 : Nat} {s1 : Nat} {x2 : Int32} {post : Int32 → ss_S → Prop} (F : ss_F p R s m args meth c (ss_EC D A L wr cI cZ cS) cX3_holds 4 wsX3_holds RX3 (some .boolean) rmX3_holds) (h0 : isSp s0) (h1 : isAr s1) : ∀ (σ : ss_S) (H : Heap) (locs : List Loc) (ls : Array Slot), ss_C (ss_EC D A L wr cI cZ cS) σ s H locs → lv_has ls 4 [(0, .ref (L (s0))), (1, .ref (L (s1))), (2, .int (x2))] → wX3_holds s0 s1 x2 σ post → W p l e R s m args below meth c H locs 0 0 (MQ below (va_Qi post (ss_B (ss_EC D A L wr cI cZ cS)) A) args s 0 0 A) (F0 m 0 ls []) := by
  have hx := F.1.1
  have hb := F.1.2.1
  intro σ H locs ls hC hl hw
  unfold wX3_holds at hw
  refine lv_iconst (v := 0) hx hb dX3_holds_0 (by decide) ?_
  refine lv_istore_n (lv' := [(3, .int (0)), (0, .ref (L (s0))), (1, .ref (L (s1))), (2, .int (x2))]) hx hb dX3_holds_1 rfl hl (by decide) rfl (fun ls hl => ?_)
  obtain ⟨n_, hw⟩ := hw
  refine tX3_holds_2 F h0 h1 _ n_ 0 σ _ _ _ hC (lv_sub hl [1, 2, 3, 0] rfl) hw ?_
  · intro x3_5 σ_5 H locs ls hC hl hw
    refine lv_iconst (v := 1) hx hb dX3_holds_44 (by decide) ?_
    exact ss_zret F hC rfl hw dX3_holds_45

theorem mX3_holds (l : Launch) (D : va_G) (A : Nat → Prop) (L : Nat → Nat) (wr : va_W) (cI cZ cS : ClassId) (σ : ss_S) (s0 : Nat) (s1 : Nat) (x2 : Int32) (h0 : isSp s0) (h1 : isAr s1) : ss_MI l yX3_holds wsX3_holds rmX3_holds (ss_EC D A L wr cI cZ cS) [.ref (L (s0)), .ref (L (s1)), .int (x2)] σ (fun post => wX3_holds s0 s1 x2 σ post) :=
  ss_MI.of (cc := cX3_holds) (nL := 4) (ret := (some .boolean)) (own := RX3) (by decide) rfl rfl (Nat.le_of_ble_eq_true rfl) (fun post p e R s m below meth c H locs ls F hC hl hw => bX3_holds F h0 h1 σ H locs ls hC hl hw)

set_option maxHeartbeats 4000000 in
set_option maxRecDepth 100000 in
theorem bX3_becomeZero {s0 : Nat} {post : ss_S → Prop} (F : ss_F p R s m args meth c (ss_EC D A L wr cI cZ cS) cX3_becomeZero 1 wsX3_becomeZero RX3 none rmX3_becomeZero) (h0 : isSp s0) : ∀ (σ : ss_S) (H : Heap) (locs : List Loc) (ls : Array Slot), ss_C (ss_EC D A L wr cI cZ cS) σ s H locs → lv_has ls 1 [(0, .ref (L (s0)))] → wX3_becomeZero s0 σ post → W p l e R s m args below meth c H locs 0 0 (MQ below (va_Qv post (ss_B (ss_EC D A L wr cI cZ cS)) A) args s 0 0 A) (F0 m 0 ls []) := by
  have hx := F.1.1
  have hb := F.1.2.1
  have u_X3 : ∀ w ∈ u_ws RX3 TX3 4, w ∈ wsX3_becomeZero := by decide +kernel
  have f_22 : (Cond.fieldLink RX3 22 "SmallSpaces$Space" "pivots" "I").before args s = true := F.1.2.2.2.2 _ (by decide +kernel)
  intro σ H locs ls hC hl hw
  unfold wX3_becomeZero at hw
  refine lv_aload_n hx hb dX3_becomeZero_0 rfl (lv_at hl 0 rfl) ?_
  refine lv_iconst (v := 0) hx hb dX3_becomeZero_1 (by decide) ?_
  refine ss_put (C := RX3) (T := TX3) (N := 4) (ci := 3) F hC (s0) tyX3 tyX3_ok nmX3 u_X3 h0.lt (ceC_sp (L := L) (cI := cI) (cS := cS) h0 _) rfl 3 (by decide) f_22 rfl (by decide +kernel) (Nat.le_of_ble_eq_true rfl) ((ceC_sp (L := L) (cI := cI) (cS := cS) h0 _).trans rfl) dX3_becomeZero_2 (fun H locs hC => ?_)
  exact ss_vret F hC hw dX3_becomeZero_5

theorem mX3_becomeZero (l : Launch) (D : va_G) (A : Nat → Prop) (L : Nat → Nat) (wr : va_W) (cI cZ cS : ClassId) (σ : ss_S) (s0 : Nat) (h0 : isSp s0) : ss_MV l yX3_becomeZero wsX3_becomeZero rmX3_becomeZero (ss_EC D A L wr cI cZ cS) [.ref (L (s0))] σ (fun post => wX3_becomeZero s0 σ post) :=
  ss_MV.of (cc := cX3_becomeZero) (nL := 1) (ret := none) (own := RX3) (by decide) rfl rfl (Nat.le_of_ble_eq_true rfl) (fun post p e R s m below meth c H locs ls F hC hl hw => bX3_becomeZero F h0 σ H locs ls hC hl hw)

set_option maxHeartbeats 4000000 in
set_option maxRecDepth 100000 in
theorem bX3_joinVector {s0 : Nat} {s1 : Nat} {x2 : Int32} {post : ss_S → Prop} (F : ss_F p R s m args meth c (ss_EC D A L wr cI cZ cS) cX3_joinVector 3 wsX3_joinVector RX3 none rmX3_joinVector) (h0 : isSp s0) (h1 : isAr s1) : ∀ (σ : ss_S) (H : Heap) (locs : List Loc) (ls : Array Slot), ss_C (ss_EC D A L wr cI cZ cS) σ s H locs → lv_has ls 3 [(0, .ref (L (s0))), (1, .ref (L (s1))), (2, .int (x2))] → wX3_joinVector s0 s1 x2 σ post → W p l e R s m args below meth c H locs 0 0 (MQ below (va_Qv post (ss_B (ss_EC D A L wr cI cZ cS)) A) args s 0 0 A) (F0 m 0 ls []) := by
  have hx := F.1.1
  have hb := F.1.2.1
  have u_X3 : ∀ w ∈ u_ws RX3 TX3 4, w ∈ wsX3_joinVector := by decide +kernel
  have f_15 : (Cond.fieldLink RX3 15 "SmallSpaces$Space" "fresh" "[I").before args s = true := F.1.2.2.2.2 _ (by decide +kernel)
  have f_18 : (Cond.fieldLink RX3 18 "SmallSpaces$Space" "frame" "LSmallSpaces$Frame;").before args s = true := F.1.2.2.2.2 _ (by decide +kernel)
  have u_X0 : ∀ w ∈ u_ws RX0 TX0 3, w ∈ wsX3_joinVector := by decide +kernel
  have a_l : (Cond.methodLink RX3 26 arraycopyName).before args s = true := F.1.2.2.2.2 _ (by decide +kernel)
  have a_n : (Cond.native arraycopyName).before args s = true := F.1.2.2.2.2 _ (by decide +kernel)
  have a_s : (Cond.static arraycopyName).before args s = true := F.1.2.2.2.2 _ (by decide +kernel)
  have a_i : (Cond.initialized "java/lang/System").before args s = true := F.1.2.2.2.2 _ (by decide +kernel)
  intro σ H locs ls hC hl hw
  unfold wX3_joinVector at hw
  refine lv_aload_n hx hb dX3_joinVector_0 rfl (lv_at hl 1 rfl) ?_
  refine lv_iload_n hx hb dX3_joinVector_1 rfl (lv_at hl 2 rfl) ?_
  refine lv_aload_n hx hb dX3_joinVector_2 rfl (lv_at hl 0 rfl) ?_
  refine ss_get (C := RX3) (T := TX3) (N := 4) (ci := 3) (v := .ref (L (s0 + 2))) F hC (s0) u_X3 h0.lt (ceC_sp (L := L) (cI := cI) (cS := cS) h0 _) rfl 2 (by decide) f_15 rfl dX3_joinVector_3 ?_
  refine lv_iconst (v := 0) hx hb dX3_joinVector_6 (by decide) ?_
  refine lv_aload_n hx hb dX3_joinVector_7 rfl (lv_at hl 0 rfl) ?_
  refine ss_get (C := RX3) (T := TX3) (N := 4) (ci := 3) (v := .ref (L (1))) F hC (s0) u_X3 h0.lt (ceC_sp (L := L) (cI := cI) (cS := cS) h0 _) rfl 0 (by decide) f_18 rfl dX3_joinVector_8 ?_
  refine ss_getN (C := RX0) (T := TX0) (N := 3) (ci := 0) (host := RX4) (v := .int (σ 1 1)) F hC (1) u_X0 (Nat.le_of_ble_eq_true rfl) rfl rfl 1 (by decide) (by decide +kernel) rfl dX3_joinVector_11 ?_
  refine ss_copy F hC hl.1 a_l a_n a_s a_i (s1) (s0 + 2) 0 h1.lt h0.fresh.lt (ceC_ar (L := L) (cI := cI) (cS := cS) h1) (ceC_ar (L := L) (cI := cI) (cS := cS) h0.fresh) rfl hw.1 hw.2.1 hw.2.2.1 hw.2.2.2.1 hw.2.2.2.2.1 (Nat.le_of_ble_eq_true rfl) (Nat.le_of_ble_eq_true rfl) dX3_joinVector_14 (fun H locs hC => ?_)
  replace hw := hw.2.2.2.2.2
  refine lv_aload_n hx hb dX3_joinVector_17 rfl (lv_at hl 0 rfl) ?_
  refine ss_kv (ss_rV (C := RX3) (As := []) (rest := []) F ((mX3_joinFresh l D A L wr cI cZ cS (sA σ (s0 + 2) (va_cpy (σ s1) (σ (s0 + 2)) (Int32.toNatClampNeg x2) (Int32.toNatClampNeg 0) (Int32.toNatClampNeg (σ 1 1)))) s0 h0) _) gX3_joinVector_X3_joinFresh rfl ⟨rfl, rfl⟩ ⟨rfl, dvX3_joinFresh⟩ ⟨Nat.le_of_ble_eq_true rfl, Nat.le_of_ble_eq_true rfl⟩ (ss_preV F.2.2.2.2.1 F.2.2.2.2.2 hC (ss_rec (C := RX3) (T := TX3) (N := 4) (ci := 3) F.2.2.2.2.1 hC (s0) h0.lt (ceC_sp (L := L) (cI := cI) (cS := cS) h0 _) rfl) hw) rfl hl.1 rfl (Nat.le_of_ble_eq_true rfl) dX3_joinVector_18 ⟨Nat.zero_le _, Nat.zero_le _⟩) hC (fun σ1 H locs hC hw => ?_)
  exact ss_vret F hC hw dX3_joinVector_21

theorem mX3_joinVector (l : Launch) (D : va_G) (A : Nat → Prop) (L : Nat → Nat) (wr : va_W) (cI cZ cS : ClassId) (σ : ss_S) (s0 : Nat) (s1 : Nat) (x2 : Int32) (h0 : isSp s0) (h1 : isAr s1) : ss_MV l yX3_joinVector wsX3_joinVector rmX3_joinVector (ss_EC D A L wr cI cZ cS) [.ref (L (s0)), .ref (L (s1)), .int (x2)] σ (fun post => wX3_joinVector s0 s1 x2 σ post) :=
  ss_MV.of (cc := cX3_joinVector) (nL := 3) (ret := none) (own := RX3) (by decide) rfl rfl (Nat.le_of_ble_eq_true rfl) (fun post p e R s m below meth c H locs ls F hC hl hw => bX3_joinVector F h0 h1 σ H locs ls hC hl hw)

set_option maxHeartbeats 4000000 in
set_option maxRecDepth 100000 in
theorem tX3_rowNumber_4 {s0 : Nat} {x1 : Int32} {post : Int32 → ss_S → Prop} (F : ss_F p R s m args meth c (ss_EC D A L wr cI cZ cS) cX3_rowNumber 4 wsX3_rowNumber RX3 (some .int) rmX3_rowNumber) (h0 : isSp s0) (k53 : Int32 → Int32 → ss_S → Prop) : ∀ (n : Nat) (x2 : Int32) (x3 : Int32) (σ : ss_S) (H : Heap) (locs : List Loc) (ls : Array Slot), ss_C (ss_EC D A L wr cI cZ cS) σ s H locs → lv_has ls 4 [(0, .ref (L (s0))), (1, .int (x1)), (2, .int (x2)), (3, .int (x3))] → lX3_rowNumber_4 s0 x1 post k53 n x2 x3 σ →
    (∀ (x2 : Int32) (x3 : Int32) (σ : ss_S) (H : Heap) (locs : List Loc) (ls : Array Slot), ss_C (ss_EC D A L wr cI cZ cS) σ s H locs → lv_has ls 4 [] → k53 x2 x3 σ → W p l e R s m args below meth c H locs 0 0 (MQ below (va_Qi post (ss_B (ss_EC D A L wr cI cZ cS)) A) args s 0 0 A) (F0 m 53 ls [])) →
    W p l e R s m args below meth c H locs 0 0 (MQ below (va_Qi post (ss_B (ss_EC D A L wr cI cZ cS)) A) args s 0 0 A) (F0 m 4 ls []) := by
  have hx := F.1.1
  have hb := F.1.2.1
  have u_X3 : ∀ w ∈ u_ws RX3 TX3 4, w ∈ wsX3_rowNumber := by decide +kernel
  have f_18 : (Cond.fieldLink RX3 18 "SmallSpaces$Space" "frame" "LSmallSpaces$Frame;").before args s = true := F.1.2.2.2.2 _ (by decide +kernel)
  have u_X0 : ∀ w ∈ u_ws RX0 TX0 3, w ∈ wsX3_rowNumber := by decide +kernel
  have f_9 : (Cond.fieldLink RX3 9 "SmallSpaces$Space" "cells" "[I").before args s = true := F.1.2.2.2.2 _ (by decide +kernel)
  intro n
  induction n with
  | zero => intro x2 x3 σ H locs ls hC hl hw; exact hw.elim
  | succ n ih =>
    intro x2 x3 σ H locs ls hC hl hw hk53
    refine lv_iload_n hx hb dX3_rowNumber_4 rfl (lv_at hl 3 rfl) ?_
    refine lv_aload_n hx hb dX3_rowNumber_5 rfl (lv_at hl 0 rfl) ?_
    refine ss_get (C := RX3) (T := TX3) (N := 4) (ci := 3) (v := .ref (L (1))) F hC (s0) u_X3 h0.lt (ceC_sp (L := L) (cI := cI) (cS := cS) h0 _) rfl 0 (by decide) f_18 rfl dX3_rowNumber_6 ?_
    refine ss_getN (C := RX0) (T := TX0) (N := 3) (ci := 0) (host := RX4) (v := .int (σ 1 1)) F hC (1) u_X0 (Nat.le_of_ble_eq_true rfl) rfl rfl 1 (by decide) (by decide +kernel) rfl dX3_rowNumber_9 ?_
    refine lv_icmp_ge (tgt := 53) hx hb dX3_rowNumber_12 (by decide) (fun hc => ?_) (fun hc => ?_)
    · replace hw := hw.1 hc
      exact hk53 x2 x3 σ _ _ _ hC (lv_sub hl [] rfl) hw
    · replace hw := hw.2 hc
      refine lv_aload_n hx hb dX3_rowNumber_15 rfl (lv_at hl 0 rfl) ?_
      refine lv_iload_n hx hb dX3_rowNumber_16 rfl (lv_at hl 3 rfl) ?_
      refine ss_ki (ss_rV (C := RX3) (As := [.int (x3)]) (rest := []) F ((mX3_isPivot l D A L wr cI cZ cS σ s0 x3 h0) _) gX3_rowNumber_X3_isPivot rfl ⟨rfl, rfl⟩ ⟨rfl, dvX3_isPivot⟩ ⟨Nat.le_of_ble_eq_true rfl, Nat.le_of_ble_eq_true rfl⟩ (ss_preV F.2.2.2.2.1 F.2.2.2.2.2 hC (ss_rec (C := RX3) (T := TX3) (N := 4) (ci := 3) F.2.2.2.2.1 hC (s0) h0.lt (ceC_sp (L := L) (cI := cI) (cS := cS) h0 _) rfl) hw) rfl hl.1 rfl (Nat.le_of_ble_eq_true rfl) dX3_rowNumber_17 ⟨Nat.zero_le _, Nat.zero_le _⟩) hC (fun r2 σ1 H locs hC hw => ?_)
      refine lv_if_eq (tgt := 47) hx hb dX3_rowNumber_20 (by decide) (fun hc => ?_) (fun hc => ?_)
      · replace hw := hw.1 hc
        refine lv_iinc (v := x3 + 1) (lv' := [(3, .int (x3 + 1)), (0, .ref (L (s0))), (1, .int (x1)), (2, .int (x2))]) hx hb dX3_rowNumber_47 hl (k := 3) rfl rfl (by decide) rfl (fun ls hl => ?_)
        refine lv_goto (tgt := 4) hx hb dX3_rowNumber_50 (by decide) ?_
        exact ih x2 (x3 + 1) σ1 _ _ _ hC (lv_sub hl [1, 2, 3, 0] rfl) hw hk53
      · replace hw := hw.2 hc
        refine lv_iload_n hx hb dX3_rowNumber_23 rfl (lv_at hl 2 rfl) ?_
        refine lv_iload_n hx hb dX3_rowNumber_24 rfl (lv_at hl 1 rfl) ?_
        refine lv_icmp_ne (tgt := 44) hx hb dX3_rowNumber_25 (by decide) (fun hc => ?_) (fun hc => ?_)
        · replace hw := hw.1 hc
          refine lv_iinc (v := x2 + 1) (lv' := [(2, .int (x2 + 1)), (0, .ref (L (s0))), (1, .int (x1)), (3, .int (x3))]) hx hb dX3_rowNumber_44 hl (k := 2) rfl rfl (by decide) rfl (fun ls hl => ?_)
          refine lv_iinc (v := x3 + 1) (lv' := [(3, .int (x3 + 1)), (2, .int (x2 + 1)), (0, .ref (L (s0))), (1, .int (x1))]) hx hb dX3_rowNumber_47 hl (k := 3) rfl rfl (by decide) rfl (fun ls hl => ?_)
          refine lv_goto (tgt := 4) hx hb dX3_rowNumber_50 (by decide) ?_
          exact ih (x2 + 1) (x3 + 1) σ1 _ _ _ hC (lv_sub hl [2, 3, 1, 0] rfl) hw hk53
        · replace hw := hw.2 hc
          refine lv_aload_n hx hb dX3_rowNumber_28 rfl (lv_at hl 0 rfl) ?_
          refine ss_get (C := RX3) (T := TX3) (N := 4) (ci := 3) (v := .ref (L (1))) F hC (s0) u_X3 h0.lt (ceC_sp (L := L) (cI := cI) (cS := cS) h0 _) rfl 0 (by decide) f_18 rfl dX3_rowNumber_29 ?_
          refine lv_aload_n hx hb dX3_rowNumber_32 rfl (lv_at hl 0 rfl) ?_
          refine ss_get (C := RX3) (T := TX3) (N := 4) (ci := 3) (v := .ref (L (s0 + 1))) F hC (s0) u_X3 h0.lt (ceC_sp (L := L) (cI := cI) (cS := cS) h0 _) rfl 1 (by decide) f_9 rfl dX3_rowNumber_33 ?_
          refine lv_iload_n hx hb dX3_rowNumber_36 rfl (lv_at hl 3 rfl) ?_
          refine lv_bipush (v := 6) hx hb dX3_rowNumber_37 (by decide) ?_
          refine lv_imul hx hb dX3_rowNumber_39 ?_
          refine ss_ki (ss_rVN (C := RX0) (host := RX4) (As := [.ref (L (s0 + 1)), .int (x3 * 6)]) (rest := []) F ((mX0_vectorNumber l D A L wr cI cZ cS σ1 (s0 + 1) (x3 * 6) h0.cells) _) gX3_rowNumber_X0_vectorNumber_n47 rfl ⟨rfl, rfl⟩ dvX0_vectorNumber (by decide +kernel) ⟨by decide +kernel, by decide +kernel, by decide +kernel⟩ ⟨Nat.le_of_ble_eq_true rfl, Nat.le_of_ble_eq_true rfl⟩ (ss_preV F.2.2.2.2.1 F.2.2.2.2.2 hC (ss_rec (C := RX0) (T := TX0) (N := 3) (ci := 0) F.2.2.2.2.1 hC (1) (Nat.le_of_ble_eq_true rfl) rfl rfl) hw) rfl hl.1 rfl (Nat.le_of_ble_eq_true rfl) dX3_rowNumber_40 ⟨Nat.zero_le _, Nat.zero_le _⟩) hC (fun r4 σ3 H locs hC hw => ?_)
          exact ss_iret F hC hw dX3_rowNumber_43

set_option maxHeartbeats 4000000 in
set_option maxRecDepth 100000 in
theorem bX3_rowNumber {s0 : Nat} {x1 : Int32} {post : Int32 → ss_S → Prop} (F : ss_F p R s m args meth c (ss_EC D A L wr cI cZ cS) cX3_rowNumber 4 wsX3_rowNumber RX3 (some .int) rmX3_rowNumber) (h0 : isSp s0) : ∀ (σ : ss_S) (H : Heap) (locs : List Loc) (ls : Array Slot), ss_C (ss_EC D A L wr cI cZ cS) σ s H locs → lv_has ls 4 [(0, .ref (L (s0))), (1, .int (x1))] → wX3_rowNumber s0 x1 σ post → W p l e R s m args below meth c H locs 0 0 (MQ below (va_Qi post (ss_B (ss_EC D A L wr cI cZ cS)) A) args s 0 0 A) (F0 m 0 ls []) := by
  have hx := F.1.1
  have hb := F.1.2.1
  intro σ H locs ls hC hl hw
  unfold wX3_rowNumber at hw
  refine lv_iconst (v := 0) hx hb dX3_rowNumber_0 (by decide) ?_
  refine lv_istore_n (lv' := [(2, .int (0)), (0, .ref (L (s0))), (1, .int (x1))]) hx hb dX3_rowNumber_1 rfl hl (by decide) rfl (fun ls hl => ?_)
  refine lv_iconst (v := 0) hx hb dX3_rowNumber_2 (by decide) ?_
  refine lv_istore_n (lv' := [(3, .int (0)), (2, .int (0)), (0, .ref (L (s0))), (1, .int (x1))]) hx hb dX3_rowNumber_3 rfl hl (by decide) rfl (fun ls hl => ?_)
  obtain ⟨n_, hw⟩ := hw
  refine tX3_rowNumber_4 F h0 _ n_ 0 0 σ _ _ _ hC (lv_sub hl [2, 3, 1, 0] rfl) hw ?_
  · intro x2_5 x3_5 σ_5 H locs ls hC hl hw
    refine lv_iconst (v := -1) hx hb dX3_rowNumber_53 (by decide) ?_
    exact ss_iret F hC hw dX3_rowNumber_54

theorem mX3_rowNumber (l : Launch) (D : va_G) (A : Nat → Prop) (L : Nat → Nat) (wr : va_W) (cI cZ cS : ClassId) (σ : ss_S) (s0 : Nat) (x1 : Int32) (h0 : isSp s0) : ss_MI l yX3_rowNumber wsX3_rowNumber rmX3_rowNumber (ss_EC D A L wr cI cZ cS) [.ref (L (s0)), .int (x1)] σ (fun post => wX3_rowNumber s0 x1 σ post) :=
  ss_MI.of (cc := cX3_rowNumber) (nL := 4) (ret := (some .int)) (own := RX3) (by decide) rfl rfl (Nat.le_of_ble_eq_true rfl) (fun post p e R s m below meth c H locs ls F hC hl hw => bX3_rowNumber F h0 σ H locs ls hC hl hw)

set_option maxHeartbeats 4000000 in
set_option maxRecDepth 100000 in
theorem tX3_liesIn_2 {s0 : Nat} {s1 : Nat} {post : Int32 → ss_S → Prop} (F : ss_F p R s m args meth c (ss_EC D A L wr cI cZ cS) cX3_liesIn 3 wsX3_liesIn RX3 (some .boolean) rmX3_liesIn) (h0 : isSp s0) (h1 : isSp s1) (k44 : Int32 → ss_S → Prop) : ∀ (n : Nat) (x2 : Int32) (σ : ss_S) (H : Heap) (locs : List Loc) (ls : Array Slot), ss_C (ss_EC D A L wr cI cZ cS) σ s H locs → lv_has ls 3 [(0, .ref (L (s0))), (1, .ref (L (s1))), (2, .int (x2))] → lX3_liesIn_2 s0 s1 post k44 n x2 σ →
    (∀ (x2 : Int32) (σ : ss_S) (H : Heap) (locs : List Loc) (ls : Array Slot), ss_C (ss_EC D A L wr cI cZ cS) σ s H locs → lv_has ls 3 [] → k44 x2 σ → W p l e R s m args below meth c H locs 0 0 (MQ below (va_Qi post (ss_B (ss_EC D A L wr cI cZ cS)) A) args s 0 0 A) (F0 m 44 ls [])) →
    W p l e R s m args below meth c H locs 0 0 (MQ below (va_Qi post (ss_B (ss_EC D A L wr cI cZ cS)) A) args s 0 0 A) (F0 m 2 ls []) := by
  have hx := F.1.1
  have hb := F.1.2.1
  have u_X3 : ∀ w ∈ u_ws RX3 TX3 4, w ∈ wsX3_liesIn := by decide +kernel
  have f_18 : (Cond.fieldLink RX3 18 "SmallSpaces$Space" "frame" "LSmallSpaces$Frame;").before args s = true := F.1.2.2.2.2 _ (by decide +kernel)
  have u_X0 : ∀ w ∈ u_ws RX0 TX0 3, w ∈ wsX3_liesIn := by decide +kernel
  have f_9 : (Cond.fieldLink RX3 9 "SmallSpaces$Space" "cells" "[I").before args s = true := F.1.2.2.2.2 _ (by decide +kernel)
  intro n
  induction n with
  | zero => intro x2 σ H locs ls hC hl hw; exact hw.elim
  | succ n ih =>
    intro x2 σ H locs ls hC hl hw hk44
    refine lv_iload_n hx hb dX3_liesIn_2 rfl (lv_at hl 2 rfl) ?_
    refine lv_aload_n hx hb dX3_liesIn_3 rfl (lv_at hl 0 rfl) ?_
    refine ss_get (C := RX3) (T := TX3) (N := 4) (ci := 3) (v := .ref (L (1))) F hC (s0) u_X3 h0.lt (ceC_sp (L := L) (cI := cI) (cS := cS) h0 _) rfl 0 (by decide) f_18 rfl dX3_liesIn_4 ?_
    refine ss_getN (C := RX0) (T := TX0) (N := 3) (ci := 0) (host := RX4) (v := .int (σ 1 1)) F hC (1) u_X0 (Nat.le_of_ble_eq_true rfl) rfl rfl 1 (by decide) (by decide +kernel) rfl dX3_liesIn_7 ?_
    refine lv_icmp_ge (tgt := 44) hx hb dX3_liesIn_10 (by decide) (fun hc => ?_) (fun hc => ?_)
    · replace hw := hw.1 hc
      exact hk44 x2 σ _ _ _ hC (lv_sub hl [] rfl) hw
    · replace hw := hw.2 hc
      refine lv_aload_n hx hb dX3_liesIn_13 rfl (lv_at hl 0 rfl) ?_
      refine lv_iload_n hx hb dX3_liesIn_14 rfl (lv_at hl 2 rfl) ?_
      refine ss_ki (ss_rV (C := RX3) (As := [.int (x2)]) (rest := []) F ((mX3_isPivot l D A L wr cI cZ cS σ s0 x2 h0) _) gX3_liesIn_X3_isPivot rfl ⟨rfl, rfl⟩ ⟨rfl, dvX3_isPivot⟩ ⟨Nat.le_of_ble_eq_true rfl, Nat.le_of_ble_eq_true rfl⟩ (ss_preV F.2.2.2.2.1 F.2.2.2.2.2 hC (ss_rec (C := RX3) (T := TX3) (N := 4) (ci := 3) F.2.2.2.2.1 hC (s0) h0.lt (ceC_sp (L := L) (cI := cI) (cS := cS) h0 _) rfl) hw) rfl hl.1 rfl (Nat.le_of_ble_eq_true rfl) dX3_liesIn_15 ⟨Nat.zero_le _, Nat.zero_le _⟩) hC (fun r2 σ1 H locs hC hw => ?_)
      refine lv_if_eq (tgt := 38) hx hb dX3_liesIn_18 (by decide) (fun hc => ?_) (fun hc => ?_)
      · replace hw := hw.1 hc
        refine lv_iinc (v := x2 + 1) (lv' := [(2, .int (x2 + 1)), (0, .ref (L (s0))), (1, .ref (L (s1)))]) hx hb dX3_liesIn_38 hl (k := 2) rfl rfl (by decide) rfl (fun ls hl => ?_)
        refine lv_goto (tgt := 2) hx hb dX3_liesIn_41 (by decide) ?_
        exact ih (x2 + 1) σ1 _ _ _ hC (lv_sub hl [1, 2, 0] rfl) hw hk44
      · replace hw := hw.2 hc
        refine lv_aload_n hx hb dX3_liesIn_21 rfl (lv_at hl 1 rfl) ?_
        refine lv_aload_n hx hb dX3_liesIn_22 rfl (lv_at hl 0 rfl) ?_
        refine ss_get (C := RX3) (T := TX3) (N := 4) (ci := 3) (v := .ref (L (s0 + 1))) F hC (s0) u_X3 h0.lt (ceC_sp (L := L) (cI := cI) (cS := cS) h0 _) rfl 1 (by decide) f_9 rfl dX3_liesIn_23 ?_
        refine lv_iload_n hx hb dX3_liesIn_26 rfl (lv_at hl 2 rfl) ?_
        refine lv_bipush (v := 6) hx hb dX3_liesIn_27 (by decide) ?_
        refine lv_imul hx hb dX3_liesIn_29 ?_
        refine ss_ki (ss_rV (C := RX3) (As := [.ref (L (s0 + 1)), .int (x2 * 6)]) (rest := []) F ((mX3_holds l D A L wr cI cZ cS σ1 s1 (s0 + 1) (x2 * 6) h1 h0.cells) _) gX3_liesIn_X3_holds rfl ⟨rfl, rfl⟩ ⟨rfl, dvX3_holds⟩ ⟨Nat.le_of_ble_eq_true rfl, Nat.le_of_ble_eq_true rfl⟩ (ss_preV F.2.2.2.2.1 F.2.2.2.2.2 hC (ss_rec (C := RX3) (T := TX3) (N := 4) (ci := 3) F.2.2.2.2.1 hC (s1) h1.lt (ceC_sp (L := L) (cI := cI) (cS := cS) h1 _) rfl) hw) rfl hl.1 rfl (Nat.le_of_ble_eq_true rfl) dX3_liesIn_30 ⟨Nat.zero_le _, Nat.zero_le _⟩) hC (fun r4 σ3 H locs hC hw => ?_)
        refine lv_if_ne (tgt := 38) hx hb dX3_liesIn_33 (by decide) (fun hc => ?_) (fun hc => ?_)
        · replace hw := hw.1 hc
          refine lv_iinc (v := x2 + 1) (lv' := [(2, .int (x2 + 1)), (0, .ref (L (s0))), (1, .ref (L (s1)))]) hx hb dX3_liesIn_38 hl (k := 2) rfl rfl (by decide) rfl (fun ls hl => ?_)
          refine lv_goto (tgt := 2) hx hb dX3_liesIn_41 (by decide) ?_
          exact ih (x2 + 1) σ3 _ _ _ hC (lv_sub hl [1, 2, 0] rfl) hw hk44
        · replace hw := hw.2 hc
          refine lv_iconst (v := 0) hx hb dX3_liesIn_36 (by decide) ?_
          exact ss_zret F hC rfl hw dX3_liesIn_37

set_option maxHeartbeats 4000000 in
set_option maxRecDepth 100000 in
theorem bX3_liesIn {s0 : Nat} {s1 : Nat} {post : Int32 → ss_S → Prop} (F : ss_F p R s m args meth c (ss_EC D A L wr cI cZ cS) cX3_liesIn 3 wsX3_liesIn RX3 (some .boolean) rmX3_liesIn) (h0 : isSp s0) (h1 : isSp s1) : ∀ (σ : ss_S) (H : Heap) (locs : List Loc) (ls : Array Slot), ss_C (ss_EC D A L wr cI cZ cS) σ s H locs → lv_has ls 3 [(0, .ref (L (s0))), (1, .ref (L (s1)))] → wX3_liesIn s0 s1 σ post → W p l e R s m args below meth c H locs 0 0 (MQ below (va_Qi post (ss_B (ss_EC D A L wr cI cZ cS)) A) args s 0 0 A) (F0 m 0 ls []) := by
  have hx := F.1.1
  have hb := F.1.2.1
  intro σ H locs ls hC hl hw
  unfold wX3_liesIn at hw
  refine lv_iconst (v := 0) hx hb dX3_liesIn_0 (by decide) ?_
  refine lv_istore_n (lv' := [(2, .int (0)), (0, .ref (L (s0))), (1, .ref (L (s1)))]) hx hb dX3_liesIn_1 rfl hl (by decide) rfl (fun ls hl => ?_)
  obtain ⟨n_, hw⟩ := hw
  refine tX3_liesIn_2 F h0 h1 _ n_ 0 σ _ _ _ hC (lv_sub hl [1, 2, 0] rfl) hw ?_
  · intro x2_5 σ_5 H locs ls hC hl hw
    refine lv_iconst (v := 1) hx hb dX3_liesIn_44 (by decide) ?_
    exact ss_zret F hC rfl hw dX3_liesIn_45

theorem mX3_liesIn (l : Launch) (D : va_G) (A : Nat → Prop) (L : Nat → Nat) (wr : va_W) (cI cZ cS : ClassId) (σ : ss_S) (s0 : Nat) (s1 : Nat) (h0 : isSp s0) (h1 : isSp s1) : ss_MI l yX3_liesIn wsX3_liesIn rmX3_liesIn (ss_EC D A L wr cI cZ cS) [.ref (L (s0)), .ref (L (s1))] σ (fun post => wX3_liesIn s0 s1 σ post) :=
  ss_MI.of (cc := cX3_liesIn) (nL := 3) (ret := (some .boolean)) (own := RX3) (by decide) rfl rfl (Nat.le_of_ble_eq_true rfl) (fun post p e R s m below meth c H locs ls F hC hl hw => bX3_liesIn F h0 h1 σ H locs ls hC hl hw)

set_option maxHeartbeats 4000000 in
set_option maxRecDepth 100000 in
theorem bX3_sameAs {s0 : Nat} {s1 : Nat} {post : Int32 → ss_S → Prop} (F : ss_F p R s m args meth c (ss_EC D A L wr cI cZ cS) cX3_sameAs 2 wsX3_sameAs RX3 (some .boolean) rmX3_sameAs) (h0 : isSp s0) (h1 : isSp s1) : ∀ (σ : ss_S) (H : Heap) (locs : List Loc) (ls : Array Slot), ss_C (ss_EC D A L wr cI cZ cS) σ s H locs → lv_has ls 2 [(0, .ref (L (s0))), (1, .ref (L (s1)))] → wX3_sameAs s0 s1 σ post → W p l e R s m args below meth c H locs 0 0 (MQ below (va_Qi post (ss_B (ss_EC D A L wr cI cZ cS)) A) args s 0 0 A) (F0 m 0 ls []) := by
  have hx := F.1.1
  have hb := F.1.2.1
  have u_X3 : ∀ w ∈ u_ws RX3 TX3 4, w ∈ wsX3_sameAs := by decide +kernel
  have f_22 : (Cond.fieldLink RX3 22 "SmallSpaces$Space" "pivots" "I").before args s = true := F.1.2.2.2.2 _ (by decide +kernel)
  intro σ H locs ls hC hl hw
  unfold wX3_sameAs at hw
  refine lv_aload_n hx hb dX3_sameAs_0 rfl (lv_at hl 0 rfl) ?_
  refine ss_get (C := RX3) (T := TX3) (N := 4) (ci := 3) (v := .int (σ s0 3)) F hC (s0) u_X3 h0.lt (ceC_sp (L := L) (cI := cI) (cS := cS) h0 _) rfl 3 (by decide) f_22 rfl dX3_sameAs_1 ?_
  refine lv_aload_n hx hb dX3_sameAs_4 rfl (lv_at hl 1 rfl) ?_
  refine ss_get (C := RX3) (T := TX3) (N := 4) (ci := 3) (v := .int (σ s1 3)) F hC (s1) u_X3 h1.lt (ceC_sp (L := L) (cI := cI) (cS := cS) h1 _) rfl 3 (by decide) f_22 rfl dX3_sameAs_5 ?_
  refine lv_icmp_ne (tgt := 23) hx hb dX3_sameAs_8 (by decide) (fun hc => ?_) (fun hc => ?_)
  · replace hw := hw.1 hc
    refine lv_iconst (v := 0) hx hb dX3_sameAs_23 (by decide) ?_
    exact ss_zret F hC rfl hw dX3_sameAs_24
  · replace hw := hw.2 hc
    refine lv_aload_n hx hb dX3_sameAs_11 rfl (lv_at hl 0 rfl) ?_
    refine lv_aload_n hx hb dX3_sameAs_12 rfl (lv_at hl 1 rfl) ?_
    refine ss_ki (ss_rV (C := RX3) (As := [.ref (L (s1))]) (rest := []) F ((mX3_liesIn l D A L wr cI cZ cS σ s0 s1 h0 h1) _) gX3_sameAs_X3_liesIn rfl ⟨rfl, rfl⟩ ⟨rfl, dvX3_liesIn⟩ ⟨Nat.le_of_ble_eq_true rfl, Nat.le_of_ble_eq_true rfl⟩ (ss_preV F.2.2.2.2.1 F.2.2.2.2.2 hC (ss_rec (C := RX3) (T := TX3) (N := 4) (ci := 3) F.2.2.2.2.1 hC (s0) h0.lt (ceC_sp (L := L) (cI := cI) (cS := cS) h0 _) rfl) hw) rfl hl.1 rfl (Nat.le_of_ble_eq_true rfl) dX3_sameAs_13 ⟨Nat.zero_le _, Nat.zero_le _⟩) hC (fun r2 σ1 H locs hC hw => ?_)
    refine lv_if_eq (tgt := 23) hx hb dX3_sameAs_16 (by decide) (fun hc => ?_) (fun hc => ?_)
    · replace hw := hw.1 hc
      refine lv_iconst (v := 0) hx hb dX3_sameAs_23 (by decide) ?_
      exact ss_zret F hC rfl hw dX3_sameAs_24
    · replace hw := hw.2 hc
      refine lv_iconst (v := 1) hx hb dX3_sameAs_19 (by decide) ?_
      refine lv_goto (tgt := 24) hx hb dX3_sameAs_20 (by decide) ?_
      exact ss_zret F hC rfl hw dX3_sameAs_24

theorem mX3_sameAs (l : Launch) (D : va_G) (A : Nat → Prop) (L : Nat → Nat) (wr : va_W) (cI cZ cS : ClassId) (σ : ss_S) (s0 : Nat) (s1 : Nat) (h0 : isSp s0) (h1 : isSp s1) : ss_MI l yX3_sameAs wsX3_sameAs rmX3_sameAs (ss_EC D A L wr cI cZ cS) [.ref (L (s0)), .ref (L (s1))] σ (fun post => wX3_sameAs s0 s1 σ post) :=
  ss_MI.of (cc := cX3_sameAs) (nL := 2) (ret := (some .boolean)) (own := RX3) (by decide) rfl rfl (Nat.le_of_ble_eq_true rfl) (fun post p e R s m below meth c H locs ls F hC hl hw => bX3_sameAs F h0 h1 σ H locs ls hC hl hw)

set_option maxHeartbeats 4000000 in
set_option maxRecDepth 100000 in
theorem tX3_becomeDual_42 {s0 : Nat} {s1 : Nat} {x2 : Int32} {post : ss_S → Prop} (F : ss_F p R s m args meth c (ss_EC D A L wr cI cZ cS) cX3_becomeDual 4 wsX3_becomeDual RX3 none rmX3_becomeDual) (h0 : isSp s0) (h1 : isSp s1) (k94 : Int32 → ss_S → Prop) : ∀ (n : Nat) (x3 : Int32) (σ : ss_S) (H : Heap) (locs : List Loc) (ls : Array Slot), ss_C (ss_EC D A L wr cI cZ cS) σ s H locs → lv_has ls 4 [(0, .ref (L (s0))), (1, .ref (L (s1))), (2, .int (x2)), (3, .int (x3))] → lX3_becomeDual_42 s0 s1 x2 post k94 n x3 σ →
    (∀ (x3 : Int32) (σ : ss_S) (H : Heap) (locs : List Loc) (ls : Array Slot), ss_C (ss_EC D A L wr cI cZ cS) σ s H locs → lv_has ls 4 [(0, .ref (L (s0))), (1, .ref (L (s1))), (2, .int (x2))] → k94 x3 σ → W p l e R s m args below meth c H locs 0 0 (MQ below (va_Qv post (ss_B (ss_EC D A L wr cI cZ cS)) A) args s 0 0 A) (F0 m 94 ls [])) →
    W p l e R s m args below meth c H locs 0 0 (MQ below (va_Qv post (ss_B (ss_EC D A L wr cI cZ cS)) A) args s 0 0 A) (F0 m 42 ls []) := by
  have hx := F.1.1
  have hb := F.1.2.1
  have u_X3 : ∀ w ∈ u_ws RX3 TX3 4, w ∈ wsX3_becomeDual := by decide +kernel
  have f_15 : (Cond.fieldLink RX3 15 "SmallSpaces$Space" "fresh" "[I").before args s = true := F.1.2.2.2.2 _ (by decide +kernel)
  have f_18 : (Cond.fieldLink RX3 18 "SmallSpaces$Space" "frame" "LSmallSpaces$Frame;").before args s = true := F.1.2.2.2.2 _ (by decide +kernel)
  have u_X0 : ∀ w ∈ u_ws RX0 TX0 3, w ∈ wsX3_becomeDual := by decide +kernel
  have f_9 : (Cond.fieldLink RX3 9 "SmallSpaces$Space" "cells" "[I").before args s = true := F.1.2.2.2.2 _ (by decide +kernel)
  intro n
  induction n with
  | zero => intro x3 σ H locs ls hC hl hw; exact hw.elim
  | succ n ih =>
    intro x3 σ H locs ls hC hl hw hk94
    refine lv_iload_n hx hb dX3_becomeDual_42 rfl (lv_at hl 3 rfl) ?_
    refine lv_iload_n hx hb dX3_becomeDual_43 rfl (lv_at hl 2 rfl) ?_
    refine lv_icmp_ge (tgt := 94) hx hb dX3_becomeDual_44 (by decide) (fun hc => ?_) (fun hc => ?_)
    · replace hw := hw.1 hc
      exact hk94 x3 σ _ _ _ hC (lv_sub hl [0, 1, 2] rfl) hw
    · replace hw := hw.2 hc
      refine lv_aload_n hx hb dX3_becomeDual_47 rfl (lv_at hl 1 rfl) ?_
      refine lv_iload_n hx hb dX3_becomeDual_48 rfl (lv_at hl 3 rfl) ?_
      refine ss_ki (ss_rV (C := RX3) (As := [.int (x3)]) (rest := []) F ((mX3_isPivot l D A L wr cI cZ cS σ s1 x3 h1) _) gX3_becomeDual_X3_isPivot rfl ⟨rfl, rfl⟩ ⟨rfl, dvX3_isPivot⟩ ⟨Nat.le_of_ble_eq_true rfl, Nat.le_of_ble_eq_true rfl⟩ (ss_preV F.2.2.2.2.1 F.2.2.2.2.2 hC (ss_rec (C := RX3) (T := TX3) (N := 4) (ci := 3) F.2.2.2.2.1 hC (s1) h1.lt (ceC_sp (L := L) (cI := cI) (cS := cS) h1 _) rfl) hw) rfl hl.1 rfl (Nat.le_of_ble_eq_true rfl) dX3_becomeDual_49 ⟨Nat.zero_le _, Nat.zero_le _⟩) hC (fun r6 σ5 H locs hC hw => ?_)
      refine lv_if_eq (tgt := 88) hx hb dX3_becomeDual_52 (by decide) (fun hc => ?_) (fun hc => ?_)
      · replace hw := hw.1 hc
        refine lv_iinc (v := x3 + 1) (lv' := [(3, .int (x3 + 1)), (0, .ref (L (s0))), (1, .ref (L (s1))), (2, .int (x2))]) hx hb dX3_becomeDual_88 hl (k := 3) rfl rfl (by decide) rfl (fun ls hl => ?_)
        refine lv_goto (tgt := 42) hx hb dX3_becomeDual_91 (by decide) ?_
        exact ih (x3 + 1) σ5 _ _ _ hC (lv_sub hl [1, 2, 3, 0] rfl) hw hk94
      · replace hw := hw.2 hc
        refine lv_aload_n hx hb dX3_becomeDual_55 rfl (lv_at hl 0 rfl) ?_
        refine ss_get (C := RX3) (T := TX3) (N := 4) (ci := 3) (v := .ref (L (s0 + 2))) F hC (s0) u_X3 h0.lt (ceC_sp (L := L) (cI := cI) (cS := cS) h0 _) rfl 2 (by decide) f_15 rfl dX3_becomeDual_56 ?_
        refine lv_iload_n hx hb dX3_becomeDual_59 rfl (lv_at hl 3 rfl) ?_
        refine lv_aload_n hx hb dX3_becomeDual_60 rfl (lv_at hl 0 rfl) ?_
        refine ss_get (C := RX3) (T := TX3) (N := 4) (ci := 3) (v := .ref (L (1))) F hC (s0) u_X3 h0.lt (ceC_sp (L := L) (cI := cI) (cS := cS) h0 _) rfl 0 (by decide) f_18 rfl dX3_becomeDual_61 ?_
        refine ss_getN (C := RX0) (T := TX0) (N := 3) (ci := 0) (host := RX4) (v := .int (σ5 1 0)) F hC (1) u_X0 (Nat.le_of_ble_eq_true rfl) rfl rfl 0 (by decide) (by decide +kernel) rfl dX3_becomeDual_64 ?_
        refine lv_aload_n hx hb dX3_becomeDual_67 rfl (lv_at hl 1 rfl) ?_
        refine ss_get (C := RX3) (T := TX3) (N := 4) (ci := 3) (v := .ref (L (s1 + 1))) F hC (s1) u_X3 h1.lt (ceC_sp (L := L) (cI := cI) (cS := cS) h1 _) rfl 1 (by decide) f_9 rfl dX3_becomeDual_68 ?_
        refine lv_iload_n hx hb dX3_becomeDual_71 rfl (lv_at hl 3 rfl) ?_
        refine lv_bipush (v := 6) hx hb dX3_becomeDual_72 (by decide) ?_
        refine lv_imul hx hb dX3_becomeDual_74 ?_
        refine lv_iload_n hx hb dX3_becomeDual_75 rfl (lv_at hl 2 rfl) ?_
        refine lv_iadd hx hb dX3_becomeDual_76 ?_
        refine ss_iald F hC (s1 + 1) 0 h1.cells.lt (ceC_ar (L := L) (cI := cI) (cS := cS) h1.cells) rfl hw.1 dX3_becomeDual_77 ?_
        replace hw := hw.2
        refine lv_isub hx hb dX3_becomeDual_78 ?_
        refine lv_aload_n hx hb dX3_becomeDual_79 rfl (lv_at hl 0 rfl) ?_
        refine ss_get (C := RX3) (T := TX3) (N := 4) (ci := 3) (v := .ref (L (1))) F hC (s0) u_X3 h0.lt (ceC_sp (L := L) (cI := cI) (cS := cS) h0 _) rfl 0 (by decide) f_18 rfl dX3_becomeDual_80 ?_
        refine ss_getN (C := RX0) (T := TX0) (N := 3) (ci := 0) (host := RX4) (v := .int (σ5 1 0)) F hC (1) u_X0 (Nat.le_of_ble_eq_true rfl) rfl rfl 0 (by decide) (by decide +kernel) rfl dX3_becomeDual_83 ?_
        refine lv_irem hx hb dX3_becomeDual_86 hw.1 ?_
        replace hw := hw.2
        refine ss_iast F hC (s0 + 2) 0 h0.fresh.lt (ceC_ar (L := L) (cI := cI) (cS := cS) h0.fresh) rfl hw.1 dX3_becomeDual_87 (fun H locs hC => ?_)
        replace hw := hw.2
        refine lv_iinc (v := x3 + 1) (lv' := [(3, .int (x3 + 1)), (0, .ref (L (s0))), (1, .ref (L (s1))), (2, .int (x2))]) hx hb dX3_becomeDual_88 hl (k := 3) rfl rfl (by decide) rfl (fun ls hl => ?_)
        refine lv_goto (tgt := 42) hx hb dX3_becomeDual_91 (by decide) ?_
        exact ih (x3 + 1) (u2 σ5 (s0 + 2) (Int32.toNatClampNeg x3) (((σ5 1 0) - (σ5 (s1 + 1) (Int32.toNatClampNeg ((x3 * 6) + x2)))) - ((σ5 1 0) - (σ5 (s1 + 1) (Int32.toNatClampNeg ((x3 * 6) + x2)))) / (σ5 1 0) * (σ5 1 0))) _ _ _ hC (lv_sub hl [1, 2, 3, 0] rfl) hw hk94

set_option maxHeartbeats 4000000 in
set_option maxRecDepth 100000 in
theorem tX3_becomeDual_6 {s0 : Nat} {s1 : Nat} {post : ss_S → Prop} (F : ss_F p R s m args meth c (ss_EC D A L wr cI cZ cS) cX3_becomeDual 4 wsX3_becomeDual RX3 none rmX3_becomeDual) (h0 : isSp s0) (h1 : isSp s1) (k104 : Int32 → ss_S → Prop) : ∀ (n : Nat) (x2 : Int32) (σ : ss_S) (H : Heap) (locs : List Loc) (ls : Array Slot), ss_C (ss_EC D A L wr cI cZ cS) σ s H locs → lv_has ls 4 [(0, .ref (L (s0))), (1, .ref (L (s1))), (2, .int (x2))] → lX3_becomeDual_6 s0 s1 post k104 n x2 σ →
    (∀ (x2 : Int32) (σ : ss_S) (H : Heap) (locs : List Loc) (ls : Array Slot), ss_C (ss_EC D A L wr cI cZ cS) σ s H locs → lv_has ls 4 [] → k104 x2 σ → W p l e R s m args below meth c H locs 0 0 (MQ below (va_Qv post (ss_B (ss_EC D A L wr cI cZ cS)) A) args s 0 0 A) (F0 m 104 ls [])) →
    W p l e R s m args below meth c H locs 0 0 (MQ below (va_Qv post (ss_B (ss_EC D A L wr cI cZ cS)) A) args s 0 0 A) (F0 m 6 ls []) := by
  have hx := F.1.1
  have hb := F.1.2.1
  have u_X3 : ∀ w ∈ u_ws RX3 TX3 4, w ∈ wsX3_becomeDual := by decide +kernel
  have f_18 : (Cond.fieldLink RX3 18 "SmallSpaces$Space" "frame" "LSmallSpaces$Frame;").before args s = true := F.1.2.2.2.2 _ (by decide +kernel)
  have u_X0 : ∀ w ∈ u_ws RX0 TX0 3, w ∈ wsX3_becomeDual := by decide +kernel
  have f_15 : (Cond.fieldLink RX3 15 "SmallSpaces$Space" "fresh" "[I").before args s = true := F.1.2.2.2.2 _ (by decide +kernel)
  intro n
  induction n with
  | zero => intro x2 σ H locs ls hC hl hw; exact hw.elim
  | succ n ih =>
    intro x2 σ H locs ls hC hl hw hk104
    refine lv_iload_n hx hb dX3_becomeDual_6 rfl (lv_at hl 2 rfl) ?_
    refine lv_aload_n hx hb dX3_becomeDual_7 rfl (lv_at hl 0 rfl) ?_
    refine ss_get (C := RX3) (T := TX3) (N := 4) (ci := 3) (v := .ref (L (1))) F hC (s0) u_X3 h0.lt (ceC_sp (L := L) (cI := cI) (cS := cS) h0 _) rfl 0 (by decide) f_18 rfl dX3_becomeDual_8 ?_
    refine ss_getN (C := RX0) (T := TX0) (N := 3) (ci := 0) (host := RX4) (v := .int (σ 1 1)) F hC (1) u_X0 (Nat.le_of_ble_eq_true rfl) rfl rfl 1 (by decide) (by decide +kernel) rfl dX3_becomeDual_11 ?_
    refine lv_icmp_ge (tgt := 104) hx hb dX3_becomeDual_14 (by decide) (fun hc => ?_) (fun hc => ?_)
    · replace hw := hw.1 hc
      exact hk104 x2 σ _ _ _ hC (lv_sub hl [] rfl) hw
    · replace hw := hw.2 hc
      refine lv_aload_n hx hb dX3_becomeDual_17 rfl (lv_at hl 1 rfl) ?_
      refine lv_iload_n hx hb dX3_becomeDual_18 rfl (lv_at hl 2 rfl) ?_
      refine ss_ki (ss_rV (C := RX3) (As := [.int (x2)]) (rest := []) F ((mX3_isPivot l D A L wr cI cZ cS σ s1 x2 h1) _) gX3_becomeDual_X3_isPivot rfl ⟨rfl, rfl⟩ ⟨rfl, dvX3_isPivot⟩ ⟨Nat.le_of_ble_eq_true rfl, Nat.le_of_ble_eq_true rfl⟩ (ss_preV F.2.2.2.2.1 F.2.2.2.2.2 hC (ss_rec (C := RX3) (T := TX3) (N := 4) (ci := 3) F.2.2.2.2.1 hC (s1) h1.lt (ceC_sp (L := L) (cI := cI) (cS := cS) h1 _) rfl) hw) rfl hl.1 rfl (Nat.le_of_ble_eq_true rfl) dX3_becomeDual_19 ⟨Nat.zero_le _, Nat.zero_le _⟩) hC (fun r3 σ2 H locs hC hw => ?_)
      refine lv_if_ne (tgt := 98) hx hb dX3_becomeDual_22 (by decide) (fun hc => ?_) (fun hc => ?_)
      · replace hw := hw.1 hc
        refine lv_iinc (v := x2 + 1) (lv' := [(2, .int (x2 + 1)), (0, .ref (L (s0))), (1, .ref (L (s1)))]) hx hb dX3_becomeDual_98 hl (k := 2) rfl rfl (by decide) rfl (fun ls hl => ?_)
        refine lv_goto (tgt := 6) hx hb dX3_becomeDual_101 (by decide) ?_
        exact ih (x2 + 1) σ2 _ _ _ hC (lv_sub hl [1, 2, 0] rfl) hw hk104
      · replace hw := hw.2 hc
        refine lv_aload_n hx hb dX3_becomeDual_25 rfl (lv_at hl 0 rfl) ?_
        refine ss_get (C := RX3) (T := TX3) (N := 4) (ci := 3) (v := .ref (L (s0 + 2))) F hC (s0) u_X3 h0.lt (ceC_sp (L := L) (cI := cI) (cS := cS) h0 _) rfl 2 (by decide) f_15 rfl dX3_becomeDual_26 ?_
        refine lv_iconst (v := 0) hx hb dX3_becomeDual_29 (by decide) ?_
        refine ss_kv (ss_rS (As := [.ref (L (s0 + 2)), .int (0)]) (rest := []) F ((mJ7_fill_53178 l D A L wr cI cZ cS σ2 (s0 + 2) 0 h0.fresh) _) gX3_becomeDual_J7_fill_53178 rfl ⟨rfl, rfl⟩ dvJ7_fill_53178 ⟨Nat.le_of_ble_eq_true rfl, Nat.le_of_ble_eq_true rfl⟩ (ss_preS F.2.2.2.2.1 F.2.2.2.2.2 hC hw) rfl hl.1 rfl (Nat.le_of_ble_eq_true rfl) dX3_becomeDual_30 ⟨Nat.zero_le _, Nat.zero_le _⟩) hC (fun σ4 H locs hC hw => ?_)
        refine lv_aload_n hx hb dX3_becomeDual_33 rfl (lv_at hl 0 rfl) ?_
        refine ss_get (C := RX3) (T := TX3) (N := 4) (ci := 3) (v := .ref (L (s0 + 2))) F hC (s0) u_X3 h0.lt (ceC_sp (L := L) (cI := cI) (cS := cS) h0 _) rfl 2 (by decide) f_15 rfl dX3_becomeDual_34 ?_
        refine lv_iload_n hx hb dX3_becomeDual_37 rfl (lv_at hl 2 rfl) ?_
        refine lv_iconst (v := 1) hx hb dX3_becomeDual_38 (by decide) ?_
        refine ss_iast F hC (s0 + 2) 0 h0.fresh.lt (ceC_ar (L := L) (cI := cI) (cS := cS) h0.fresh) rfl hw.1 dX3_becomeDual_39 (fun H locs hC => ?_)
        replace hw := hw.2
        refine lv_iconst (v := 0) hx hb dX3_becomeDual_40 (by decide) ?_
        refine lv_istore_n (lv' := [(3, .int (0)), (0, .ref (L (s0))), (1, .ref (L (s1))), (2, .int (x2))]) hx hb dX3_becomeDual_41 rfl hl (by decide) rfl (fun ls hl => ?_)
        obtain ⟨n_, hw⟩ := hw
        refine tX3_becomeDual_42 F h0 h1 _ n_ 0 (u2 σ4 (s0 + 2) (Int32.toNatClampNeg x2) 1) _ _ _ hC (lv_sub hl [1, 2, 3, 0] rfl) hw ?_
        · intro x3_7 σ_7 H locs ls hC hl hw
          refine lv_aload_n hx hb dX3_becomeDual_94 rfl (lv_at hl 0 rfl) ?_
          refine ss_kv (ss_rV (C := RX3) (As := []) (rest := []) F ((mX3_joinFresh l D A L wr cI cZ cS σ_7 s0 h0) _) gX3_becomeDual_X3_joinFresh rfl ⟨rfl, rfl⟩ ⟨rfl, dvX3_joinFresh⟩ ⟨Nat.le_of_ble_eq_true rfl, Nat.le_of_ble_eq_true rfl⟩ (ss_preV F.2.2.2.2.1 F.2.2.2.2.2 hC (ss_rec (C := RX3) (T := TX3) (N := 4) (ci := 3) F.2.2.2.2.1 hC (s0) h0.lt (ceC_sp (L := L) (cI := cI) (cS := cS) h0 _) rfl) hw) rfl hl.1 rfl (Nat.le_of_ble_eq_true rfl) dX3_becomeDual_95 ⟨Nat.zero_le _, Nat.zero_le _⟩) hC (fun σ8 H locs hC hw => ?_)
          refine lv_iinc (v := x2 + 1) (lv' := [(2, .int (x2 + 1)), (0, .ref (L (s0))), (1, .ref (L (s1)))]) hx hb dX3_becomeDual_98 hl (k := 2) rfl rfl (by decide) rfl (fun ls hl => ?_)
          refine lv_goto (tgt := 6) hx hb dX3_becomeDual_101 (by decide) ?_
          exact ih (x2 + 1) σ8 _ _ _ hC (lv_sub hl [1, 2, 0] rfl) hw hk104

set_option maxHeartbeats 4000000 in
set_option maxRecDepth 100000 in
theorem bX3_becomeDual {s0 : Nat} {s1 : Nat} {post : ss_S → Prop} (F : ss_F p R s m args meth c (ss_EC D A L wr cI cZ cS) cX3_becomeDual 4 wsX3_becomeDual RX3 none rmX3_becomeDual) (h0 : isSp s0) (h1 : isSp s1) : ∀ (σ : ss_S) (H : Heap) (locs : List Loc) (ls : Array Slot), ss_C (ss_EC D A L wr cI cZ cS) σ s H locs → lv_has ls 4 [(0, .ref (L (s0))), (1, .ref (L (s1)))] → wX3_becomeDual s0 s1 σ post → W p l e R s m args below meth c H locs 0 0 (MQ below (va_Qv post (ss_B (ss_EC D A L wr cI cZ cS)) A) args s 0 0 A) (F0 m 0 ls []) := by
  have hx := F.1.1
  have hb := F.1.2.1
  intro σ H locs ls hC hl hw
  unfold wX3_becomeDual at hw
  refine lv_aload_n hx hb dX3_becomeDual_0 rfl (lv_at hl 0 rfl) ?_
  refine ss_kv (ss_rV (C := RX3) (As := []) (rest := []) F ((mX3_becomeZero l D A L wr cI cZ cS σ s0 h0) _) gX3_becomeDual_X3_becomeZero rfl ⟨rfl, rfl⟩ ⟨rfl, dvX3_becomeZero⟩ ⟨Nat.le_of_ble_eq_true rfl, Nat.le_of_ble_eq_true rfl⟩ (ss_preV F.2.2.2.2.1 F.2.2.2.2.2 hC (ss_rec (C := RX3) (T := TX3) (N := 4) (ci := 3) F.2.2.2.2.1 hC (s0) h0.lt (ceC_sp (L := L) (cI := cI) (cS := cS) h0 _) rfl) hw) rfl hl.1 rfl (Nat.le_of_ble_eq_true rfl) dX3_becomeDual_1 ⟨Nat.zero_le _, Nat.zero_le _⟩) hC (fun σ1 H locs hC hw => ?_)
  refine lv_iconst (v := 0) hx hb dX3_becomeDual_4 (by decide) ?_
  refine lv_istore_n (lv' := [(2, .int (0)), (0, .ref (L (s0))), (1, .ref (L (s1)))]) hx hb dX3_becomeDual_5 rfl hl (by decide) rfl (fun ls hl => ?_)
  obtain ⟨n_, hw⟩ := hw
  refine tX3_becomeDual_6 F h0 h1 _ n_ 0 σ1 _ _ _ hC (lv_sub hl [1, 2, 0] rfl) hw ?_
  · intro x2_9 σ_9 H locs ls hC hl hw
    exact ss_vret F hC hw dX3_becomeDual_104

theorem mX3_becomeDual (l : Launch) (D : va_G) (A : Nat → Prop) (L : Nat → Nat) (wr : va_W) (cI cZ cS : ClassId) (σ : ss_S) (s0 : Nat) (s1 : Nat) (h0 : isSp s0) (h1 : isSp s1) : ss_MV l yX3_becomeDual wsX3_becomeDual rmX3_becomeDual (ss_EC D A L wr cI cZ cS) [.ref (L (s0)), .ref (L (s1))] σ (fun post => wX3_becomeDual s0 s1 σ post) :=
  ss_MV.of (cc := cX3_becomeDual) (nL := 4) (ret := none) (own := RX3) (by decide) rfl rfl (Nat.le_of_ble_eq_true rfl) (fun post p e R s m below meth c H locs ls F hC hl hw => bX3_becomeDual F h0 h1 σ H locs ls hC hl hw)

set_option maxHeartbeats 4000000 in
set_option maxRecDepth 100000 in
theorem tX3_freeCells_7 {s0 : Nat} {x1 : Int32} {post : Int32 → ss_S → Prop} (F : ss_F p R s m args meth c (ss_EC D A L wr cI cZ cS) cX3_freeCells 5 wsX3_freeCells RX3 (some .int) rmX3_freeCells) (h0 : isSp s0) (k45 : Int32 → Int32 → Int32 → ss_S → Prop) : ∀ (n : Nat) (x2 : Int32) (x3 : Int32) (x4 : Int32) (σ : ss_S) (H : Heap) (locs : List Loc) (ls : Array Slot), ss_C (ss_EC D A L wr cI cZ cS) σ s H locs → lv_has ls 5 [(0, .ref (L (s0))), (1, .int (x1)), (2, .int (x2)), (3, .int (x3)), (4, .int (x4))] → lX3_freeCells_7 s0 x1 post k45 n x2 x3 x4 σ →
    (∀ (x2 : Int32) (x3 : Int32) (x4 : Int32) (σ : ss_S) (H : Heap) (locs : List Loc) (ls : Array Slot), ss_C (ss_EC D A L wr cI cZ cS) σ s H locs → lv_has ls 5 [(2, .int (x2))] → k45 x2 x3 x4 σ → W p l e R s m args below meth c H locs 0 0 (MQ below (va_Qi post (ss_B (ss_EC D A L wr cI cZ cS)) A) args s 0 0 A) (F0 m 45 ls [])) →
    W p l e R s m args below meth c H locs 0 0 (MQ below (va_Qi post (ss_B (ss_EC D A L wr cI cZ cS)) A) args s 0 0 A) (F0 m 7 ls []) := by
  have hx := F.1.1
  have hb := F.1.2.1
  have u_X3 : ∀ w ∈ u_ws RX3 TX3 4, w ∈ wsX3_freeCells := by decide +kernel
  have f_18 : (Cond.fieldLink RX3 18 "SmallSpaces$Space" "frame" "LSmallSpaces$Frame;").before args s = true := F.1.2.2.2.2 _ (by decide +kernel)
  have u_X0 : ∀ w ∈ u_ws RX0 TX0 3, w ∈ wsX3_freeCells := by decide +kernel
  intro n
  induction n with
  | zero => intro x2 x3 x4 σ H locs ls hC hl hw; exact hw.elim
  | succ n ih =>
    intro x2 x3 x4 σ H locs ls hC hl hw hk45
    refine lv_iload hx hb dX3_freeCells_7 (lv_at hl 4 rfl) ?_
    refine lv_aload_n hx hb dX3_freeCells_9 rfl (lv_at hl 0 rfl) ?_
    refine ss_get (C := RX3) (T := TX3) (N := 4) (ci := 3) (v := .ref (L (1))) F hC (s0) u_X3 h0.lt (ceC_sp (L := L) (cI := cI) (cS := cS) h0 _) rfl 0 (by decide) f_18 rfl dX3_freeCells_10 ?_
    refine ss_getN (C := RX0) (T := TX0) (N := 3) (ci := 0) (host := RX4) (v := .int (σ 1 1)) F hC (1) u_X0 (Nat.le_of_ble_eq_true rfl) rfl rfl 1 (by decide) (by decide +kernel) rfl dX3_freeCells_13 ?_
    refine lv_icmp_ge (tgt := 45) hx hb dX3_freeCells_16 (by decide) (fun hc => ?_) (fun hc => ?_)
    · replace hw := hw.1 hc
      exact hk45 x2 x3 x4 σ _ _ _ hC (lv_sub hl [2] rfl) hw
    · replace hw := hw.2 hc
      refine lv_iload_n hx hb dX3_freeCells_19 rfl (lv_at hl 1 rfl) ?_
      refine lv_iload hx hb dX3_freeCells_20 (lv_at hl 4 rfl) ?_
      refine lv_ishr hx hb dX3_freeCells_22 ?_
      refine lv_iconst (v := 1) hx hb dX3_freeCells_23 (by decide) ?_
      refine lv_iand hx hb dX3_freeCells_24 ?_
      refine lv_iconst (v := 1) hx hb dX3_freeCells_25 (by decide) ?_
      refine lv_icmp_ne (tgt := 36) hx hb dX3_freeCells_26 (by decide) (fun hc => ?_) (fun hc => ?_)
      · replace hw := hw.1 hc
        refine lv_iinc (v := x3 + 1) (lv' := [(3, .int (x3 + 1)), (0, .ref (L (s0))), (1, .int (x1)), (2, .int (x2)), (4, .int (x4))]) hx hb dX3_freeCells_36 hl (k := 3) rfl rfl (by decide) rfl (fun ls hl => ?_)
        refine lv_iinc (v := x4 + 1) (lv' := [(4, .int (x4 + 1)), (3, .int (x3 + 1)), (0, .ref (L (s0))), (1, .int (x1)), (2, .int (x2))]) hx hb dX3_freeCells_39 hl (k := 4) rfl rfl (by decide) rfl (fun ls hl => ?_)
        refine lv_goto (tgt := 7) hx hb dX3_freeCells_42 (by decide) ?_
        exact ih x2 (x3 + 1) (x4 + 1) σ _ _ _ hC (lv_sub hl [2, 3, 4, 1, 0] rfl) hw hk45
      · replace hw := hw.2 hc
        refine lv_iload_n hx hb dX3_freeCells_29 rfl (lv_at hl 2 rfl) ?_
        refine lv_iload_n hx hb dX3_freeCells_30 rfl (lv_at hl 3 rfl) ?_
        refine lv_iadd hx hb dX3_freeCells_31 ?_
        refine lv_istore_n (lv' := [(2, .int (x2 + x3)), (0, .ref (L (s0))), (1, .int (x1)), (3, .int (x3)), (4, .int (x4))]) hx hb dX3_freeCells_32 rfl hl (by decide) rfl (fun ls hl => ?_)
        refine lv_goto (tgt := 39) hx hb dX3_freeCells_33 (by decide) ?_
        refine lv_iinc (v := x4 + 1) (lv' := [(4, .int (x4 + 1)), (2, .int (x2 + x3)), (0, .ref (L (s0))), (1, .int (x1)), (3, .int (x3))]) hx hb dX3_freeCells_39 hl (k := 4) rfl rfl (by decide) rfl (fun ls hl => ?_)
        refine lv_goto (tgt := 7) hx hb dX3_freeCells_42 (by decide) ?_
        exact ih (x2 + x3) x3 (x4 + 1) σ _ _ _ hC (lv_sub hl [2, 3, 1, 4, 0] rfl) hw hk45

set_option maxHeartbeats 4000000 in
set_option maxRecDepth 100000 in
theorem bX3_freeCells {s0 : Nat} {x1 : Int32} {post : Int32 → ss_S → Prop} (F : ss_F p R s m args meth c (ss_EC D A L wr cI cZ cS) cX3_freeCells 5 wsX3_freeCells RX3 (some .int) rmX3_freeCells) (h0 : isSp s0) : ∀ (σ : ss_S) (H : Heap) (locs : List Loc) (ls : Array Slot), ss_C (ss_EC D A L wr cI cZ cS) σ s H locs → lv_has ls 5 [(0, .ref (L (s0))), (1, .int (x1))] → wX3_freeCells s0 x1 σ post → W p l e R s m args below meth c H locs 0 0 (MQ below (va_Qi post (ss_B (ss_EC D A L wr cI cZ cS)) A) args s 0 0 A) (F0 m 0 ls []) := by
  have hx := F.1.1
  have hb := F.1.2.1
  intro σ H locs ls hC hl hw
  unfold wX3_freeCells at hw
  refine lv_iconst (v := 0) hx hb dX3_freeCells_0 (by decide) ?_
  refine lv_istore_n (lv' := [(2, .int (0)), (0, .ref (L (s0))), (1, .int (x1))]) hx hb dX3_freeCells_1 rfl hl (by decide) rfl (fun ls hl => ?_)
  refine lv_iconst (v := 0) hx hb dX3_freeCells_2 (by decide) ?_
  refine lv_istore_n (lv' := [(3, .int (0)), (2, .int (0)), (0, .ref (L (s0))), (1, .int (x1))]) hx hb dX3_freeCells_3 rfl hl (by decide) rfl (fun ls hl => ?_)
  refine lv_iconst (v := 0) hx hb dX3_freeCells_4 (by decide) ?_
  refine lv_istore (lv' := [(4, .int (0)), (3, .int (0)), (2, .int (0)), (0, .ref (L (s0))), (1, .int (x1))]) hx hb dX3_freeCells_5 hl (by decide) rfl (fun ls hl => ?_)
  obtain ⟨n_, hw⟩ := hw
  refine tX3_freeCells_7 F h0 _ n_ 0 0 0 σ _ _ _ hC (lv_sub hl [3, 4, 2, 1, 0] rfl) hw ?_
  · intro x2_1 x3_1 x4_1 σ_1 H locs ls hC hl hw
    refine lv_iload_n hx hb dX3_freeCells_45 rfl (lv_at hl 0 rfl) ?_
    exact ss_iret F hC hw dX3_freeCells_46

theorem mX3_freeCells (l : Launch) (D : va_G) (A : Nat → Prop) (L : Nat → Nat) (wr : va_W) (cI cZ cS : ClassId) (σ : ss_S) (s0 : Nat) (x1 : Int32) (h0 : isSp s0) : ss_MI l yX3_freeCells wsX3_freeCells rmX3_freeCells (ss_EC D A L wr cI cZ cS) [.ref (L (s0)), .int (x1)] σ (fun post => wX3_freeCells s0 x1 σ post) :=
  ss_MI.of (cc := cX3_freeCells) (nL := 5) (ret := (some .int)) (own := RX3) (by decide) rfl rfl (Nat.le_of_ble_eq_true rfl) (fun post p e R s m below meth c H locs ls F hC hl hw => bX3_freeCells F h0 σ H locs ls hC hl hw)

set_option maxHeartbeats 4000000 in
set_option maxRecDepth 100000 in
theorem tX3_cellsValue_27 {s0 : Nat} {x2 : Int32} {post : Int32 → ss_S → Prop} (F : ss_F p R s m args meth c (ss_EC D A L wr cI cZ cS) cX3_cellsValue 4 wsX3_cellsValue RX3 (some .int) rmX3_cellsValue) (h0 : isSp s0) (k74 : Int32 → Int32 → ss_S → Prop) : ∀ (n : Nat) (x1 : Int32) (x3 : Int32) (σ : ss_S) (H : Heap) (locs : List Loc) (ls : Array Slot), ss_C (ss_EC D A L wr cI cZ cS) σ s H locs → lv_has ls 4 [(0, .ref (L (s0))), (1, .int (x1)), (2, .int (x2)), (3, .int (x3))] → lX3_cellsValue_27 s0 x2 post k74 n x1 x3 σ →
    (∀ (x1 : Int32) (x3 : Int32) (σ : ss_S) (H : Heap) (locs : List Loc) (ls : Array Slot), ss_C (ss_EC D A L wr cI cZ cS) σ s H locs → lv_has ls 4 [(0, .ref (L (s0))), (1, .int (x1)), (2, .int (x2))] → k74 x1 x3 σ → W p l e R s m args below meth c H locs 0 0 (MQ below (va_Qi post (ss_B (ss_EC D A L wr cI cZ cS)) A) args s 0 0 A) (F0 m 74 ls [])) →
    W p l e R s m args below meth c H locs 0 0 (MQ below (va_Qi post (ss_B (ss_EC D A L wr cI cZ cS)) A) args s 0 0 A) (F0 m 27 ls []) := by
  have hx := F.1.1
  have hb := F.1.2.1
  have u_X3 : ∀ w ∈ u_ws RX3 TX3 4, w ∈ wsX3_cellsValue := by decide +kernel
  have f_18 : (Cond.fieldLink RX3 18 "SmallSpaces$Space" "frame" "LSmallSpaces$Frame;").before args s = true := F.1.2.2.2.2 _ (by decide +kernel)
  have u_X0 : ∀ w ∈ u_ws RX0 TX0 3, w ∈ wsX3_cellsValue := by decide +kernel
  have f_9 : (Cond.fieldLink RX3 9 "SmallSpaces$Space" "cells" "[I").before args s = true := F.1.2.2.2.2 _ (by decide +kernel)
  intro n
  induction n with
  | zero => intro x1 x3 σ H locs ls hC hl hw; exact hw.elim
  | succ n ih =>
    intro x1 x3 σ H locs ls hC hl hw hk74
    refine lv_iload_n hx hb dX3_cellsValue_27 rfl (lv_at hl 3 rfl) ?_
    refine lv_aload_n hx hb dX3_cellsValue_28 rfl (lv_at hl 0 rfl) ?_
    refine ss_get (C := RX3) (T := TX3) (N := 4) (ci := 3) (v := .ref (L (1))) F hC (s0) u_X3 h0.lt (ceC_sp (L := L) (cI := cI) (cS := cS) h0 _) rfl 0 (by decide) f_18 rfl dX3_cellsValue_29 ?_
    refine ss_getN (C := RX0) (T := TX0) (N := 3) (ci := 0) (host := RX4) (v := .int (σ 1 1)) F hC (1) u_X0 (Nat.le_of_ble_eq_true rfl) rfl rfl 1 (by decide) (by decide +kernel) rfl dX3_cellsValue_32 ?_
    refine lv_icmp_ge (tgt := 74) hx hb dX3_cellsValue_35 (by decide) (fun hc => ?_) (fun hc => ?_)
    · replace hw := hw.1 hc
      exact hk74 x1 x3 σ _ _ _ hC (lv_sub hl [0, 1, 2] rfl) hw
    · replace hw := hw.2 hc
      refine lv_aload_n hx hb dX3_cellsValue_38 rfl (lv_at hl 0 rfl) ?_
      refine lv_iload_n hx hb dX3_cellsValue_39 rfl (lv_at hl 3 rfl) ?_
      refine ss_ki (ss_rV (C := RX3) (As := [.int (x3)]) (rest := []) F ((mX3_isPivot l D A L wr cI cZ cS σ s0 x3 h0) _) gX3_cellsValue_X3_isPivot rfl ⟨rfl, rfl⟩ ⟨rfl, dvX3_isPivot⟩ ⟨Nat.le_of_ble_eq_true rfl, Nat.le_of_ble_eq_true rfl⟩ (ss_preV F.2.2.2.2.1 F.2.2.2.2.2 hC (ss_rec (C := RX3) (T := TX3) (N := 4) (ci := 3) F.2.2.2.2.1 hC (s0) h0.lt (ceC_sp (L := L) (cI := cI) (cS := cS) h0 _) rfl) hw) rfl hl.1 rfl (Nat.le_of_ble_eq_true rfl) dX3_cellsValue_40 ⟨Nat.zero_le _, Nat.zero_le _⟩) hC (fun r4 σ3 H locs hC hw => ?_)
      refine lv_if_ne (tgt := 68) hx hb dX3_cellsValue_43 (by decide) (fun hc => ?_) (fun hc => ?_)
      · replace hw := hw.1 hc
        refine lv_iinc (v := x3 + 1) (lv' := [(3, .int (x3 + 1)), (0, .ref (L (s0))), (1, .int (x1)), (2, .int (x2))]) hx hb dX3_cellsValue_68 hl (k := 3) rfl rfl (by decide) rfl (fun ls hl => ?_)
        refine lv_goto (tgt := 27) hx hb dX3_cellsValue_71 (by decide) ?_
        exact ih x1 (x3 + 1) σ3 _ _ _ hC (lv_sub hl [1, 2, 3, 0] rfl) hw hk74
      · replace hw := hw.2 hc
        refine lv_iload_n hx hb dX3_cellsValue_46 rfl (lv_at hl 1 rfl) ?_
        refine lv_aload_n hx hb dX3_cellsValue_47 rfl (lv_at hl 0 rfl) ?_
        refine ss_get (C := RX3) (T := TX3) (N := 4) (ci := 3) (v := .ref (L (1))) F hC (s0) u_X3 h0.lt (ceC_sp (L := L) (cI := cI) (cS := cS) h0 _) rfl 0 (by decide) f_18 rfl dX3_cellsValue_48 ?_
        refine ss_getN (C := RX0) (T := TX0) (N := 3) (ci := 0) (host := RX4) (v := .int (σ3 1 0)) F hC (1) u_X0 (Nat.le_of_ble_eq_true rfl) rfl rfl 0 (by decide) (by decide +kernel) rfl dX3_cellsValue_51 ?_
        refine lv_imul hx hb dX3_cellsValue_54 ?_
        refine lv_aload_n hx hb dX3_cellsValue_55 rfl (lv_at hl 0 rfl) ?_
        refine ss_get (C := RX3) (T := TX3) (N := 4) (ci := 3) (v := .ref (L (s0 + 1))) F hC (s0) u_X3 h0.lt (ceC_sp (L := L) (cI := cI) (cS := cS) h0 _) rfl 1 (by decide) f_9 rfl dX3_cellsValue_56 ?_
        refine lv_iload_n hx hb dX3_cellsValue_59 rfl (lv_at hl 2 rfl) ?_
        refine lv_bipush (v := 6) hx hb dX3_cellsValue_60 (by decide) ?_
        refine lv_imul hx hb dX3_cellsValue_62 ?_
        refine lv_iload_n hx hb dX3_cellsValue_63 rfl (lv_at hl 3 rfl) ?_
        refine lv_iadd hx hb dX3_cellsValue_64 ?_
        refine ss_iald F hC (s0 + 1) 0 h0.cells.lt (ceC_ar (L := L) (cI := cI) (cS := cS) h0.cells) rfl hw.1 dX3_cellsValue_65 ?_
        replace hw := hw.2
        refine lv_iadd hx hb dX3_cellsValue_66 ?_
        refine lv_istore_n (lv' := [(1, .int ((x1 * (σ3 1 0)) + (σ3 (s0 + 1) (Int32.toNatClampNeg ((x2 * 6) + x3))))), (0, .ref (L (s0))), (2, .int (x2)), (3, .int (x3))]) hx hb dX3_cellsValue_67 rfl hl (by decide) rfl (fun ls hl => ?_)
        refine lv_iinc (v := x3 + 1) (lv' := [(3, .int (x3 + 1)), (1, .int ((x1 * (σ3 1 0)) + (σ3 (s0 + 1) (Int32.toNatClampNeg ((x2 * 6) + x3))))), (0, .ref (L (s0))), (2, .int (x2))]) hx hb dX3_cellsValue_68 hl (k := 3) rfl rfl (by decide) rfl (fun ls hl => ?_)
        refine lv_goto (tgt := 27) hx hb dX3_cellsValue_71 (by decide) ?_
        exact ih ((x1 * (σ3 1 0)) + (σ3 (s0 + 1) (Int32.toNatClampNeg ((x2 * 6) + x3)))) (x3 + 1) σ3 _ _ _ hC (lv_sub hl [2, 1, 3, 0] rfl) hw hk74

set_option maxHeartbeats 4000000 in
set_option maxRecDepth 100000 in
theorem tX3_cellsValue_4 {s0 : Nat} {post : Int32 → ss_S → Prop} (F : ss_F p R s m args meth c (ss_EC D A L wr cI cZ cS) cX3_cellsValue 4 wsX3_cellsValue RX3 (some .int) rmX3_cellsValue) (h0 : isSp s0) (k80 : Int32 → Int32 → ss_S → Prop) : ∀ (n : Nat) (x1 : Int32) (x2 : Int32) (σ : ss_S) (H : Heap) (locs : List Loc) (ls : Array Slot), ss_C (ss_EC D A L wr cI cZ cS) σ s H locs → lv_has ls 4 [(0, .ref (L (s0))), (1, .int (x1)), (2, .int (x2))] → lX3_cellsValue_4 s0 post k80 n x1 x2 σ →
    (∀ (x1 : Int32) (x2 : Int32) (σ : ss_S) (H : Heap) (locs : List Loc) (ls : Array Slot), ss_C (ss_EC D A L wr cI cZ cS) σ s H locs → lv_has ls 4 [(1, .int (x1))] → k80 x1 x2 σ → W p l e R s m args below meth c H locs 0 0 (MQ below (va_Qi post (ss_B (ss_EC D A L wr cI cZ cS)) A) args s 0 0 A) (F0 m 80 ls [])) →
    W p l e R s m args below meth c H locs 0 0 (MQ below (va_Qi post (ss_B (ss_EC D A L wr cI cZ cS)) A) args s 0 0 A) (F0 m 4 ls []) := by
  have hx := F.1.1
  have hb := F.1.2.1
  have u_X3 : ∀ w ∈ u_ws RX3 TX3 4, w ∈ wsX3_cellsValue := by decide +kernel
  have f_18 : (Cond.fieldLink RX3 18 "SmallSpaces$Space" "frame" "LSmallSpaces$Frame;").before args s = true := F.1.2.2.2.2 _ (by decide +kernel)
  have u_X0 : ∀ w ∈ u_ws RX0 TX0 3, w ∈ wsX3_cellsValue := by decide +kernel
  intro n
  induction n with
  | zero => intro x1 x2 σ H locs ls hC hl hw; exact hw.elim
  | succ n ih =>
    intro x1 x2 σ H locs ls hC hl hw hk80
    refine lv_iload_n hx hb dX3_cellsValue_4 rfl (lv_at hl 2 rfl) ?_
    refine lv_aload_n hx hb dX3_cellsValue_5 rfl (lv_at hl 0 rfl) ?_
    refine ss_get (C := RX3) (T := TX3) (N := 4) (ci := 3) (v := .ref (L (1))) F hC (s0) u_X3 h0.lt (ceC_sp (L := L) (cI := cI) (cS := cS) h0 _) rfl 0 (by decide) f_18 rfl dX3_cellsValue_6 ?_
    refine ss_getN (C := RX0) (T := TX0) (N := 3) (ci := 0) (host := RX4) (v := .int (σ 1 1)) F hC (1) u_X0 (Nat.le_of_ble_eq_true rfl) rfl rfl 1 (by decide) (by decide +kernel) rfl dX3_cellsValue_9 ?_
    refine lv_icmp_ge (tgt := 80) hx hb dX3_cellsValue_12 (by decide) (fun hc => ?_) (fun hc => ?_)
    · replace hw := hw.1 hc
      exact hk80 x1 x2 σ _ _ _ hC (lv_sub hl [1] rfl) hw
    · replace hw := hw.2 hc
      refine lv_aload_n hx hb dX3_cellsValue_15 rfl (lv_at hl 0 rfl) ?_
      refine lv_iload_n hx hb dX3_cellsValue_16 rfl (lv_at hl 2 rfl) ?_
      refine ss_ki (ss_rV (C := RX3) (As := [.int (x2)]) (rest := []) F ((mX3_isPivot l D A L wr cI cZ cS σ s0 x2 h0) _) gX3_cellsValue_X3_isPivot rfl ⟨rfl, rfl⟩ ⟨rfl, dvX3_isPivot⟩ ⟨Nat.le_of_ble_eq_true rfl, Nat.le_of_ble_eq_true rfl⟩ (ss_preV F.2.2.2.2.1 F.2.2.2.2.2 hC (ss_rec (C := RX3) (T := TX3) (N := 4) (ci := 3) F.2.2.2.2.1 hC (s0) h0.lt (ceC_sp (L := L) (cI := cI) (cS := cS) h0 _) rfl) hw) rfl hl.1 rfl (Nat.le_of_ble_eq_true rfl) dX3_cellsValue_17 ⟨Nat.zero_le _, Nat.zero_le _⟩) hC (fun r2 σ1 H locs hC hw => ?_)
      refine lv_if_eq (tgt := 74) hx hb dX3_cellsValue_20 (by decide) (fun hc => ?_) (fun hc => ?_)
      · replace hw := hw.1 hc
        refine lv_iinc (v := x2 + 1) (lv' := [(2, .int (x2 + 1)), (0, .ref (L (s0))), (1, .int (x1))]) hx hb dX3_cellsValue_74 hl (k := 2) rfl rfl (by decide) rfl (fun ls hl => ?_)
        refine lv_goto (tgt := 4) hx hb dX3_cellsValue_77 (by decide) ?_
        exact ih x1 (x2 + 1) σ1 _ _ _ hC (lv_sub hl [1, 2, 0] rfl) hw hk80
      · replace hw := hw.2 hc
        refine lv_iload_n hx hb dX3_cellsValue_23 rfl (lv_at hl 2 rfl) ?_
        refine lv_iconst (v := 1) hx hb dX3_cellsValue_24 (by decide) ?_
        refine lv_iadd hx hb dX3_cellsValue_25 ?_
        refine lv_istore_n (lv' := [(3, .int (x2 + 1)), (0, .ref (L (s0))), (1, .int (x1)), (2, .int (x2))]) hx hb dX3_cellsValue_26 rfl hl (by decide) rfl (fun ls hl => ?_)
        obtain ⟨n_, hw⟩ := hw
        refine tX3_cellsValue_27 F h0 _ n_ x1 (x2 + 1) σ1 _ _ _ hC (lv_sub hl [1, 2, 3, 0] rfl) hw ?_
        · intro x1_5 x3_5 σ_5 H locs ls hC hl hw
          refine lv_iinc (v := x2 + 1) (lv' := [(2, .int (x2 + 1)), (0, .ref (L (s0))), (1, .int (x1_5))]) hx hb dX3_cellsValue_74 hl (k := 2) rfl rfl (by decide) rfl (fun ls hl => ?_)
          refine lv_goto (tgt := 4) hx hb dX3_cellsValue_77 (by decide) ?_
          exact ih x1_5 (x2 + 1) σ_5 _ _ _ hC (lv_sub hl [1, 2, 0] rfl) hw hk80

set_option maxHeartbeats 4000000 in
set_option maxRecDepth 100000 in
theorem bX3_cellsValue {s0 : Nat} {post : Int32 → ss_S → Prop} (F : ss_F p R s m args meth c (ss_EC D A L wr cI cZ cS) cX3_cellsValue 4 wsX3_cellsValue RX3 (some .int) rmX3_cellsValue) (h0 : isSp s0) : ∀ (σ : ss_S) (H : Heap) (locs : List Loc) (ls : Array Slot), ss_C (ss_EC D A L wr cI cZ cS) σ s H locs → lv_has ls 4 [(0, .ref (L (s0)))] → wX3_cellsValue s0 σ post → W p l e R s m args below meth c H locs 0 0 (MQ below (va_Qi post (ss_B (ss_EC D A L wr cI cZ cS)) A) args s 0 0 A) (F0 m 0 ls []) := by
  have hx := F.1.1
  have hb := F.1.2.1
  intro σ H locs ls hC hl hw
  unfold wX3_cellsValue at hw
  refine lv_iconst (v := 0) hx hb dX3_cellsValue_0 (by decide) ?_
  refine lv_istore_n (lv' := [(1, .int (0)), (0, .ref (L (s0)))]) hx hb dX3_cellsValue_1 rfl hl (by decide) rfl (fun ls hl => ?_)
  refine lv_iconst (v := 0) hx hb dX3_cellsValue_2 (by decide) ?_
  refine lv_istore_n (lv' := [(2, .int (0)), (1, .int (0)), (0, .ref (L (s0)))]) hx hb dX3_cellsValue_3 rfl hl (by decide) rfl (fun ls hl => ?_)
  obtain ⟨n_, hw⟩ := hw
  refine tX3_cellsValue_4 F h0 _ n_ 0 0 σ _ _ _ hC (lv_sub hl [2, 1, 0] rfl) hw ?_
  · intro x1_6 x2_6 σ_6 H locs ls hC hl hw
    refine lv_iload_n hx hb dX3_cellsValue_80 rfl (lv_at hl 0 rfl) ?_
    exact ss_iret F hC hw dX3_cellsValue_81

theorem mX3_cellsValue (l : Launch) (D : va_G) (A : Nat → Prop) (L : Nat → Nat) (wr : va_W) (cI cZ cS : ClassId) (σ : ss_S) (s0 : Nat) (h0 : isSp s0) : ss_MI l yX3_cellsValue wsX3_cellsValue rmX3_cellsValue (ss_EC D A L wr cI cZ cS) [.ref (L (s0))] σ (fun post => wX3_cellsValue s0 σ post) :=
  ss_MI.of (cc := cX3_cellsValue) (nL := 4) (ret := (some .int)) (own := RX3) (by decide) rfl rfl (Nat.le_of_ble_eq_true rfl) (fun post p e R s m below meth c H locs ls F hC hl hw => bX3_cellsValue F h0 σ H locs ls hC hl hw)

set_option maxHeartbeats 4000000 in
set_option maxRecDepth 100000 in
theorem tX3_ordinal_19 {s0 : Nat} {x1 : Int32} {post : Int32 → ss_S → Prop} (F : ss_F p R s m args meth c (ss_EC D A L wr cI cZ cS) cX3_ordinal 4 wsX3_ordinal RX3 (some .int) rmX3_ordinal) (h0 : isSp s0) (k56 : Int32 → Int32 → ss_S → Prop) : ∀ (n : Nat) (x2 : Int32) (x3 : Int32) (σ : ss_S) (H : Heap) (locs : List Loc) (ls : Array Slot), ss_C (ss_EC D A L wr cI cZ cS) σ s H locs → lv_has ls 4 [(0, .ref (L (s0))), (1, .int (x1)), (2, .int (x2)), (3, .int (x3))] → lX3_ordinal_19 s0 x1 post k56 n x2 x3 σ →
    (∀ (x2 : Int32) (x3 : Int32) (σ : ss_S) (H : Heap) (locs : List Loc) (ls : Array Slot), ss_C (ss_EC D A L wr cI cZ cS) σ s H locs → lv_has ls 4 [(0, .ref (L (s0))), (2, .int (x2))] → k56 x2 x3 σ → W p l e R s m args below meth c H locs 0 0 (MQ below (va_Qi post (ss_B (ss_EC D A L wr cI cZ cS)) A) args s 0 0 A) (F0 m 56 ls [])) →
    W p l e R s m args below meth c H locs 0 0 (MQ below (va_Qi post (ss_B (ss_EC D A L wr cI cZ cS)) A) args s 0 0 A) (F0 m 19 ls []) := by
  have hx := F.1.1
  have hb := F.1.2.1
  have u_X3 : ∀ w ∈ u_ws RX3 TX3 4, w ∈ wsX3_ordinal := by decide +kernel
  have f_22 : (Cond.fieldLink RX3 22 "SmallSpaces$Space" "pivots" "I").before args s = true := F.1.2.2.2.2 _ (by decide +kernel)
  have f_18 : (Cond.fieldLink RX3 18 "SmallSpaces$Space" "frame" "LSmallSpaces$Frame;").before args s = true := F.1.2.2.2.2 _ (by decide +kernel)
  intro n
  induction n with
  | zero => intro x2 x3 σ H locs ls hC hl hw; exact hw.elim
  | succ n ih =>
    intro x2 x3 σ H locs ls hC hl hw hk56
    refine lv_iload_n hx hb dX3_ordinal_19 rfl (lv_at hl 3 rfl) ?_
    refine lv_aload_n hx hb dX3_ordinal_20 rfl (lv_at hl 0 rfl) ?_
    refine ss_get (C := RX3) (T := TX3) (N := 4) (ci := 3) (v := .int (σ s0 3)) F hC (s0) u_X3 h0.lt (ceC_sp (L := L) (cI := cI) (cS := cS) h0 _) rfl 3 (by decide) f_22 rfl dX3_ordinal_21 ?_
    refine lv_icmp_le (tgt := 56) hx hb dX3_ordinal_24 (by decide) (fun hc => ?_) (fun hc => ?_)
    · replace hw := hw.1 hc
      exact hk56 x2 x3 σ _ _ _ hC (lv_sub hl [0, 2] rfl) hw
    · replace hw := hw.2 hc
      refine lv_iload_n hx hb dX3_ordinal_27 rfl (lv_at hl 3 rfl) ?_
      refine ss_ki (ss_rS (As := [.int (x3)]) (rest := []) F ((mJ6_bitCount_0f7a4 l D A L wr cI cZ cS σ x3) _) gX3_ordinal_J6_bitCount_0f7a4 rfl ⟨rfl, rfl⟩ dvJ6_bitCount_0f7a4 ⟨Nat.le_of_ble_eq_true rfl, Nat.le_of_ble_eq_true rfl⟩ (ss_preS F.2.2.2.2.1 F.2.2.2.2.2 hC hw) rfl hl.1 rfl (Nat.le_of_ble_eq_true rfl) dX3_ordinal_28 ⟨Nat.zero_le _, Nat.zero_le _⟩) hC (fun r4 σ3 H locs hC hw => ?_)
      refine lv_iload_n hx hb dX3_ordinal_31 rfl (lv_at hl 1 rfl) ?_
      refine lv_icmp_ne (tgt := 50) hx hb dX3_ordinal_32 (by decide) (fun hc => ?_) (fun hc => ?_)
      · replace hw := hw.1 hc
        refine lv_iinc (v := x3 + (-1)) (lv' := [(3, .int (x3 + (-1))), (0, .ref (L (s0))), (1, .int (x1)), (2, .int (x2))]) hx hb dX3_ordinal_50 hl (k := 3) rfl rfl (by decide) rfl (fun ls hl => ?_)
        refine lv_goto (tgt := 19) hx hb dX3_ordinal_53 (by decide) ?_
        exact ih x2 (x3 + (-1)) σ3 _ _ _ hC (lv_sub hl [1, 2, 3, 0] rfl) hw hk56
      · replace hw := hw.2 hc
        refine lv_iload_n hx hb dX3_ordinal_35 rfl (lv_at hl 2 rfl) ?_
        refine lv_aload_n hx hb dX3_ordinal_36 rfl (lv_at hl 0 rfl) ?_
        refine ss_get (C := RX3) (T := TX3) (N := 4) (ci := 3) (v := .ref (L (1))) F hC (s0) u_X3 h0.lt (ceC_sp (L := L) (cI := cI) (cS := cS) h0 _) rfl 0 (by decide) f_18 rfl dX3_ordinal_37 ?_
        refine lv_aload_n hx hb dX3_ordinal_40 rfl (lv_at hl 0 rfl) ?_
        refine lv_iload_n hx hb dX3_ordinal_41 rfl (lv_at hl 3 rfl) ?_
        refine ss_ki (ss_rV (C := RX3) (As := [.int (x3)]) (rest := [.ref (L (1)), .int (x2)]) F ((mX3_freeCells l D A L wr cI cZ cS σ3 s0 x3 h0) _) gX3_ordinal_X3_freeCells rfl ⟨rfl, rfl⟩ ⟨rfl, dvX3_freeCells⟩ ⟨Nat.le_of_ble_eq_true rfl, Nat.le_of_ble_eq_true rfl⟩ (ss_preV F.2.2.2.2.1 F.2.2.2.2.2 hC (ss_rec (C := RX3) (T := TX3) (N := 4) (ci := 3) F.2.2.2.2.1 hC (s0) h0.lt (ceC_sp (L := L) (cI := cI) (cS := cS) h0 _) rfl) hw) rfl hl.1 rfl (Nat.le_of_ble_eq_true rfl) dX3_ordinal_42 ⟨Nat.zero_le _, Nat.zero_le _⟩) hC (fun r6 σ5 H locs hC hw => ?_)
        refine ss_ki (ss_rVN (C := RX0) (host := RX4) (As := [.int (r6)]) (rest := [.int (x2)]) F ((mX0_power l D A L wr cI cZ cS σ5 r6) _) gX3_ordinal_X0_power_n106 rfl ⟨rfl, rfl⟩ dvX0_power (by decide +kernel) ⟨by decide +kernel, by decide +kernel, by decide +kernel⟩ ⟨Nat.le_of_ble_eq_true rfl, Nat.le_of_ble_eq_true rfl⟩ (ss_preV F.2.2.2.2.1 F.2.2.2.2.2 hC (ss_rec (C := RX0) (T := TX0) (N := 3) (ci := 0) F.2.2.2.2.1 hC (1) (Nat.le_of_ble_eq_true rfl) rfl rfl) hw) rfl hl.1 rfl (Nat.le_of_ble_eq_true rfl) dX3_ordinal_45 ⟨Nat.zero_le _, Nat.zero_le _⟩) hC (fun r8 σ7 H locs hC hw => ?_)
        refine lv_iadd hx hb dX3_ordinal_48 ?_
        refine lv_istore_n (lv' := [(2, .int (x2 + r8)), (0, .ref (L (s0))), (1, .int (x1)), (3, .int (x3))]) hx hb dX3_ordinal_49 rfl hl (by decide) rfl (fun ls hl => ?_)
        refine lv_iinc (v := x3 + (-1)) (lv' := [(3, .int (x3 + (-1))), (2, .int (x2 + r8)), (0, .ref (L (s0))), (1, .int (x1))]) hx hb dX3_ordinal_50 hl (k := 3) rfl rfl (by decide) rfl (fun ls hl => ?_)
        refine lv_goto (tgt := 19) hx hb dX3_ordinal_53 (by decide) ?_
        exact ih (x2 + r8) (x3 + (-1)) σ7 _ _ _ hC (lv_sub hl [2, 3, 1, 0] rfl) hw hk56

set_option maxHeartbeats 4000000 in
set_option maxRecDepth 100000 in
theorem bX3_ordinal {s0 : Nat} {post : Int32 → ss_S → Prop} (F : ss_F p R s m args meth c (ss_EC D A L wr cI cZ cS) cX3_ordinal 4 wsX3_ordinal RX3 (some .int) rmX3_ordinal) (h0 : isSp s0) : ∀ (σ : ss_S) (H : Heap) (locs : List Loc) (ls : Array Slot), ss_C (ss_EC D A L wr cI cZ cS) σ s H locs → lv_has ls 4 [(0, .ref (L (s0)))] → wX3_ordinal s0 σ post → W p l e R s m args below meth c H locs 0 0 (MQ below (va_Qi post (ss_B (ss_EC D A L wr cI cZ cS)) A) args s 0 0 A) (F0 m 0 ls []) := by
  have hx := F.1.1
  have hb := F.1.2.1
  have u_X3 : ∀ w ∈ u_ws RX3 TX3 4, w ∈ wsX3_ordinal := by decide +kernel
  have f_18 : (Cond.fieldLink RX3 18 "SmallSpaces$Space" "frame" "LSmallSpaces$Frame;").before args s = true := F.1.2.2.2.2 _ (by decide +kernel)
  have u_X0 : ∀ w ∈ u_ws RX0 TX0 3, w ∈ wsX3_ordinal := by decide +kernel
  intro σ H locs ls hC hl hw
  unfold wX3_ordinal at hw
  refine lv_aload_n hx hb dX3_ordinal_0 rfl (lv_at hl 0 rfl) ?_
  refine ss_ki (ss_rV (C := RX3) (As := []) (rest := []) F ((mX3_rank l D A L wr cI cZ cS σ s0 h0) _) gX3_ordinal_X3_rank rfl ⟨rfl, rfl⟩ ⟨rfl, dvX3_rank⟩ ⟨Nat.le_of_ble_eq_true rfl, Nat.le_of_ble_eq_true rfl⟩ (ss_preV F.2.2.2.2.1 F.2.2.2.2.2 hC (ss_rec (C := RX3) (T := TX3) (N := 4) (ci := 3) F.2.2.2.2.1 hC (s0) h0.lt (ceC_sp (L := L) (cI := cI) (cS := cS) h0 _) rfl) hw) rfl hl.1 rfl (Nat.le_of_ble_eq_true rfl) dX3_ordinal_1 ⟨Nat.zero_le _, Nat.zero_le _⟩) hC (fun r2 σ1 H locs hC hw => ?_)
  refine lv_istore_n (lv' := [(1, .int (r2)), (0, .ref (L (s0)))]) hx hb dX3_ordinal_4 rfl hl (by decide) rfl (fun ls hl => ?_)
  refine lv_iconst (v := 0) hx hb dX3_ordinal_5 (by decide) ?_
  refine lv_istore_n (lv' := [(2, .int (0)), (1, .int (r2)), (0, .ref (L (s0)))]) hx hb dX3_ordinal_6 rfl hl (by decide) rfl (fun ls hl => ?_)
  refine lv_iconst (v := 1) hx hb dX3_ordinal_7 (by decide) ?_
  refine lv_aload_n hx hb dX3_ordinal_8 rfl (lv_at hl 2 rfl) ?_
  refine ss_get (C := RX3) (T := TX3) (N := 4) (ci := 3) (v := .ref (L (1))) F hC (s0) u_X3 h0.lt (ceC_sp (L := L) (cI := cI) (cS := cS) h0 _) rfl 0 (by decide) f_18 rfl dX3_ordinal_9 ?_
  refine ss_getN (C := RX0) (T := TX0) (N := 3) (ci := 0) (host := RX4) (v := .int (σ1 1 1)) F hC (1) u_X0 (Nat.le_of_ble_eq_true rfl) rfl rfl 1 (by decide) (by decide +kernel) rfl dX3_ordinal_12 ?_
  refine lv_ishl hx hb dX3_ordinal_15 ?_
  refine lv_iconst (v := 1) hx hb dX3_ordinal_16 (by decide) ?_
  refine lv_isub hx hb dX3_ordinal_17 ?_
  refine lv_istore_n (lv' := [(3, .int ((1 <<< ((σ1 1 1) &&& 31)) - 1)), (2, .int (0)), (1, .int (r2)), (0, .ref (L (s0)))]) hx hb dX3_ordinal_18 rfl hl (by decide) rfl (fun ls hl => ?_)
  obtain ⟨n_, hw⟩ := hw
  refine tX3_ordinal_19 F h0 _ n_ 0 ((1 <<< ((σ1 1 1) &&& 31)) - 1) σ1 _ _ _ hC (lv_sub hl [3, 2, 1, 0] rfl) hw ?_
  · intro x2_9 x3_9 σ_9 H locs ls hC hl hw
    refine lv_iload_n hx hb dX3_ordinal_56 rfl (lv_at hl 1 rfl) ?_
    refine lv_aload_n hx hb dX3_ordinal_57 rfl (lv_at hl 0 rfl) ?_
    refine ss_ki (ss_rV (C := RX3) (As := []) (rest := [.int (x2_9)]) F ((mX3_cellsValue l D A L wr cI cZ cS σ_9 s0 h0) _) gX3_ordinal_X3_cellsValue rfl ⟨rfl, rfl⟩ ⟨rfl, dvX3_cellsValue⟩ ⟨Nat.le_of_ble_eq_true rfl, Nat.le_of_ble_eq_true rfl⟩ (ss_preV F.2.2.2.2.1 F.2.2.2.2.2 hC (ss_rec (C := RX3) (T := TX3) (N := 4) (ci := 3) F.2.2.2.2.1 hC (s0) h0.lt (ceC_sp (L := L) (cI := cI) (cS := cS) h0 _) rfl) hw) rfl hl.1 rfl (Nat.le_of_ble_eq_true rfl) dX3_ordinal_58 ⟨Nat.zero_le _, Nat.zero_le _⟩) hC (fun r11 σ10 H locs hC hw => ?_)
    refine lv_iadd hx hb dX3_ordinal_61 ?_
    exact ss_iret F hC hw dX3_ordinal_62

theorem mX3_ordinal (l : Launch) (D : va_G) (A : Nat → Prop) (L : Nat → Nat) (wr : va_W) (cI cZ cS : ClassId) (σ : ss_S) (s0 : Nat) (h0 : isSp s0) : ss_MI l yX3_ordinal wsX3_ordinal rmX3_ordinal (ss_EC D A L wr cI cZ cS) [.ref (L (s0))] σ (fun post => wX3_ordinal s0 σ post) :=
  ss_MI.of (cc := cX3_ordinal) (nL := 4) (ret := (some .int)) (own := RX3) (by decide) rfl rfl (Nat.le_of_ble_eq_true rfl) (fun post p e R s m below meth c H locs ls F hC hl hw => bX3_ordinal F h0 σ H locs ls hC hl hw)

set_option maxHeartbeats 4000000 in
set_option maxRecDepth 100000 in
theorem tX3_fillCells_55 {s0 : Nat} {x3 : Int32} {post : ss_S → Prop} (F : ss_F p R s m args meth c (ss_EC D A L wr cI cZ cS) cX3_fillCells 5 wsX3_fillCells RX3 none rmX3_fillCells) (h0 : isSp s0) (k107 : Int32 → Int32 → ss_S → Prop) : ∀ (n : Nat) (x2 : Int32) (x4 : Int32) (σ : ss_S) (H : Heap) (locs : List Loc) (ls : Array Slot), ss_C (ss_EC D A L wr cI cZ cS) σ s H locs → lv_has ls 5 [(0, .ref (L (s0))), (2, .int (x2)), (3, .int (x3)), (4, .int (x4))] → lX3_fillCells_55 s0 x3 post k107 n x2 x4 σ →
    (∀ (x2 : Int32) (x4 : Int32) (σ : ss_S) (H : Heap) (locs : List Loc) (ls : Array Slot), ss_C (ss_EC D A L wr cI cZ cS) σ s H locs → lv_has ls 5 [(0, .ref (L (s0))), (2, .int (x2)), (3, .int (x3))] → k107 x2 x4 σ → W p l e R s m args below meth c H locs 0 0 (MQ below (va_Qv post (ss_B (ss_EC D A L wr cI cZ cS)) A) args s 0 0 A) (F0 m 107 ls [])) →
    W p l e R s m args below meth c H locs 0 0 (MQ below (va_Qv post (ss_B (ss_EC D A L wr cI cZ cS)) A) args s 0 0 A) (F0 m 55 ls []) := by
  have hx := F.1.1
  have hb := F.1.2.1
  have u_X3 : ∀ w ∈ u_ws RX3 TX3 4, w ∈ wsX3_fillCells := by decide +kernel
  have f_9 : (Cond.fieldLink RX3 9 "SmallSpaces$Space" "cells" "[I").before args s = true := F.1.2.2.2.2 _ (by decide +kernel)
  have f_18 : (Cond.fieldLink RX3 18 "SmallSpaces$Space" "frame" "LSmallSpaces$Frame;").before args s = true := F.1.2.2.2.2 _ (by decide +kernel)
  have u_X0 : ∀ w ∈ u_ws RX0 TX0 3, w ∈ wsX3_fillCells := by decide +kernel
  intro n
  induction n with
  | zero => intro x2 x4 σ H locs ls hC hl hw; exact hw.elim
  | succ n ih =>
    intro x2 x4 σ H locs ls hC hl hw hk107
    refine lv_iload hx hb dX3_fillCells_55 (lv_at hl 3 rfl) ?_
    refine lv_iload_n hx hb dX3_fillCells_57 rfl (lv_at hl 2 rfl) ?_
    refine lv_icmp_le (tgt := 107) hx hb dX3_fillCells_58 (by decide) (fun hc => ?_) (fun hc => ?_)
    · replace hw := hw.1 hc
      exact hk107 x2 x4 σ _ _ _ hC (lv_sub hl [0, 1, 2] rfl) hw
    · replace hw := hw.2 hc
      refine lv_aload_n hx hb dX3_fillCells_61 rfl (lv_at hl 0 rfl) ?_
      refine lv_iload hx hb dX3_fillCells_62 (lv_at hl 3 rfl) ?_
      refine ss_ki (ss_rV (C := RX3) (As := [.int (x4)]) (rest := []) F ((mX3_isPivot l D A L wr cI cZ cS σ s0 x4 h0) _) gX3_fillCells_X3_isPivot rfl ⟨rfl, rfl⟩ ⟨rfl, dvX3_isPivot⟩ ⟨Nat.le_of_ble_eq_true rfl, Nat.le_of_ble_eq_true rfl⟩ (ss_preV F.2.2.2.2.1 F.2.2.2.2.2 hC (ss_rec (C := RX3) (T := TX3) (N := 4) (ci := 3) F.2.2.2.2.1 hC (s0) h0.lt (ceC_sp (L := L) (cI := cI) (cS := cS) h0 _) rfl) hw) rfl hl.1 rfl (Nat.le_of_ble_eq_true rfl) dX3_fillCells_64 ⟨Nat.zero_le _, Nat.zero_le _⟩) hC (fun r5 σ4 H locs hC hw => ?_)
      refine lv_if_ne (tgt := 101) hx hb dX3_fillCells_67 (by decide) (fun hc => ?_) (fun hc => ?_)
      · replace hw := hw.1 hc
        refine lv_iinc (v := x4 + (-1)) (lv' := [(4, .int (x4 + (-1))), (0, .ref (L (s0))), (2, .int (x2)), (3, .int (x3))]) hx hb dX3_fillCells_101 hl (k := 3) rfl rfl (by decide) rfl (fun ls hl => ?_)
        refine lv_goto (tgt := 55) hx hb dX3_fillCells_104 (by decide) ?_
        exact ih x2 (x4 + (-1)) σ4 _ _ _ hC (lv_sub hl [1, 2, 3, 0] rfl) hw hk107
      · replace hw := hw.2 hc
        refine lv_aload_n hx hb dX3_fillCells_70 rfl (lv_at hl 0 rfl) ?_
        refine ss_get (C := RX3) (T := TX3) (N := 4) (ci := 3) (v := .ref (L (s0 + 1))) F hC (s0) u_X3 h0.lt (ceC_sp (L := L) (cI := cI) (cS := cS) h0 _) rfl 1 (by decide) f_9 rfl dX3_fillCells_71 ?_
        refine lv_iload_n hx hb dX3_fillCells_74 rfl (lv_at hl 2 rfl) ?_
        refine lv_bipush (v := 6) hx hb dX3_fillCells_75 (by decide) ?_
        refine lv_imul hx hb dX3_fillCells_77 ?_
        refine lv_iload hx hb dX3_fillCells_78 (lv_at hl 3 rfl) ?_
        refine lv_iadd hx hb dX3_fillCells_80 ?_
        refine lv_iload_n hx hb dX3_fillCells_81 rfl (lv_at hl 1 rfl) ?_
        refine lv_aload_n hx hb dX3_fillCells_82 rfl (lv_at hl 0 rfl) ?_
        refine ss_get (C := RX3) (T := TX3) (N := 4) (ci := 3) (v := .ref (L (1))) F hC (s0) u_X3 h0.lt (ceC_sp (L := L) (cI := cI) (cS := cS) h0 _) rfl 0 (by decide) f_18 rfl dX3_fillCells_83 ?_
        refine ss_getN (C := RX0) (T := TX0) (N := 3) (ci := 0) (host := RX4) (v := .int (σ4 1 0)) F hC (1) u_X0 (Nat.le_of_ble_eq_true rfl) rfl rfl 0 (by decide) (by decide +kernel) rfl dX3_fillCells_86 ?_
        refine lv_irem hx hb dX3_fillCells_89 hw.1 ?_
        replace hw := hw.2
        refine ss_iast F hC (s0 + 1) 0 h0.cells.lt (ceC_ar (L := L) (cI := cI) (cS := cS) h0.cells) rfl hw.1 dX3_fillCells_90 (fun H locs hC => ?_)
        replace hw := hw.2
        refine lv_iload_n hx hb dX3_fillCells_91 rfl (lv_at hl 1 rfl) ?_
        refine lv_aload_n hx hb dX3_fillCells_92 rfl (lv_at hl 0 rfl) ?_
        refine ss_get (C := RX3) (T := TX3) (N := 4) (ci := 3) (v := .ref (L (1))) F hC (s0) u_X3 h0.lt (ceC_sp (L := L) (cI := cI) (cS := cS) h0 _) rfl 0 (by decide) f_18 rfl dX3_fillCells_93 ?_
        refine ss_getN (C := RX0) (T := TX0) (N := 3) (ci := 0) (host := RX4) (v := .int ((u2 σ4 (s0 + 1) (Int32.toNatClampNeg ((x3 * 6) + x4)) (x2 - x2 / (σ4 1 0) * (σ4 1 0))) 1 0)) F hC (1) u_X0 (Nat.le_of_ble_eq_true rfl) rfl rfl 0 (by decide) (by decide +kernel) rfl dX3_fillCells_96 ?_
        refine lv_idiv hx hb dX3_fillCells_99 hw.1 ?_
        replace hw := hw.2
        refine lv_istore_n (lv' := [(2, .int (x2 / ((u2 σ4 (s0 + 1) (Int32.toNatClampNeg ((x3 * 6) + x4)) (x2 - x2 / (σ4 1 0) * (σ4 1 0))) 1 0))), (0, .ref (L (s0))), (3, .int (x3)), (4, .int (x4))]) hx hb dX3_fillCells_100 rfl hl (by decide) rfl (fun ls hl => ?_)
        refine lv_iinc (v := x4 + (-1)) (lv' := [(4, .int (x4 + (-1))), (2, .int (x2 / ((u2 σ4 (s0 + 1) (Int32.toNatClampNeg ((x3 * 6) + x4)) (x2 - x2 / (σ4 1 0) * (σ4 1 0))) 1 0))), (0, .ref (L (s0))), (3, .int (x3))]) hx hb dX3_fillCells_101 hl (k := 3) rfl rfl (by decide) rfl (fun ls hl => ?_)
        refine lv_goto (tgt := 55) hx hb dX3_fillCells_104 (by decide) ?_
        exact ih (x2 / ((u2 σ4 (s0 + 1) (Int32.toNatClampNeg ((x3 * 6) + x4)) (x2 - x2 / (σ4 1 0) * (σ4 1 0))) 1 0)) (x4 + (-1)) (u2 σ4 (s0 + 1) (Int32.toNatClampNeg ((x3 * 6) + x4)) (x2 - x2 / (σ4 1 0) * (σ4 1 0))) _ _ _ hC (lv_sub hl [2, 1, 3, 0] rfl) hw hk107

set_option maxHeartbeats 4000000 in
set_option maxRecDepth 100000 in
theorem tX3_fillCells_20 {s0 : Nat} {post : ss_S → Prop} (F : ss_F p R s m args meth c (ss_EC D A L wr cI cZ cS) cX3_fillCells 5 wsX3_fillCells RX3 none rmX3_fillCells) (h0 : isSp s0) (k113 : Int32 → Int32 → ss_S → Prop) : ∀ (n : Nat) (x2 : Int32) (x3 : Int32) (σ : ss_S) (H : Heap) (locs : List Loc) (ls : Array Slot), ss_C (ss_EC D A L wr cI cZ cS) σ s H locs → lv_has ls 5 [(0, .ref (L (s0))), (2, .int (x2)), (3, .int (x3))] → lX3_fillCells_20 s0 post k113 n x2 x3 σ →
    (∀ (x2 : Int32) (x3 : Int32) (σ : ss_S) (H : Heap) (locs : List Loc) (ls : Array Slot), ss_C (ss_EC D A L wr cI cZ cS) σ s H locs → lv_has ls 5 [] → k113 x2 x3 σ → W p l e R s m args below meth c H locs 0 0 (MQ below (va_Qv post (ss_B (ss_EC D A L wr cI cZ cS)) A) args s 0 0 A) (F0 m 113 ls [])) →
    W p l e R s m args below meth c H locs 0 0 (MQ below (va_Qv post (ss_B (ss_EC D A L wr cI cZ cS)) A) args s 0 0 A) (F0 m 20 ls []) := by
  have hx := F.1.1
  have hb := F.1.2.1
  have u_X3 : ∀ w ∈ u_ws RX3 TX3 4, w ∈ wsX3_fillCells := by decide +kernel
  have f_9 : (Cond.fieldLink RX3 9 "SmallSpaces$Space" "cells" "[I").before args s = true := F.1.2.2.2.2 _ (by decide +kernel)
  have f_18 : (Cond.fieldLink RX3 18 "SmallSpaces$Space" "frame" "LSmallSpaces$Frame;").before args s = true := F.1.2.2.2.2 _ (by decide +kernel)
  have u_X0 : ∀ w ∈ u_ws RX0 TX0 3, w ∈ wsX3_fillCells := by decide +kernel
  intro n
  induction n with
  | zero => intro x2 x3 σ H locs ls hC hl hw; exact hw.elim
  | succ n ih =>
    intro x2 x3 σ H locs ls hC hl hw hk113
    refine lv_iload_n hx hb dX3_fillCells_20 rfl (lv_at hl 2 rfl) ?_
    refine lv_if_lt (tgt := 113) hx hb dX3_fillCells_21 (by decide) (fun hc => ?_) (fun hc => ?_)
    · replace hw := hw.1 hc
      exact hk113 x2 x3 σ _ _ _ hC (lv_sub hl [] rfl) hw
    · replace hw := hw.2 hc
      refine lv_aload_n hx hb dX3_fillCells_24 rfl (lv_at hl 0 rfl) ?_
      refine lv_iload_n hx hb dX3_fillCells_25 rfl (lv_at hl 2 rfl) ?_
      refine ss_ki (ss_rV (C := RX3) (As := [.int (x3)]) (rest := []) F ((mX3_isPivot l D A L wr cI cZ cS σ s0 x3 h0) _) gX3_fillCells_X3_isPivot rfl ⟨rfl, rfl⟩ ⟨rfl, dvX3_isPivot⟩ ⟨Nat.le_of_ble_eq_true rfl, Nat.le_of_ble_eq_true rfl⟩ (ss_preV F.2.2.2.2.1 F.2.2.2.2.2 hC (ss_rec (C := RX3) (T := TX3) (N := 4) (ci := 3) F.2.2.2.2.1 hC (s0) h0.lt (ceC_sp (L := L) (cI := cI) (cS := cS) h0 _) rfl) hw) rfl hl.1 rfl (Nat.le_of_ble_eq_true rfl) dX3_fillCells_26 ⟨Nat.zero_le _, Nat.zero_le _⟩) hC (fun r3 σ2 H locs hC hw => ?_)
      refine lv_if_eq (tgt := 107) hx hb dX3_fillCells_29 (by decide) (fun hc => ?_) (fun hc => ?_)
      · replace hw := hw.1 hc
        refine lv_iinc (v := x3 + (-1)) (lv' := [(3, .int (x3 + (-1))), (0, .ref (L (s0))), (2, .int (x2))]) hx hb dX3_fillCells_107 hl (k := 2) rfl rfl (by decide) rfl (fun ls hl => ?_)
        refine lv_goto (tgt := 20) hx hb dX3_fillCells_110 (by decide) ?_
        exact ih x2 (x3 + (-1)) σ2 _ _ _ hC (lv_sub hl [1, 2, 0] rfl) hw hk113
      · replace hw := hw.2 hc
        refine lv_aload_n hx hb dX3_fillCells_32 rfl (lv_at hl 0 rfl) ?_
        refine ss_get (C := RX3) (T := TX3) (N := 4) (ci := 3) (v := .ref (L (s0 + 1))) F hC (s0) u_X3 h0.lt (ceC_sp (L := L) (cI := cI) (cS := cS) h0 _) rfl 1 (by decide) f_9 rfl dX3_fillCells_33 ?_
        refine lv_iload_n hx hb dX3_fillCells_36 rfl (lv_at hl 2 rfl) ?_
        refine lv_bipush (v := 6) hx hb dX3_fillCells_37 (by decide) ?_
        refine lv_imul hx hb dX3_fillCells_39 ?_
        refine lv_iload_n hx hb dX3_fillCells_40 rfl (lv_at hl 2 rfl) ?_
        refine lv_iadd hx hb dX3_fillCells_41 ?_
        refine lv_iconst (v := 1) hx hb dX3_fillCells_42 (by decide) ?_
        refine ss_iast F hC (s0 + 1) 0 h0.cells.lt (ceC_ar (L := L) (cI := cI) (cS := cS) h0.cells) rfl hw.1 dX3_fillCells_43 (fun H locs hC => ?_)
        replace hw := hw.2
        refine lv_aload_n hx hb dX3_fillCells_44 rfl (lv_at hl 0 rfl) ?_
        refine ss_get (C := RX3) (T := TX3) (N := 4) (ci := 3) (v := .ref (L (1))) F hC (s0) u_X3 h0.lt (ceC_sp (L := L) (cI := cI) (cS := cS) h0 _) rfl 0 (by decide) f_18 rfl dX3_fillCells_45 ?_
        refine ss_getN (C := RX0) (T := TX0) (N := 3) (ci := 0) (host := RX4) (v := .int ((u2 σ2 (s0 + 1) (Int32.toNatClampNeg ((x3 * 6) + x3)) 1) 1 1)) F hC (1) u_X0 (Nat.le_of_ble_eq_true rfl) rfl rfl 1 (by decide) (by decide +kernel) rfl dX3_fillCells_48 ?_
        refine lv_iconst (v := 1) hx hb dX3_fillCells_51 (by decide) ?_
        refine lv_isub hx hb dX3_fillCells_52 ?_
        refine lv_istore (lv' := [(4, .int (((u2 σ2 (s0 + 1) (Int32.toNatClampNeg ((x3 * 6) + x3)) 1) 1 1) - 1)), (0, .ref (L (s0))), (2, .int (x2)), (3, .int (x3))]) hx hb dX3_fillCells_53 hl (by decide) rfl (fun ls hl => ?_)
        obtain ⟨n_, hw⟩ := hw
        refine tX3_fillCells_55 F h0 _ n_ x2 (((u2 σ2 (s0 + 1) (Int32.toNatClampNeg ((x3 * 6) + x3)) 1) 1 1) - 1) (u2 σ2 (s0 + 1) (Int32.toNatClampNeg ((x3 * 6) + x3)) 1) _ _ _ hC (lv_sub hl [1, 2, 3, 0] rfl) hw ?_
        · intro x2_6 x4_6 σ_6 H locs ls hC hl hw
          refine lv_iinc (v := x3 + (-1)) (lv' := [(3, .int (x3 + (-1))), (0, .ref (L (s0))), (2, .int (x2_6))]) hx hb dX3_fillCells_107 hl (k := 2) rfl rfl (by decide) rfl (fun ls hl => ?_)
          refine lv_goto (tgt := 20) hx hb dX3_fillCells_110 (by decide) ?_
          exact ih x2_6 (x3 + (-1)) σ_6 _ _ _ hC (lv_sub hl [1, 2, 0] rfl) hw hk113

set_option maxHeartbeats 4000000 in
set_option maxRecDepth 100000 in
theorem bX3_fillCells {s0 : Nat} {x1 : Int32} {post : ss_S → Prop} (F : ss_F p R s m args meth c (ss_EC D A L wr cI cZ cS) cX3_fillCells 5 wsX3_fillCells RX3 none rmX3_fillCells) (h0 : isSp s0) : ∀ (σ : ss_S) (H : Heap) (locs : List Loc) (ls : Array Slot), ss_C (ss_EC D A L wr cI cZ cS) σ s H locs → lv_has ls 5 [(0, .ref (L (s0))), (1, .int (x1))] → wX3_fillCells s0 x1 σ post → W p l e R s m args below meth c H locs 0 0 (MQ below (va_Qv post (ss_B (ss_EC D A L wr cI cZ cS)) A) args s 0 0 A) (F0 m 0 ls []) := by
  have hx := F.1.1
  have hb := F.1.2.1
  have u_X3 : ∀ w ∈ u_ws RX3 TX3 4, w ∈ wsX3_fillCells := by decide +kernel
  have f_9 : (Cond.fieldLink RX3 9 "SmallSpaces$Space" "cells" "[I").before args s = true := F.1.2.2.2.2 _ (by decide +kernel)
  have f_18 : (Cond.fieldLink RX3 18 "SmallSpaces$Space" "frame" "LSmallSpaces$Frame;").before args s = true := F.1.2.2.2.2 _ (by decide +kernel)
  have u_X0 : ∀ w ∈ u_ws RX0 TX0 3, w ∈ wsX3_fillCells := by decide +kernel
  intro σ H locs ls hC hl hw
  unfold wX3_fillCells at hw
  refine lv_iload_n hx hb dX3_fillCells_0 rfl (lv_at hl 1 rfl) ?_
  refine lv_istore_n (lv' := [(2, .int (x1)), (0, .ref (L (s0))), (1, .int (x1))]) hx hb dX3_fillCells_1 rfl hl (by decide) rfl (fun ls hl => ?_)
  refine lv_aload_n hx hb dX3_fillCells_2 rfl (lv_at hl 1 rfl) ?_
  refine ss_get (C := RX3) (T := TX3) (N := 4) (ci := 3) (v := .ref (L (s0 + 1))) F hC (s0) u_X3 h0.lt (ceC_sp (L := L) (cI := cI) (cS := cS) h0 _) rfl 1 (by decide) f_9 rfl dX3_fillCells_3 ?_
  refine lv_iconst (v := 0) hx hb dX3_fillCells_6 (by decide) ?_
  refine ss_kv (ss_rS (As := [.ref (L (s0 + 1)), .int (0)]) (rest := []) F ((mJ7_fill_53178 l D A L wr cI cZ cS σ (s0 + 1) 0 h0.cells) _) gX3_fillCells_J7_fill_53178 rfl ⟨rfl, rfl⟩ dvJ7_fill_53178 ⟨Nat.le_of_ble_eq_true rfl, Nat.le_of_ble_eq_true rfl⟩ (ss_preS F.2.2.2.2.1 F.2.2.2.2.2 hC hw) rfl hl.1 rfl (Nat.le_of_ble_eq_true rfl) dX3_fillCells_7 ⟨Nat.zero_le _, Nat.zero_le _⟩) hC (fun σ1 H locs hC hw => ?_)
  refine lv_aload_n hx hb dX3_fillCells_10 rfl (lv_at hl 1 rfl) ?_
  refine ss_get (C := RX3) (T := TX3) (N := 4) (ci := 3) (v := .ref (L (1))) F hC (s0) u_X3 h0.lt (ceC_sp (L := L) (cI := cI) (cS := cS) h0 _) rfl 0 (by decide) f_18 rfl dX3_fillCells_11 ?_
  refine ss_getN (C := RX0) (T := TX0) (N := 3) (ci := 0) (host := RX4) (v := .int (σ1 1 1)) F hC (1) u_X0 (Nat.le_of_ble_eq_true rfl) rfl rfl 1 (by decide) (by decide +kernel) rfl dX3_fillCells_14 ?_
  refine lv_iconst (v := 1) hx hb dX3_fillCells_17 (by decide) ?_
  refine lv_isub hx hb dX3_fillCells_18 ?_
  refine lv_istore_n (lv' := [(3, .int ((σ1 1 1) - 1)), (2, .int (x1)), (0, .ref (L (s0))), (1, .int (x1))]) hx hb dX3_fillCells_19 rfl hl (by decide) rfl (fun ls hl => ?_)
  obtain ⟨n_, hw⟩ := hw
  refine tX3_fillCells_20 F h0 _ n_ x1 ((σ1 1 1) - 1) σ1 _ _ _ hC (lv_sub hl [2, 1, 0] rfl) hw ?_
  · intro x2_7 x3_7 σ_7 H locs ls hC hl hw
    exact ss_vret F hC hw dX3_fillCells_113

theorem mX3_fillCells (l : Launch) (D : va_G) (A : Nat → Prop) (L : Nat → Nat) (wr : va_W) (cI cZ cS : ClassId) (σ : ss_S) (s0 : Nat) (x1 : Int32) (h0 : isSp s0) : ss_MV l yX3_fillCells wsX3_fillCells rmX3_fillCells (ss_EC D A L wr cI cZ cS) [.ref (L (s0)), .int (x1)] σ (fun post => wX3_fillCells s0 x1 σ post) :=
  ss_MV.of (cc := cX3_fillCells) (nL := 5) (ret := none) (own := RX3) (by decide) rfl rfl (Nat.le_of_ble_eq_true rfl) (fun post p e R s m below meth c H locs ls F hC hl hw => bX3_fillCells F h0 σ H locs ls hC hl hw)

set_option maxHeartbeats 4000000 in
set_option maxRecDepth 100000 in
theorem tX3_becomeOrdinal_15 {s0 : Nat} {x1 : Int32} {post : ss_S → Prop} (F : ss_F p R s m args meth c (ss_EC D A L wr cI cZ cS) cX3_becomeOrdinal 6 wsX3_becomeOrdinal RX3 none rmX3_becomeOrdinal) (h0 : isSp s0) (k73 : Int32 → Int32 → ss_S → Prop) : ∀ (n : Nat) (x3 : Int32) (x4 : Int32) (σ : ss_S) (H : Heap) (locs : List Loc) (ls : Array Slot), ss_C (ss_EC D A L wr cI cZ cS) σ s H locs → lv_has ls 6 [(0, .ref (L (s0))), (1, .int (x1)), (3, .int (x3)), (4, .int (x4))] → lX3_becomeOrdinal_15 s0 x1 post k73 n x3 x4 σ →
    (∀ (x3 : Int32) (x4 : Int32) (σ : ss_S) (H : Heap) (locs : List Loc) (ls : Array Slot), ss_C (ss_EC D A L wr cI cZ cS) σ s H locs → lv_has ls 6 [] → k73 x3 x4 σ → W p l e R s m args below meth c H locs 0 0 (MQ below (va_Qv post (ss_B (ss_EC D A L wr cI cZ cS)) A) args s 0 0 A) (F0 m 73 ls [])) →
    W p l e R s m args below meth c H locs 0 0 (MQ below (va_Qv post (ss_B (ss_EC D A L wr cI cZ cS)) A) args s 0 0 A) (F0 m 15 ls []) := by
  have hx := F.1.1
  have hb := F.1.2.1
  have u_X3 : ∀ w ∈ u_ws RX3 TX3 4, w ∈ wsX3_becomeOrdinal := by decide +kernel
  have f_18 : (Cond.fieldLink RX3 18 "SmallSpaces$Space" "frame" "LSmallSpaces$Frame;").before args s = true := F.1.2.2.2.2 _ (by decide +kernel)
  have f_22 : (Cond.fieldLink RX3 22 "SmallSpaces$Space" "pivots" "I").before args s = true := F.1.2.2.2.2 _ (by decide +kernel)
  intro n
  induction n with
  | zero => intro x3 x4 σ H locs ls hC hl hw; exact hw.elim
  | succ n ih =>
    intro x3 x4 σ H locs ls hC hl hw hk73
    refine lv_iload hx hb dX3_becomeOrdinal_15 (lv_at hl 3 rfl) ?_
    refine lv_if_lt (tgt := 73) hx hb dX3_becomeOrdinal_17 (by decide) (fun hc => ?_) (fun hc => ?_)
    · replace hw := hw.1 hc
      exact hk73 x3 x4 σ _ _ _ hC (lv_sub hl [] rfl) hw
    · replace hw := hw.2 hc
      refine lv_iload hx hb dX3_becomeOrdinal_20 (lv_at hl 3 rfl) ?_
      refine ss_ki (ss_rS (As := [.int (x4)]) (rest := []) F ((mJ6_bitCount_0f7a4 l D A L wr cI cZ cS σ x4) _) gX3_becomeOrdinal_J6_bitCount_0f7a4 rfl ⟨rfl, rfl⟩ dvJ6_bitCount_0f7a4 ⟨Nat.le_of_ble_eq_true rfl, Nat.le_of_ble_eq_true rfl⟩ (ss_preS F.2.2.2.2.1 F.2.2.2.2.2 hC hw) rfl hl.1 rfl (Nat.le_of_ble_eq_true rfl) dX3_becomeOrdinal_22 ⟨Nat.zero_le _, Nat.zero_le _⟩) hC (fun r2 σ1 H locs hC hw => ?_)
      refine lv_iload_n hx hb dX3_becomeOrdinal_25 rfl (lv_at hl 1 rfl) ?_
      refine lv_icmp_ne (tgt := 67) hx hb dX3_becomeOrdinal_26 (by decide) (fun hc => ?_) (fun hc => ?_)
      · replace hw := hw.1 hc
        refine lv_iinc (v := x4 + (-1)) (lv' := [(4, .int (x4 + (-1))), (0, .ref (L (s0))), (1, .int (x1)), (3, .int (x3))]) hx hb dX3_becomeOrdinal_67 hl (k := 3) rfl rfl (by decide) rfl (fun ls hl => ?_)
        refine lv_goto (tgt := 15) hx hb dX3_becomeOrdinal_70 (by decide) ?_
        exact ih x3 (x4 + (-1)) σ1 _ _ _ hC (lv_sub hl [1, 2, 3, 0] rfl) hw hk73
      · replace hw := hw.2 hc
        refine lv_aload_n hx hb dX3_becomeOrdinal_29 rfl (lv_at hl 0 rfl) ?_
        refine ss_get (C := RX3) (T := TX3) (N := 4) (ci := 3) (v := .ref (L (1))) F hC (s0) u_X3 h0.lt (ceC_sp (L := L) (cI := cI) (cS := cS) h0 _) rfl 0 (by decide) f_18 rfl dX3_becomeOrdinal_30 ?_
        refine lv_aload_n hx hb dX3_becomeOrdinal_33 rfl (lv_at hl 0 rfl) ?_
        refine lv_iload hx hb dX3_becomeOrdinal_34 (lv_at hl 3 rfl) ?_
        refine ss_ki (ss_rV (C := RX3) (As := [.int (x4)]) (rest := [.ref (L (1))]) F ((mX3_freeCells l D A L wr cI cZ cS σ1 s0 x4 h0) _) gX3_becomeOrdinal_X3_freeCells rfl ⟨rfl, rfl⟩ ⟨rfl, dvX3_freeCells⟩ ⟨Nat.le_of_ble_eq_true rfl, Nat.le_of_ble_eq_true rfl⟩ (ss_preV F.2.2.2.2.1 F.2.2.2.2.2 hC (ss_rec (C := RX3) (T := TX3) (N := 4) (ci := 3) F.2.2.2.2.1 hC (s0) h0.lt (ceC_sp (L := L) (cI := cI) (cS := cS) h0 _) rfl) hw) rfl hl.1 rfl (Nat.le_of_ble_eq_true rfl) dX3_becomeOrdinal_36 ⟨Nat.zero_le _, Nat.zero_le _⟩) hC (fun r4 σ3 H locs hC hw => ?_)
        refine ss_ki (ss_rVN (C := RX0) (host := RX4) (As := [.int (r4)]) (rest := []) F ((mX0_power l D A L wr cI cZ cS σ3 r4) _) gX3_becomeOrdinal_X0_power_n106 rfl ⟨rfl, rfl⟩ dvX0_power (by decide +kernel) ⟨by decide +kernel, by decide +kernel, by decide +kernel⟩ ⟨Nat.le_of_ble_eq_true rfl, Nat.le_of_ble_eq_true rfl⟩ (ss_preV F.2.2.2.2.1 F.2.2.2.2.2 hC (ss_rec (C := RX0) (T := TX0) (N := 3) (ci := 0) F.2.2.2.2.1 hC (1) (Nat.le_of_ble_eq_true rfl) rfl rfl) hw) rfl hl.1 rfl (Nat.le_of_ble_eq_true rfl) dX3_becomeOrdinal_39 ⟨Nat.zero_le _, Nat.zero_le _⟩) hC (fun r6 σ5 H locs hC hw => ?_)
        refine lv_istore (lv' := [(5, .int (r6)), (0, .ref (L (s0))), (1, .int (x1)), (3, .int (x3)), (4, .int (x4))]) hx hb dX3_becomeOrdinal_42 hl (by decide) rfl (fun ls hl => ?_)
        refine lv_iload_n hx hb dX3_becomeOrdinal_44 rfl (lv_at hl 3 rfl) ?_
        refine lv_iload hx hb dX3_becomeOrdinal_45 (lv_at hl 0 rfl) ?_
        refine lv_icmp_ge (tgt := 62) hx hb dX3_becomeOrdinal_47 (by decide) (fun hc => ?_) (fun hc => ?_)
        · replace hw := hw.1 hc
          refine lv_iload_n hx hb dX3_becomeOrdinal_62 rfl (lv_at hl 3 rfl) ?_
          refine lv_iload hx hb dX3_becomeOrdinal_63 (lv_at hl 0 rfl) ?_
          refine lv_isub hx hb dX3_becomeOrdinal_65 ?_
          refine lv_istore_n (lv' := [(3, .int (x3 - r6)), (5, .int (r6)), (0, .ref (L (s0))), (1, .int (x1)), (4, .int (x4))]) hx hb dX3_becomeOrdinal_66 rfl hl (by decide) rfl (fun ls hl => ?_)
          refine lv_iinc (v := x4 + (-1)) (lv' := [(4, .int (x4 + (-1))), (3, .int (x3 - r6)), (5, .int (r6)), (0, .ref (L (s0))), (1, .int (x1))]) hx hb dX3_becomeOrdinal_67 hl (k := 4) rfl rfl (by decide) rfl (fun ls hl => ?_)
          refine lv_goto (tgt := 15) hx hb dX3_becomeOrdinal_70 (by decide) ?_
          exact ih (x3 - r6) (x4 + (-1)) σ5 _ _ _ hC (lv_sub hl [3, 4, 1, 0] rfl) hw hk73
        · replace hw := hw.2 hc
          refine lv_aload_n hx hb dX3_becomeOrdinal_50 rfl (lv_at hl 1 rfl) ?_
          refine lv_iload hx hb dX3_becomeOrdinal_51 (lv_at hl 4 rfl) ?_
          refine ss_put (C := RX3) (T := TX3) (N := 4) (ci := 3) F hC (s0) tyX3 tyX3_ok nmX3 u_X3 h0.lt (ceC_sp (L := L) (cI := cI) (cS := cS) h0 _) rfl 3 (by decide) f_22 rfl (by decide +kernel) (Nat.le_of_ble_eq_true rfl) ((ceC_sp (L := L) (cI := cI) (cS := cS) h0 _).trans rfl) dX3_becomeOrdinal_53 (fun H locs hC => ?_)
          refine lv_aload_n hx hb dX3_becomeOrdinal_56 rfl (lv_at hl 1 rfl) ?_
          refine lv_iload_n hx hb dX3_becomeOrdinal_57 rfl (lv_at hl 3 rfl) ?_
          refine ss_kv (ss_rV (C := RX3) (As := [.int (x3)]) (rest := []) F ((mX3_fillCells l D A L wr cI cZ cS (u2 σ5 s0 3 x4) s0 x3 h0) _) gX3_becomeOrdinal_X3_fillCells rfl ⟨rfl, rfl⟩ ⟨rfl, dvX3_fillCells⟩ ⟨Nat.le_of_ble_eq_true rfl, Nat.le_of_ble_eq_true rfl⟩ (ss_preV F.2.2.2.2.1 F.2.2.2.2.2 hC (ss_rec (C := RX3) (T := TX3) (N := 4) (ci := 3) F.2.2.2.2.1 hC (s0) h0.lt (ceC_sp (L := L) (cI := cI) (cS := cS) h0 _) rfl) hw) rfl hl.1 rfl (Nat.le_of_ble_eq_true rfl) dX3_becomeOrdinal_58 ⟨Nat.zero_le _, Nat.zero_le _⟩) hC (fun σ7 H locs hC hw => ?_)
          exact ss_vret F hC hw dX3_becomeOrdinal_61

set_option maxHeartbeats 4000000 in
set_option maxRecDepth 100000 in
theorem bX3_becomeOrdinal {s0 : Nat} {x1 : Int32} {x2 : Int32} {post : ss_S → Prop} (F : ss_F p R s m args meth c (ss_EC D A L wr cI cZ cS) cX3_becomeOrdinal 6 wsX3_becomeOrdinal RX3 none rmX3_becomeOrdinal) (h0 : isSp s0) : ∀ (σ : ss_S) (H : Heap) (locs : List Loc) (ls : Array Slot), ss_C (ss_EC D A L wr cI cZ cS) σ s H locs → lv_has ls 6 [(0, .ref (L (s0))), (1, .int (x1)), (2, .int (x2))] → wX3_becomeOrdinal s0 x1 x2 σ post → W p l e R s m args below meth c H locs 0 0 (MQ below (va_Qv post (ss_B (ss_EC D A L wr cI cZ cS)) A) args s 0 0 A) (F0 m 0 ls []) := by
  have hx := F.1.1
  have hb := F.1.2.1
  have u_X3 : ∀ w ∈ u_ws RX3 TX3 4, w ∈ wsX3_becomeOrdinal := by decide +kernel
  have f_18 : (Cond.fieldLink RX3 18 "SmallSpaces$Space" "frame" "LSmallSpaces$Frame;").before args s = true := F.1.2.2.2.2 _ (by decide +kernel)
  have u_X0 : ∀ w ∈ u_ws RX0 TX0 3, w ∈ wsX3_becomeOrdinal := by decide +kernel
  intro σ H locs ls hC hl hw
  unfold wX3_becomeOrdinal at hw
  refine lv_iload_n hx hb dX3_becomeOrdinal_0 rfl (lv_at hl 2 rfl) ?_
  refine lv_istore_n (lv' := [(3, .int (x2)), (0, .ref (L (s0))), (1, .int (x1)), (2, .int (x2))]) hx hb dX3_becomeOrdinal_1 rfl hl (by decide) rfl (fun ls hl => ?_)
  refine lv_iconst (v := 1) hx hb dX3_becomeOrdinal_2 (by decide) ?_
  refine lv_aload_n hx hb dX3_becomeOrdinal_3 rfl (lv_at hl 1 rfl) ?_
  refine ss_get (C := RX3) (T := TX3) (N := 4) (ci := 3) (v := .ref (L (1))) F hC (s0) u_X3 h0.lt (ceC_sp (L := L) (cI := cI) (cS := cS) h0 _) rfl 0 (by decide) f_18 rfl dX3_becomeOrdinal_4 ?_
  refine ss_getN (C := RX0) (T := TX0) (N := 3) (ci := 0) (host := RX4) (v := .int (σ 1 1)) F hC (1) u_X0 (Nat.le_of_ble_eq_true rfl) rfl rfl 1 (by decide) (by decide +kernel) rfl dX3_becomeOrdinal_7 ?_
  refine lv_ishl hx hb dX3_becomeOrdinal_10 ?_
  refine lv_iconst (v := 1) hx hb dX3_becomeOrdinal_11 (by decide) ?_
  refine lv_isub hx hb dX3_becomeOrdinal_12 ?_
  refine lv_istore (lv' := [(4, .int ((1 <<< ((σ 1 1) &&& 31)) - 1)), (3, .int (x2)), (0, .ref (L (s0))), (1, .int (x1)), (2, .int (x2))]) hx hb dX3_becomeOrdinal_13 hl (by decide) rfl (fun ls hl => ?_)
  obtain ⟨n_, hw⟩ := hw
  refine tX3_becomeOrdinal_15 F h0 _ n_ x2 ((1 <<< ((σ 1 1) &&& 31)) - 1) σ _ _ _ hC (lv_sub hl [2, 3, 1, 0] rfl) hw ?_
  · intro x3_8 x4_8 σ_8 H locs ls hC hl hw
    exact ss_vret F hC hw dX3_becomeOrdinal_73

theorem mX3_becomeOrdinal (l : Launch) (D : va_G) (A : Nat → Prop) (L : Nat → Nat) (wr : va_W) (cI cZ cS : ClassId) (σ : ss_S) (s0 : Nat) (x1 : Int32) (x2 : Int32) (h0 : isSp s0) : ss_MV l yX3_becomeOrdinal wsX3_becomeOrdinal rmX3_becomeOrdinal (ss_EC D A L wr cI cZ cS) [.ref (L (s0)), .int (x1), .int (x2)] σ (fun post => wX3_becomeOrdinal s0 x1 x2 σ post) :=
  ss_MV.of (cc := cX3_becomeOrdinal) (nL := 6) (ret := none) (own := RX3) (by decide) rfl rfl (Nat.le_of_ble_eq_true rfl) (fun post p e R s m below meth c H locs ls F hC hl hw => bX3_becomeOrdinal F h0 σ H locs ls hC hl hw)
end
