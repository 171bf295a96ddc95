section
variable {p : Program} {l : Launch} {e : Env} {R : Room} {s : State} {m : MethodId} {args : Array Value} {below : List Frame} {meth : Method} {c : Code} {D : va_G} {A : Nat → Prop} {L : Nat → Nat} {wr : va_W} {cI cZ cS : ClassId}
set_option maxHeartbeats 4000000 in
set_option maxRecDepth 100000 in
theorem bX5_row {x1 : Int32} {x2 : Int32} {post : Int32 → ss_S → Prop} (F : ss_F p R s m args meth c (ss_EM D A L wr cI cZ cS) cX5_row 3 wsX5_row RX5 (some .int) rmX5_row)  : ∀ (σ : ss_S) (H : Heap) (locs : List Loc) (ls : Array Slot), ss_C (ss_EM D A L wr cI cZ cS) σ s H locs → lv_has ls 3 [(0, .ref (L (0))), (1, .int (x1)), (2, .int (x2))] → wX5_row x1 x2 σ post → W p l e R s m args below meth c H locs 0 0 (MQ below (va_Qi post (ss_B (ss_EM D A L wr cI cZ cS)) A) args s 0 0 A) (F0 m 0 ls []) := by
  have hx := F.1.1
  have hb := F.1.2.1
  have u_X5 : ∀ w ∈ u_ws RX5 TX5 16, w ∈ wsX5_row := by decide +kernel
  have f_20 : (Cond.fieldLink RX5 20 "SmallSpacesModel" "dims" "[I").before args s = true := F.1.2.2.2.2 _ (by decide +kernel)
  have f_23 : (Cond.fieldLink RX5 23 "SmallSpacesModel" "rows" "[I").before args s = true := F.1.2.2.2.2 _ (by decide +kernel)
  intro σ H locs ls hC hl hw
  unfold wX5_row at hw
  refine lv_iload_n hx hb dX5_row_0 rfl (lv_at hl 1 rfl) ?_
  refine ss_ki (ss_rS (As := [.int (x1)]) (rest := []) F ((mX5_isSlot l D A L wr cI cZ cS σ x1) _) gX5_row_X5_isSlot rfl ⟨rfl, rfl⟩ dvX5_isSlot ⟨Nat.le_of_ble_eq_true rfl, Nat.le_of_ble_eq_true rfl⟩ (ss_preS F.2.2.2.2.1 F.2.2.2.2.2 hC hw) rfl hl.1 rfl (Nat.le_of_ble_eq_true rfl) dX5_row_1 ⟨Nat.zero_le _, Nat.zero_le _⟩) hC (fun r2 σ1 H locs hC hw => ?_)
  refine lv_if_ne (tgt := 10) hx hb dX5_row_4 (by decide) (fun hc => ?_) (fun hc => ?_)
  · replace hw := hw.1 hc
    refine lv_iload_n hx hb dX5_row_10 rfl (lv_at hl 2 rfl) ?_
    refine lv_i2l hx hb dX5_row_11 rfl ?_
    refine lv_lconst (v := 0) hx hb dX5_row_12 (by decide) ?_
    refine lv_aload_n hx hb dX5_row_13 rfl (lv_at hl 0 rfl) ?_
    refine ss_get (C := RX5) (T := TX5) (N := 16) (ci := 5) (v := .ref (L (4))) F hC (0) u_X5 (Nat.le_of_ble_eq_true rfl) rfl rfl 9 (by decide) f_20 rfl dX5_row_14 ?_
    refine lv_iload_n hx hb dX5_row_17 rfl (lv_at hl 1 rfl) ?_
    refine ss_iald F hC (4) 0 (Nat.le_of_ble_eq_true rfl) (fun _ => rfl) rfl hw.1 dX5_row_18 ?_
    replace hw := hw.2
    refine lv_iconst (v := 1) hx hb dX5_row_19 (by decide) ?_
    refine lv_isub hx hb dX5_row_20 ?_
    refine lv_i2l hx hb dX5_row_21 rfl ?_
    refine ss_ki (ss_rS (As := [.long (Int32.toInt64 x2), .long (0), .long (Int32.toInt64 ((σ1 4 (Int32.toNatClampNeg x1)) - 1))]) (rest := []) F ((mX5_in l D A L wr cI cZ cS σ1 (Int32.toInt64 x2) 0 (Int32.toInt64 ((σ1 4 (Int32.toNatClampNeg x1)) - 1))) _) gX5_row_X5_in rfl ⟨rfl, rfl⟩ dvX5_in ⟨Nat.le_of_ble_eq_true rfl, Nat.le_of_ble_eq_true rfl⟩ (ss_preS F.2.2.2.2.1 F.2.2.2.2.2 hC hw) rfl hl.1 rfl (Nat.le_of_ble_eq_true rfl) dX5_row_22 ⟨Nat.zero_le _, Nat.zero_le _⟩) hC (fun r4 σ3 H locs hC hw => ?_)
    refine lv_if_eq (tgt := 42) hx hb dX5_row_25 (by decide) (fun hc => ?_) (fun hc => ?_)
    · replace hw := hw.1 hc
      refine lv_iconst (v := -1) hx hb dX5_row_42 (by decide) ?_
      exact ss_iret F hC hw dX5_row_43
    · replace hw := hw.2 hc
      refine lv_aload_n hx hb dX5_row_28 rfl (lv_at hl 0 rfl) ?_
      refine ss_get (C := RX5) (T := TX5) (N := 16) (ci := 5) (v := .ref (L (5))) F hC (0) u_X5 (Nat.le_of_ble_eq_true rfl) rfl rfl 10 (by decide) f_23 rfl dX5_row_29 ?_
      refine lv_bipush (v := 6) hx hb dX5_row_32 (by decide) ?_
      refine lv_iload_n hx hb dX5_row_34 rfl (lv_at hl 1 rfl) ?_
      refine lv_imul hx hb dX5_row_35 ?_
      refine lv_iload_n hx hb dX5_row_36 rfl (lv_at hl 2 rfl) ?_
      refine lv_iadd hx hb dX5_row_37 ?_
      refine ss_iald F hC (5) 0 (Nat.le_of_ble_eq_true rfl) (fun _ => rfl) rfl hw.1 dX5_row_38 ?_
      replace hw := hw.2
      refine lv_goto (tgt := 43) hx hb dX5_row_39 (by decide) ?_
      exact ss_iret F hC hw dX5_row_43
  · replace hw := hw.2 hc
    refine lv_bipush (v := -101) hx hb dX5_row_7 (by decide) ?_
    exact ss_iret F hC hw dX5_row_9

theorem mX5_row (l : Launch) (D : va_G) (A : Nat → Prop) (L : Nat → Nat) (wr : va_W) (cI cZ cS : ClassId) (σ : ss_S) (x1 : Int32) (x2 : Int32)  : ss_MI l yX5_row wsX5_row rmX5_row (ss_EM D A L wr cI cZ cS) [.ref (L (0)), .int (x1), .int (x2)] σ (fun post => wX5_row x1 x2 σ post) :=
  ss_MI.of (cc := cX5_row) (nL := 3) (ret := (some .int)) (own := RX5) (by decide) rfl rfl (Nat.le_of_ble_eq_true rfl) (fun post p e R s m below meth c H locs ls F hC hl hw => bX5_row F  σ H locs ls hC hl hw)

set_option maxHeartbeats 4000000 in
set_option maxRecDepth 100000 in
theorem bX5_areSlots {x0 : Int32} {x1 : Int32} {x2 : Int32} {post : Int32 → ss_S → Prop} (F : ss_F p R s m args meth c (ss_EM D A L wr cI cZ cS) cX5_areSlots 3 wsX5_areSlots RX5 (some .boolean) rmX5_areSlots)  : ∀ (σ : ss_S) (H : Heap) (locs : List Loc) (ls : Array Slot), ss_C (ss_EM D A L wr cI cZ cS) σ s H locs → lv_has ls 3 [(0, .int (x0)), (1, .int (x1)), (2, .int (x2))] → wX5_areSlots x0 x1 x2 σ post → W p l e R s m args below meth c H locs 0 0 (MQ below (va_Qi post (ss_B (ss_EM D A L wr cI cZ cS)) A) args s 0 0 A) (F0 m 0 ls []) := by
  have hx := F.1.1
  have hb := F.1.2.1
  intro σ H locs ls hC hl hw
  unfold wX5_areSlots at hw
  refine lv_iload_n hx hb dX5_areSlots_0 rfl (lv_at hl 0 rfl) ?_
  refine ss_ki (ss_rS (As := [.int (x0)]) (rest := []) F ((mX5_isSlot l D A L wr cI cZ cS σ x0) _) gX5_areSlots_X5_isSlot rfl ⟨rfl, rfl⟩ dvX5_isSlot ⟨Nat.le_of_ble_eq_true rfl, Nat.le_of_ble_eq_true rfl⟩ (ss_preS F.2.2.2.2.1 F.2.2.2.2.2 hC hw) rfl hl.1 rfl (Nat.le_of_ble_eq_true rfl) dX5_areSlots_1 ⟨Nat.zero_le _, Nat.zero_le _⟩) hC (fun r2 σ1 H locs hC hw => ?_)
  refine lv_if_eq (tgt := 25) hx hb dX5_areSlots_4 (by decide) (fun hc => ?_) (fun hc => ?_)
  · replace hw := hw.1 hc
    refine lv_iconst (v := 0) hx hb dX5_areSlots_25 (by decide) ?_
    exact ss_zret F hC rfl hw dX5_areSlots_26
  · replace hw := hw.2 hc
    refine lv_iload_n hx hb dX5_areSlots_7 rfl (lv_at hl 1 rfl) ?_
    refine ss_ki (ss_rS (As := [.int (x1)]) (rest := []) F ((mX5_isSlot l D A L wr cI cZ cS σ1 x1) _) gX5_areSlots_X5_isSlot rfl ⟨rfl, rfl⟩ dvX5_isSlot ⟨Nat.le_of_ble_eq_true rfl, Nat.le_of_ble_eq_true rfl⟩ (ss_preS F.2.2.2.2.1 F.2.2.2.2.2 hC hw) rfl hl.1 rfl (Nat.le_of_ble_eq_true rfl) dX5_areSlots_8 ⟨Nat.zero_le _, Nat.zero_le _⟩) hC (fun r4 σ3 H locs hC hw => ?_)
    refine lv_if_eq (tgt := 25) hx hb dX5_areSlots_11 (by decide) (fun hc => ?_) (fun hc => ?_)
    · replace hw := hw.1 hc
      refine lv_iconst (v := 0) hx hb dX5_areSlots_25 (by decide) ?_
      exact ss_zret F hC rfl hw dX5_areSlots_26
    · replace hw := hw.2 hc
      refine lv_iload_n hx hb dX5_areSlots_14 rfl (lv_at hl 2 rfl) ?_
      refine ss_ki (ss_rS (As := [.int (x2)]) (rest := []) F ((mX5_isSlot l D A L wr cI cZ cS σ3 x2) _) gX5_areSlots_X5_isSlot rfl ⟨rfl, rfl⟩ dvX5_isSlot ⟨Nat.le_of_ble_eq_true rfl, Nat.le_of_ble_eq_true rfl⟩ (ss_preS F.2.2.2.2.1 F.2.2.2.2.2 hC hw) rfl hl.1 rfl (Nat.le_of_ble_eq_true rfl) dX5_areSlots_15 ⟨Nat.zero_le _, Nat.zero_le _⟩) hC (fun r6 σ5 H locs hC hw => ?_)
      refine lv_if_eq (tgt := 25) hx hb dX5_areSlots_18 (by decide) (fun hc => ?_) (fun hc => ?_)
      · replace hw := hw.1 hc
        refine lv_iconst (v := 0) hx hb dX5_areSlots_25 (by decide) ?_
        exact ss_zret F hC rfl hw dX5_areSlots_26
      · replace hw := hw.2 hc
        refine lv_iconst (v := 1) hx hb dX5_areSlots_21 (by decide) ?_
        refine lv_goto (tgt := 26) hx hb dX5_areSlots_22 (by decide) ?_
        exact ss_zret F hC rfl hw dX5_areSlots_26

theorem mX5_areSlots (l : Launch) (D : va_G) (A : Nat → Prop) (L : Nat → Nat) (wr : va_W) (cI cZ cS : ClassId) (σ : ss_S) (x0 : Int32) (x1 : Int32) (x2 : Int32)  : ss_MI l yX5_areSlots wsX5_areSlots rmX5_areSlots (ss_EM D A L wr cI cZ cS) [.int (x0), .int (x1), .int (x2)] σ (fun post => wX5_areSlots x0 x1 x2 σ post) :=
  ss_MI.of (cc := cX5_areSlots) (nL := 3) (ret := (some .boolean)) (own := RX5) (by decide) rfl rfl (Nat.le_of_ble_eq_true rfl) (fun post p e R s m below meth c H locs ls F hC hl hw => bX5_areSlots F  σ H locs ls hC hl hw)

set_option maxHeartbeats 4000000 in
set_option maxRecDepth 100000 in
theorem bX5_joined {x1 : Int32} {x2 : Int32} {post : Int32 → ss_S → Prop} (F : ss_F p R s m args meth c (ss_EM D A L wr cI cZ cS) cX5_joined 3 wsX5_joined RX5 (some .int) rmX5_joined)  : ∀ (σ : ss_S) (H : Heap) (locs : List Loc) (ls : Array Slot), ss_C (ss_EM D A L wr cI cZ cS) σ s H locs → lv_has ls 3 [(0, .ref (L (0))), (1, .int (x1)), (2, .int (x2))] → wX5_joined x1 x2 σ post → W p l e R s m args below meth c H locs 0 0 (MQ below (va_Qi post (ss_B (ss_EM D A L wr cI cZ cS)) A) args s 0 0 A) (F0 m 0 ls []) := by
  have hx := F.1.1
  have hb := F.1.2.1
  have u_X5 : ∀ w ∈ u_ws RX5 TX5 16, w ∈ wsX5_joined := by decide +kernel
  have f_76 : (Cond.fieldLink RX5 76 "SmallSpacesModel" "worked" "I").before args s = true := F.1.2.2.2.2 _ (by decide +kernel)
  intro σ H locs ls hC hl hw
  unfold wX5_joined at hw
  refine lv_aload_n hx hb dX5_joined_0 rfl (lv_at hl 0 rfl) ?_
  refine lv_iconst (v := 0) hx hb dX5_joined_1 (by decide) ?_
  refine ss_put (C := RX5) (T := TX5) (N := 16) (ci := 5) F hC (0) tyX5 tyX5_ok nmX5 u_X5 (Nat.le_of_ble_eq_true rfl) rfl rfl 7 (by decide) f_76 rfl (by decide +kernel) (Nat.le_of_ble_eq_true rfl) rfl dX5_joined_2 (fun H locs hC => ?_)
  refine lv_aload_n hx hb dX5_joined_5 rfl (lv_at hl 0 rfl) ?_
  refine lv_iload_n hx hb dX5_joined_6 rfl (lv_at hl 1 rfl) ?_
  refine ss_kv (ss_rV (C := RX5) (As := [.int (x1)]) (rest := []) F ((mX5_load l D A L wr cI cZ cS (u2 σ 0 7 0) x1) _) gX5_joined_X5_load rfl ⟨rfl, rfl⟩ ⟨rfl, dvX5_load⟩ ⟨Nat.le_of_ble_eq_true rfl, Nat.le_of_ble_eq_true rfl⟩ (ss_preV F.2.2.2.2.1 F.2.2.2.2.2 hC (ss_rec (C := RX5) (T := TX5) (N := 16) (ci := 5) F.2.2.2.2.1 hC (0) (Nat.le_of_ble_eq_true rfl) rfl rfl) hw) rfl hl.1 rfl (Nat.le_of_ble_eq_true rfl) dX5_joined_7 ⟨Nat.zero_le _, Nat.zero_le _⟩) hC (fun σ1 H locs hC hw => ?_)
  refine lv_aload_n hx hb dX5_joined_10 rfl (lv_at hl 0 rfl) ?_
  refine lv_iload_n hx hb dX5_joined_11 rfl (lv_at hl 2 rfl) ?_
  refine ss_kv (ss_rV (C := RX5) (As := [.int (x2)]) (rest := []) F ((mX5_load l D A L wr cI cZ cS σ1 x2) _) gX5_joined_X5_load rfl ⟨rfl, rfl⟩ ⟨rfl, dvX5_load⟩ ⟨Nat.le_of_ble_eq_true rfl, Nat.le_of_ble_eq_true rfl⟩ (ss_preV F.2.2.2.2.1 F.2.2.2.2.2 hC (ss_rec (C := RX5) (T := TX5) (N := 16) (ci := 5) F.2.2.2.2.1 hC (0) (Nat.le_of_ble_eq_true rfl) rfl rfl) hw) rfl hl.1 rfl (Nat.le_of_ble_eq_true rfl) dX5_joined_12 ⟨Nat.zero_le _, Nat.zero_le _⟩) hC (fun σ2 H locs hC hw => ?_)
  refine lv_aload_n hx hb dX5_joined_15 rfl (lv_at hl 0 rfl) ?_
  refine ss_kv (ss_rV (C := RX5) (As := []) (rest := []) F ((mX5_settle l D A L wr cI cZ cS σ2 ) _) gX5_joined_X5_settle rfl ⟨rfl, rfl⟩ ⟨rfl, dvX5_settle⟩ ⟨Nat.le_of_ble_eq_true rfl, Nat.le_of_ble_eq_true rfl⟩ (ss_preV F.2.2.2.2.1 F.2.2.2.2.2 hC (ss_rec (C := RX5) (T := TX5) (N := 16) (ci := 5) F.2.2.2.2.1 hC (0) (Nat.le_of_ble_eq_true rfl) rfl rfl) hw) rfl hl.1 rfl (Nat.le_of_ble_eq_true rfl) dX5_joined_16 ⟨Nat.zero_le _, Nat.zero_le _⟩) hC (fun σ3 H locs hC hw => ?_)
  refine lv_aload_n hx hb dX5_joined_19 rfl (lv_at hl 0 rfl) ?_
  refine ss_get (C := RX5) (T := TX5) (N := 16) (ci := 5) (v := .int (σ3 0 7)) F hC (0) u_X5 (Nat.le_of_ble_eq_true rfl) rfl rfl 7 (by decide) f_76 rfl dX5_joined_20 ?_
  exact ss_iret F hC hw dX5_joined_23

theorem mX5_joined (l : Launch) (D : va_G) (A : Nat → Prop) (L : Nat → Nat) (wr : va_W) (cI cZ cS : ClassId) (σ : ss_S) (x1 : Int32) (x2 : Int32)  : ss_MI l yX5_joined wsX5_joined rmX5_joined (ss_EM D A L wr cI cZ cS) [.ref (L (0)), .int (x1), .int (x2)] σ (fun post => wX5_joined x1 x2 σ post) :=
  ss_MI.of (cc := cX5_joined) (nL := 3) (ret := (some .int)) (own := RX5) (by decide) rfl rfl (Nat.le_of_ble_eq_true rfl) (fun post p e R s m below meth c H locs ls F hC hl hw => bX5_joined F  σ H locs ls hC hl hw)

set_option maxHeartbeats 4000000 in
set_option maxRecDepth 100000 in
theorem bX5_join {x1 : Int32} {x2 : Int32} {x3 : Int32} {post : Int32 → ss_S → Prop} (F : ss_F p R s m args meth c (ss_EM D A L wr cI cZ cS) cX5_join 4 wsX5_join RX5 (some .int) rmX5_join)  : ∀ (σ : ss_S) (H : Heap) (locs : List Loc) (ls : Array Slot), ss_C (ss_EM D A L wr cI cZ cS) σ s H locs → lv_has ls 4 [(0, .ref (L (0))), (1, .int (x1)), (2, .int (x2)), (3, .int (x3))] → wX5_join x1 x2 x3 σ post → W p l e R s m args below meth c H locs 0 0 (MQ below (va_Qi post (ss_B (ss_EM D A L wr cI cZ cS)) A) args s 0 0 A) (F0 m 0 ls []) := by
  have hx := F.1.1
  have hb := F.1.2.1
  intro σ H locs ls hC hl hw
  unfold wX5_join at hw
  refine lv_iload_n hx hb dX5_join_0 rfl (lv_at hl 1 rfl) ?_
  refine lv_iload_n hx hb dX5_join_1 rfl (lv_at hl 2 rfl) ?_
  refine lv_iload_n hx hb dX5_join_2 rfl (lv_at hl 3 rfl) ?_
  refine ss_ki (ss_rS (As := [.int (x1), .int (x2), .int (x3)]) (rest := []) F ((mX5_areSlots l D A L wr cI cZ cS σ x1 x2 x3) _) gX5_join_X5_areSlots rfl ⟨rfl, rfl⟩ dvX5_areSlots ⟨Nat.le_of_ble_eq_true rfl, Nat.le_of_ble_eq_true rfl⟩ (ss_preS F.2.2.2.2.1 F.2.2.2.2.2 hC hw) rfl hl.1 rfl (Nat.le_of_ble_eq_true rfl) dX5_join_3 ⟨Nat.zero_le _, Nat.zero_le _⟩) hC (fun r2 σ1 H locs hC hw => ?_)
  refine lv_if_ne (tgt := 12) hx hb dX5_join_6 (by decide) (fun hc => ?_) (fun hc => ?_)
  · replace hw := hw.1 hc
    refine lv_aload_n hx hb dX5_join_12 rfl (lv_at hl 0 rfl) ?_
    refine lv_iload_n hx hb dX5_join_13 rfl (lv_at hl 1 rfl) ?_
    refine lv_iload_n hx hb dX5_join_14 rfl (lv_at hl 2 rfl) ?_
    refine ss_ki (ss_rV (C := RX5) (As := [.int (x1), .int (x2)]) (rest := []) F ((mX5_joined l D A L wr cI cZ cS σ1 x1 x2) _) gX5_join_X5_joined rfl ⟨rfl, rfl⟩ ⟨rfl, dvX5_joined⟩ ⟨Nat.le_of_ble_eq_true rfl, Nat.le_of_ble_eq_true rfl⟩ (ss_preV F.2.2.2.2.1 F.2.2.2.2.2 hC (ss_rec (C := RX5) (T := TX5) (N := 16) (ci := 5) F.2.2.2.2.1 hC (0) (Nat.le_of_ble_eq_true rfl) rfl rfl) hw) rfl hl.1 rfl (Nat.le_of_ble_eq_true rfl) dX5_join_15 ⟨Nat.zero_le _, Nat.zero_le _⟩) hC (fun r4 σ3 H locs hC hw => ?_)
    refine lv_pop hx hb dX5_join_18 rfl ?_
    refine lv_aload_n hx hb dX5_join_19 rfl (lv_at hl 0 rfl) ?_
    refine lv_iload_n hx hb dX5_join_20 rfl (lv_at hl 3 rfl) ?_
    refine ss_ki (ss_rV (C := RX5) (As := [.int (x3)]) (rest := []) F ((mX5_save l D A L wr cI cZ cS σ3 x3) _) gX5_join_X5_save rfl ⟨rfl, rfl⟩ ⟨rfl, dvX5_save⟩ ⟨Nat.le_of_ble_eq_true rfl, Nat.le_of_ble_eq_true rfl⟩ (ss_preV F.2.2.2.2.1 F.2.2.2.2.2 hC (ss_rec (C := RX5) (T := TX5) (N := 16) (ci := 5) F.2.2.2.2.1 hC (0) (Nat.le_of_ble_eq_true rfl) rfl rfl) hw) rfl hl.1 rfl (Nat.le_of_ble_eq_true rfl) dX5_join_21 ⟨Nat.zero_le _, Nat.zero_le _⟩) hC (fun r6 σ5 H locs hC hw => ?_)
    exact ss_iret F hC hw dX5_join_24
  · replace hw := hw.2 hc
    refine lv_bipush (v := -101) hx hb dX5_join_9 (by decide) ?_
    exact ss_iret F hC hw dX5_join_11

theorem mX5_join (l : Launch) (D : va_G) (A : Nat → Prop) (L : Nat → Nat) (wr : va_W) (cI cZ cS : ClassId) (σ : ss_S) (x1 : Int32) (x2 : Int32) (x3 : Int32)  : ss_MI l yX5_join wsX5_join rmX5_join (ss_EM D A L wr cI cZ cS) [.ref (L (0)), .int (x1), .int (x2), .int (x3)] σ (fun post => wX5_join x1 x2 x3 σ post) :=
  ss_MI.of (cc := cX5_join) (nL := 4) (ret := (some .int)) (own := RX5) (by decide) rfl rfl (Nat.le_of_ble_eq_true rfl) (fun post p e R s m below meth c H locs ls F hC hl hw => bX5_join F  σ H locs ls hC hl hw)

set_option maxHeartbeats 4000000 in
set_option maxRecDepth 100000 in
theorem tX5_meet_35 {x2 : Int32} {x3 : Int32} {x4 : Int32} {post : Int32 → ss_S → Prop} (F : ss_F p R s m args meth c (ss_EM D A L wr cI cZ cS) cX5_meet 6 wsX5_meet RX5 (some .int) rmX5_meet)  (k62 : Int32 → ss_S → Prop) : ∀ (n : Nat) (x5 : Int32) (σ : ss_S) (H : Heap) (locs : List Loc) (ls : Array Slot), ss_C (ss_EM D A L wr cI cZ cS) σ s H locs → lv_has ls 6 [(0, .ref (L (0))), (2, .int (x2)), (3, .int (x3)), (4, .int (x4)), (5, .int (x5))] → lX5_meet_35 x2 x3 x4 post k62 n x5 σ →
    (∀ (x5 : Int32) (σ : ss_S) (H : Heap) (locs : List Loc) (ls : Array Slot), ss_C (ss_EM D A L wr cI cZ cS) σ s H locs → lv_has ls 6 [(0, .ref (L (0))), (2, .int (x2)), (3, .int (x3)), (4, .int (x4))] → k62 x5 σ → W p l e R s m args below meth c H locs 0 0 (MQ below (va_Qi post (ss_B (ss_EM D A L wr cI cZ cS)) A) args s 0 0 A) (F0 m 62 ls [])) →
    W p l e R s m args below meth c H locs 0 0 (MQ below (va_Qi post (ss_B (ss_EM D A L wr cI cZ cS)) A) args s 0 0 A) (F0 m 35 ls []) := by
  have hx := F.1.1
  have hb := F.1.2.1
  have u_X5 : ∀ w ∈ u_ws RX5 TX5 16, w ∈ wsX5_meet := by decide +kernel
  have f_26 : (Cond.fieldLink RX5 26 "SmallSpacesModel" "aside" "[I").before args s = true := F.1.2.2.2.2 _ (by decide +kernel)
  have f_13 : (Cond.fieldLink RX5 13 "SmallSpacesModel" "work" "[I").before args s = true := F.1.2.2.2.2 _ (by decide +kernel)
  intro n
  induction n with
  | zero => intro x5 σ H locs ls hC hl hw; exact hw.elim
  | succ n ih =>
    intro x5 σ H locs ls hC hl hw hk62
    refine lv_iload hx hb dX5_meet_35 (lv_at hl 4 rfl) ?_
    refine lv_iload hx hb dX5_meet_37 (lv_at hl 3 rfl) ?_
    refine lv_icmp_ge (tgt := 62) hx hb dX5_meet_39 (by decide) (fun hc => ?_) (fun hc => ?_)
    · replace hw := hw.1 hc
      exact hk62 x5 σ _ _ _ hC (lv_sub hl [0, 1, 2, 3] rfl) hw
    · replace hw := hw.2 hc
      refine lv_aload_n hx hb dX5_meet_42 rfl (lv_at hl 0 rfl) ?_
      refine ss_get (C := RX5) (T := TX5) (N := 16) (ci := 5) (v := .ref (L (6))) F hC (0) u_X5 (Nat.le_of_ble_eq_true rfl) rfl rfl 11 (by decide) f_26 rfl dX5_meet_43 ?_
      refine lv_iload hx hb dX5_meet_46 (lv_at hl 4 rfl) ?_
      refine lv_aload_n hx hb dX5_meet_48 rfl (lv_at hl 0 rfl) ?_
      refine ss_get (C := RX5) (T := TX5) (N := 16) (ci := 5) (v := .ref (L (2))) F hC (0) u_X5 (Nat.le_of_ble_eq_true rfl) rfl rfl 6 (by decide) f_13 rfl dX5_meet_49 ?_
      refine lv_iload hx hb dX5_meet_52 (lv_at hl 4 rfl) ?_
      refine ss_iald F hC (2) 0 (Nat.le_of_ble_eq_true rfl) (fun _ => rfl) rfl hw.1 dX5_meet_54 ?_
      replace hw := hw.2
      refine ss_iast F hC (6) 0 (Nat.le_of_ble_eq_true rfl) (fun _ => rfl) rfl hw.1 dX5_meet_55 (fun H locs hC => ?_)
      replace hw := hw.2
      refine lv_iinc (v := x5 + 1) (lv' := [(5, .int (x5 + 1)), (0, .ref (L (0))), (2, .int (x2)), (3, .int (x3)), (4, .int (x4))]) hx hb dX5_meet_56 hl (k := 4) rfl rfl (by decide) rfl (fun ls hl => ?_)
      refine lv_goto (tgt := 35) hx hb dX5_meet_59 (by decide) ?_
      exact ih (x5 + 1) (u2 σ 6 (Int32.toNatClampNeg x5) (σ 2 (Int32.toNatClampNeg x5))) _ _ _ hC (lv_sub hl [1, 2, 3, 4, 0] rfl) hw hk62

set_option maxHeartbeats 4000000 in
set_option maxRecDepth 100000 in
theorem tX5_meet_79 {x3 : Int32} {x4 : Int32} {post : Int32 → ss_S → Prop} (F : ss_F p R s m args meth c (ss_EM D A L wr cI cZ cS) cX5_meet 6 wsX5_meet RX5 (some .int) rmX5_meet)  (k118 : Int32 → ss_S → Prop) : ∀ (n : Nat) (x5 : Int32) (σ : ss_S) (H : Heap) (locs : List Loc) (ls : Array Slot), ss_C (ss_EM D A L wr cI cZ cS) σ s H locs → lv_has ls 6 [(0, .ref (L (0))), (3, .int (x3)), (4, .int (x4)), (5, .int (x5))] → lX5_meet_79 x3 x4 post k118 n x5 σ →
    (∀ (x5 : Int32) (σ : ss_S) (H : Heap) (locs : List Loc) (ls : Array Slot), ss_C (ss_EM D A L wr cI cZ cS) σ s H locs → lv_has ls 6 [(0, .ref (L (0))), (3, .int (x3))] → k118 x5 σ → W p l e R s m args below meth c H locs 0 0 (MQ below (va_Qi post (ss_B (ss_EM D A L wr cI cZ cS)) A) args s 0 0 A) (F0 m 118 ls [])) →
    W p l e R s m args below meth c H locs 0 0 (MQ below (va_Qi post (ss_B (ss_EM D A L wr cI cZ cS)) A) args s 0 0 A) (F0 m 79 ls []) := by
  have hx := F.1.1
  have hb := F.1.2.1
  have u_X5 : ∀ w ∈ u_ws RX5 TX5 16, w ∈ wsX5_meet := by decide +kernel
  have f_13 : (Cond.fieldLink RX5 13 "SmallSpacesModel" "work" "[I").before args s = true := F.1.2.2.2.2 _ (by decide +kernel)
  have f_76 : (Cond.fieldLink RX5 76 "SmallSpacesModel" "worked" "I").before args s = true := F.1.2.2.2.2 _ (by decide +kernel)
  have f_26 : (Cond.fieldLink RX5 26 "SmallSpacesModel" "aside" "[I").before args s = true := F.1.2.2.2.2 _ (by decide +kernel)
  intro n
  induction n with
  | zero => intro x5 σ H locs ls hC hl hw; exact hw.elim
  | succ n ih =>
    intro x5 σ H locs ls hC hl hw hk118
    refine lv_iload hx hb dX5_meet_79 (lv_at hl 3 rfl) ?_
    refine lv_iload hx hb dX5_meet_81 (lv_at hl 2 rfl) ?_
    refine lv_icmp_ge (tgt := 118) hx hb dX5_meet_83 (by decide) (fun hc => ?_) (fun hc => ?_)
    · replace hw := hw.1 hc
      exact hk118 x5 σ _ _ _ hC (lv_sub hl [0, 1] rfl) hw
    · replace hw := hw.2 hc
      refine lv_aload_n hx hb dX5_meet_86 rfl (lv_at hl 0 rfl) ?_
      refine ss_get (C := RX5) (T := TX5) (N := 16) (ci := 5) (v := .ref (L (2))) F hC (0) u_X5 (Nat.le_of_ble_eq_true rfl) rfl rfl 6 (by decide) f_13 rfl dX5_meet_87 ?_
      refine lv_aload_n hx hb dX5_meet_90 rfl (lv_at hl 0 rfl) ?_
      refine ss_get (C := RX5) (T := TX5) (N := 16) (ci := 5) (v := .int (σ 0 7)) F hC (0) u_X5 (Nat.le_of_ble_eq_true rfl) rfl rfl 7 (by decide) f_76 rfl dX5_meet_91 ?_
      refine lv_aload_n hx hb dX5_meet_94 rfl (lv_at hl 0 rfl) ?_
      refine ss_get (C := RX5) (T := TX5) (N := 16) (ci := 5) (v := .ref (L (6))) F hC (0) u_X5 (Nat.le_of_ble_eq_true rfl) rfl rfl 11 (by decide) f_26 rfl dX5_meet_95 ?_
      refine lv_iload hx hb dX5_meet_98 (lv_at hl 3 rfl) ?_
      refine ss_iald F hC (6) 0 (Nat.le_of_ble_eq_true rfl) (fun _ => rfl) rfl hw.1 dX5_meet_100 ?_
      replace hw := hw.2
      refine ss_iast F hC (2) 0 (Nat.le_of_ble_eq_true rfl) (fun _ => rfl) rfl hw.1 dX5_meet_101 (fun H locs hC => ?_)
      replace hw := hw.2
      refine lv_aload_n hx hb dX5_meet_102 rfl (lv_at hl 0 rfl) ?_
      refine lv_dup hx hb dX5_meet_103 rfl ?_
      refine ss_get (C := RX5) (T := TX5) (N := 16) (ci := 5) (v := .int ((u2 σ 2 (Int32.toNatClampNeg (σ 0 7)) (σ 6 (Int32.toNatClampNeg x5))) 0 7)) F hC (0) u_X5 (Nat.le_of_ble_eq_true rfl) rfl rfl 7 (by decide) f_76 rfl dX5_meet_104 ?_
      refine lv_iconst (v := 1) hx hb dX5_meet_107 (by decide) ?_
      refine lv_iadd hx hb dX5_meet_108 ?_
      refine ss_put (C := RX5) (T := TX5) (N := 16) (ci := 5) F hC (0) tyX5 tyX5_ok nmX5 u_X5 (Nat.le_of_ble_eq_true rfl) rfl rfl 7 (by decide) f_76 rfl (by decide +kernel) (Nat.le_of_ble_eq_true rfl) rfl dX5_meet_109 (fun H locs hC => ?_)
      refine lv_iinc (v := x5 + 1) (lv' := [(5, .int (x5 + 1)), (0, .ref (L (0))), (3, .int (x3)), (4, .int (x4))]) hx hb dX5_meet_112 hl (k := 3) rfl rfl (by decide) rfl (fun ls hl => ?_)
      refine lv_goto (tgt := 79) hx hb dX5_meet_115 (by decide) ?_
      exact ih (x5 + 1) (u2 (u2 σ 2 (Int32.toNatClampNeg (σ 0 7)) (σ 6 (Int32.toNatClampNeg x5))) 0 7 (((u2 σ 2 (Int32.toNatClampNeg (σ 0 7)) (σ 6 (Int32.toNatClampNeg x5))) 0 7) + 1)) _ _ _ hC (lv_sub hl [1, 2, 3, 0] rfl) hw hk118

set_option maxHeartbeats 4000000 in
set_option maxRecDepth 100000 in
theorem bX5_meet {x1 : Int32} {x2 : Int32} {x3 : Int32} {post : Int32 → ss_S → Prop} (F : ss_F p R s m args meth c (ss_EM D A L wr cI cZ cS) cX5_meet 6 wsX5_meet RX5 (some .int) rmX5_meet)  : ∀ (σ : ss_S) (H : Heap) (locs : List Loc) (ls : Array Slot), ss_C (ss_EM D A L wr cI cZ cS) σ s H locs → lv_has ls 6 [(0, .ref (L (0))), (1, .int (x1)), (2, .int (x2)), (3, .int (x3))] → wX5_meet x1 x2 x3 σ post → W p l e R s m args below meth c H locs 0 0 (MQ below (va_Qi post (ss_B (ss_EM D A L wr cI cZ cS)) A) args s 0 0 A) (F0 m 0 ls []) := by
  have hx := F.1.1
  have hb := F.1.2.1
  have u_X5 : ∀ w ∈ u_ws RX5 TX5 16, w ∈ wsX5_meet := by decide +kernel
  have f_76 : (Cond.fieldLink RX5 76 "SmallSpacesModel" "worked" "I").before args s = true := F.1.2.2.2.2 _ (by decide +kernel)
  intro σ H locs ls hC hl hw
  unfold wX5_meet at hw
  refine lv_iload_n hx hb dX5_meet_0 rfl (lv_at hl 1 rfl) ?_
  refine lv_iload_n hx hb dX5_meet_1 rfl (lv_at hl 2 rfl) ?_
  refine lv_iload_n hx hb dX5_meet_2 rfl (lv_at hl 3 rfl) ?_
  refine ss_ki (ss_rS (As := [.int (x1), .int (x2), .int (x3)]) (rest := []) F ((mX5_areSlots l D A L wr cI cZ cS σ x1 x2 x3) _) gX5_meet_X5_areSlots rfl ⟨rfl, rfl⟩ dvX5_areSlots ⟨Nat.le_of_ble_eq_true rfl, Nat.le_of_ble_eq_true rfl⟩ (ss_preS F.2.2.2.2.1 F.2.2.2.2.2 hC hw) rfl hl.1 rfl (Nat.le_of_ble_eq_true rfl) dX5_meet_3 ⟨Nat.zero_le _, Nat.zero_le _⟩) hC (fun r2 σ1 H locs hC hw => ?_)
  refine lv_if_ne (tgt := 12) hx hb dX5_meet_6 (by decide) (fun hc => ?_) (fun hc => ?_)
  · replace hw := hw.1 hc
    refine lv_aload_n hx hb dX5_meet_12 rfl (lv_at hl 0 rfl) ?_
    refine lv_iconst (v := 0) hx hb dX5_meet_13 (by decide) ?_
    refine ss_put (C := RX5) (T := TX5) (N := 16) (ci := 5) F hC (0) tyX5 tyX5_ok nmX5 u_X5 (Nat.le_of_ble_eq_true rfl) rfl rfl 7 (by decide) f_76 rfl (by decide +kernel) (Nat.le_of_ble_eq_true rfl) rfl dX5_meet_14 (fun H locs hC => ?_)
    refine lv_aload_n hx hb dX5_meet_17 rfl (lv_at hl 0 rfl) ?_
    refine lv_iload_n hx hb dX5_meet_18 rfl (lv_at hl 1 rfl) ?_
    refine ss_kv (ss_rV (C := RX5) (As := [.int (x1)]) (rest := []) F ((mX5_load l D A L wr cI cZ cS (u2 σ1 0 7 0) x1) _) gX5_meet_X5_load rfl ⟨rfl, rfl⟩ ⟨rfl, dvX5_load⟩ ⟨Nat.le_of_ble_eq_true rfl, Nat.le_of_ble_eq_true rfl⟩ (ss_preV F.2.2.2.2.1 F.2.2.2.2.2 hC (ss_rec (C := RX5) (T := TX5) (N := 16) (ci := 5) F.2.2.2.2.1 hC (0) (Nat.le_of_ble_eq_true rfl) rfl rfl) hw) rfl hl.1 rfl (Nat.le_of_ble_eq_true rfl) dX5_meet_19 ⟨Nat.zero_le _, Nat.zero_le _⟩) hC (fun σ3 H locs hC hw => ?_)
    refine lv_aload_n hx hb dX5_meet_22 rfl (lv_at hl 0 rfl) ?_
    refine ss_kv (ss_rV (C := RX5) (As := []) (rest := []) F ((mX5_turn l D A L wr cI cZ cS σ3 ) _) gX5_meet_X5_turn rfl ⟨rfl, rfl⟩ ⟨rfl, dvX5_turn⟩ ⟨Nat.le_of_ble_eq_true rfl, Nat.le_of_ble_eq_true rfl⟩ (ss_preV F.2.2.2.2.1 F.2.2.2.2.2 hC (ss_rec (C := RX5) (T := TX5) (N := 16) (ci := 5) F.2.2.2.2.1 hC (0) (Nat.le_of_ble_eq_true rfl) rfl rfl) hw) rfl hl.1 rfl (Nat.le_of_ble_eq_true rfl) dX5_meet_23 ⟨Nat.zero_le _, Nat.zero_le _⟩) hC (fun σ4 H locs hC hw => ?_)
    refine lv_aload_n hx hb dX5_meet_26 rfl (lv_at hl 0 rfl) ?_
    refine ss_get (C := RX5) (T := TX5) (N := 16) (ci := 5) (v := .int (σ4 0 7)) F hC (0) u_X5 (Nat.le_of_ble_eq_true rfl) rfl rfl 7 (by decide) f_76 rfl dX5_meet_27 ?_
    refine lv_istore (lv' := [(4, .int (σ4 0 7)), (0, .ref (L (0))), (1, .int (x1)), (2, .int (x2)), (3, .int (x3))]) hx hb dX5_meet_30 hl (by decide) rfl (fun ls hl => ?_)
    refine lv_iconst (v := 0) hx hb dX5_meet_32 (by decide) ?_
    refine lv_istore (lv' := [(5, .int (0)), (4, .int (σ4 0 7)), (0, .ref (L (0))), (1, .int (x1)), (2, .int (x2)), (3, .int (x3))]) hx hb dX5_meet_33 hl (by decide) rfl (fun ls hl => ?_)
    obtain ⟨n_, hw⟩ := hw
    refine tX5_meet_35 F  _ n_ 0 σ4 _ _ _ hC (lv_sub hl [2, 4, 5, 1, 0] rfl) hw ?_
    · intro x5_5 σ_5 H locs ls hC hl hw
      refine lv_aload_n hx hb dX5_meet_62 rfl (lv_at hl 0 rfl) ?_
      refine lv_iconst (v := 0) hx hb dX5_meet_63 (by decide) ?_
      refine ss_put (C := RX5) (T := TX5) (N := 16) (ci := 5) F hC (0) tyX5 tyX5_ok nmX5 u_X5 (Nat.le_of_ble_eq_true rfl) rfl rfl 7 (by decide) f_76 rfl (by decide +kernel) (Nat.le_of_ble_eq_true rfl) rfl dX5_meet_64 (fun H locs hC => ?_)
      refine lv_aload_n hx hb dX5_meet_67 rfl (lv_at hl 0 rfl) ?_
      refine lv_iload_n hx hb dX5_meet_68 rfl (lv_at hl 1 rfl) ?_
      refine ss_kv (ss_rV (C := RX5) (As := [.int (x2)]) (rest := []) F ((mX5_load l D A L wr cI cZ cS (u2 σ_5 0 7 0) x2) _) gX5_meet_X5_load rfl ⟨rfl, rfl⟩ ⟨rfl, dvX5_load⟩ ⟨Nat.le_of_ble_eq_true rfl, Nat.le_of_ble_eq_true rfl⟩ (ss_preV F.2.2.2.2.1 F.2.2.2.2.2 hC (ss_rec (C := RX5) (T := TX5) (N := 16) (ci := 5) F.2.2.2.2.1 hC (0) (Nat.le_of_ble_eq_true rfl) rfl rfl) hw) rfl hl.1 rfl (Nat.le_of_ble_eq_true rfl) dX5_meet_69 ⟨Nat.zero_le _, Nat.zero_le _⟩) hC (fun σ6 H locs hC hw => ?_)
      refine lv_aload_n hx hb dX5_meet_72 rfl (lv_at hl 0 rfl) ?_
      refine ss_kv (ss_rV (C := RX5) (As := []) (rest := []) F ((mX5_turn l D A L wr cI cZ cS σ6 ) _) gX5_meet_X5_turn rfl ⟨rfl, rfl⟩ ⟨rfl, dvX5_turn⟩ ⟨Nat.le_of_ble_eq_true rfl, Nat.le_of_ble_eq_true rfl⟩ (ss_preV F.2.2.2.2.1 F.2.2.2.2.2 hC (ss_rec (C := RX5) (T := TX5) (N := 16) (ci := 5) F.2.2.2.2.1 hC (0) (Nat.le_of_ble_eq_true rfl) rfl rfl) hw) rfl hl.1 rfl (Nat.le_of_ble_eq_true rfl) dX5_meet_73 ⟨Nat.zero_le _, Nat.zero_le _⟩) hC (fun σ7 H locs hC hw => ?_)
      refine lv_iconst (v := 0) hx hb dX5_meet_76 (by decide) ?_
      refine lv_istore (lv' := [(5, .int (0)), (0, .ref (L (0))), (2, .int (x2)), (3, .int (x3)), (4, .int (σ4 0 7))]) hx hb dX5_meet_77 hl (by decide) rfl (fun ls hl => ?_)
      obtain ⟨n_, hw⟩ := hw
      refine tX5_meet_79 F  _ n_ 0 σ7 _ _ _ hC (lv_sub hl [1, 3, 4, 0] rfl) hw ?_
      · intro x5_8 σ_8 H locs ls hC hl hw
        refine lv_aload_n hx hb dX5_meet_118 rfl (lv_at hl 0 rfl) ?_
        refine ss_kv (ss_rV (C := RX5) (As := []) (rest := []) F ((mX5_settle l D A L wr cI cZ cS σ_8 ) _) gX5_meet_X5_settle rfl ⟨rfl, rfl⟩ ⟨rfl, dvX5_settle⟩ ⟨Nat.le_of_ble_eq_true rfl, Nat.le_of_ble_eq_true rfl⟩ (ss_preV F.2.2.2.2.1 F.2.2.2.2.2 hC (ss_rec (C := RX5) (T := TX5) (N := 16) (ci := 5) F.2.2.2.2.1 hC (0) (Nat.le_of_ble_eq_true rfl) rfl rfl) hw) rfl hl.1 rfl (Nat.le_of_ble_eq_true rfl) dX5_meet_119 ⟨Nat.zero_le _, Nat.zero_le _⟩) hC (fun σ9 H locs hC hw => ?_)
        refine lv_aload_n hx hb dX5_meet_122 rfl (lv_at hl 0 rfl) ?_
        refine ss_kv (ss_rV (C := RX5) (As := []) (rest := []) F ((mX5_turn l D A L wr cI cZ cS σ9 ) _) gX5_meet_X5_turn rfl ⟨rfl, rfl⟩ ⟨rfl, dvX5_turn⟩ ⟨Nat.le_of_ble_eq_true rfl, Nat.le_of_ble_eq_true rfl⟩ (ss_preV F.2.2.2.2.1 F.2.2.2.2.2 hC (ss_rec (C := RX5) (T := TX5) (N := 16) (ci := 5) F.2.2.2.2.1 hC (0) (Nat.le_of_ble_eq_true rfl) rfl rfl) hw) rfl hl.1 rfl (Nat.le_of_ble_eq_true rfl) dX5_meet_123 ⟨Nat.zero_le _, Nat.zero_le _⟩) hC (fun σ10 H locs hC hw => ?_)
        refine lv_aload_n hx hb dX5_meet_126 rfl (lv_at hl 0 rfl) ?_
        refine lv_iload_n hx hb dX5_meet_127 rfl (lv_at hl 1 rfl) ?_
        refine ss_ki (ss_rV (C := RX5) (As := [.int (x3)]) (rest := []) F ((mX5_save l D A L wr cI cZ cS σ10 x3) _) gX5_meet_X5_save rfl ⟨rfl, rfl⟩ ⟨rfl, dvX5_save⟩ ⟨Nat.le_of_ble_eq_true rfl, Nat.le_of_ble_eq_true rfl⟩ (ss_preV F.2.2.2.2.1 F.2.2.2.2.2 hC (ss_rec (C := RX5) (T := TX5) (N := 16) (ci := 5) F.2.2.2.2.1 hC (0) (Nat.le_of_ble_eq_true rfl) rfl rfl) hw) rfl hl.1 rfl (Nat.le_of_ble_eq_true rfl) dX5_meet_128 ⟨Nat.zero_le _, Nat.zero_le _⟩) hC (fun r12 σ11 H locs hC hw => ?_)
        exact ss_iret F hC hw dX5_meet_131
  · replace hw := hw.2 hc
    refine lv_bipush (v := -101) hx hb dX5_meet_9 (by decide) ?_
    exact ss_iret F hC hw dX5_meet_11

theorem mX5_meet (l : Launch) (D : va_G) (A : Nat → Prop) (L : Nat → Nat) (wr : va_W) (cI cZ cS : ClassId) (σ : ss_S) (x1 : Int32) (x2 : Int32) (x3 : Int32)  : ss_MI l yX5_meet wsX5_meet rmX5_meet (ss_EM D A L wr cI cZ cS) [.ref (L (0)), .int (x1), .int (x2), .int (x3)] σ (fun post => wX5_meet x1 x2 x3 σ post) :=
  ss_MI.of (cc := cX5_meet) (nL := 6) (ret := (some .int)) (own := RX5) (by decide) rfl rfl (Nat.le_of_ble_eq_true rfl) (fun post p e R s m below meth c H locs ls F hC hl hw => bX5_meet F  σ H locs ls hC hl hw)

set_option maxHeartbeats 4000000 in
set_option maxRecDepth 100000 in
theorem bX5_dual {x1 : Int32} {x2 : Int32} {post : Int32 → ss_S → Prop} (F : ss_F p R s m args meth c (ss_EM D A L wr cI cZ cS) cX5_dual 3 wsX5_dual RX5 (some .int) rmX5_dual)  : ∀ (σ : ss_S) (H : Heap) (locs : List Loc) (ls : Array Slot), ss_C (ss_EM D A L wr cI cZ cS) σ s H locs → lv_has ls 3 [(0, .ref (L (0))), (1, .int (x1)), (2, .int (x2))] → wX5_dual x1 x2 σ post → W p l e R s m args below meth c H locs 0 0 (MQ below (va_Qi post (ss_B (ss_EM D A L wr cI cZ cS)) A) args s 0 0 A) (F0 m 0 ls []) := by
  have hx := F.1.1
  have hb := F.1.2.1
  have u_X5 : ∀ w ∈ u_ws RX5 TX5 16, w ∈ wsX5_dual := by decide +kernel
  have f_76 : (Cond.fieldLink RX5 76 "SmallSpacesModel" "worked" "I").before args s = true := F.1.2.2.2.2 _ (by decide +kernel)
  intro σ H locs ls hC hl hw
  unfold wX5_dual at hw
  refine lv_iload_n hx hb dX5_dual_0 rfl (lv_at hl 1 rfl) ?_
  refine lv_iload_n hx hb dX5_dual_1 rfl (lv_at hl 1 rfl) ?_
  refine lv_iload_n hx hb dX5_dual_2 rfl (lv_at hl 2 rfl) ?_
  refine ss_ki (ss_rS (As := [.int (x1), .int (x1), .int (x2)]) (rest := []) F ((mX5_areSlots l D A L wr cI cZ cS σ x1 x1 x2) _) gX5_dual_X5_areSlots rfl ⟨rfl, rfl⟩ dvX5_areSlots ⟨Nat.le_of_ble_eq_true rfl, Nat.le_of_ble_eq_true rfl⟩ (ss_preS F.2.2.2.2.1 F.2.2.2.2.2 hC hw) rfl hl.1 rfl (Nat.le_of_ble_eq_true rfl) dX5_dual_3 ⟨Nat.zero_le _, Nat.zero_le _⟩) hC (fun r2 σ1 H locs hC hw => ?_)
  refine lv_if_ne (tgt := 12) hx hb dX5_dual_6 (by decide) (fun hc => ?_) (fun hc => ?_)
  · replace hw := hw.1 hc
    refine lv_aload_n hx hb dX5_dual_12 rfl (lv_at hl 0 rfl) ?_
    refine lv_iconst (v := 0) hx hb dX5_dual_13 (by decide) ?_
    refine ss_put (C := RX5) (T := TX5) (N := 16) (ci := 5) F hC (0) tyX5 tyX5_ok nmX5 u_X5 (Nat.le_of_ble_eq_true rfl) rfl rfl 7 (by decide) f_76 rfl (by decide +kernel) (Nat.le_of_ble_eq_true rfl) rfl dX5_dual_14 (fun H locs hC => ?_)
    refine lv_aload_n hx hb dX5_dual_17 rfl (lv_at hl 0 rfl) ?_
    refine lv_iload_n hx hb dX5_dual_18 rfl (lv_at hl 1 rfl) ?_
    refine ss_kv (ss_rV (C := RX5) (As := [.int (x1)]) (rest := []) F ((mX5_load l D A L wr cI cZ cS (u2 σ1 0 7 0) x1) _) gX5_dual_X5_load rfl ⟨rfl, rfl⟩ ⟨rfl, dvX5_load⟩ ⟨Nat.le_of_ble_eq_true rfl, Nat.le_of_ble_eq_true rfl⟩ (ss_preV F.2.2.2.2.1 F.2.2.2.2.2 hC (ss_rec (C := RX5) (T := TX5) (N := 16) (ci := 5) F.2.2.2.2.1 hC (0) (Nat.le_of_ble_eq_true rfl) rfl rfl) hw) rfl hl.1 rfl (Nat.le_of_ble_eq_true rfl) dX5_dual_19 ⟨Nat.zero_le _, Nat.zero_le _⟩) hC (fun σ3 H locs hC hw => ?_)
    refine lv_aload_n hx hb dX5_dual_22 rfl (lv_at hl 0 rfl) ?_
    refine ss_kv (ss_rV (C := RX5) (As := []) (rest := []) F ((mX5_turn l D A L wr cI cZ cS σ3 ) _) gX5_dual_X5_turn rfl ⟨rfl, rfl⟩ ⟨rfl, dvX5_turn⟩ ⟨Nat.le_of_ble_eq_true rfl, Nat.le_of_ble_eq_true rfl⟩ (ss_preV F.2.2.2.2.1 F.2.2.2.2.2 hC (ss_rec (C := RX5) (T := TX5) (N := 16) (ci := 5) F.2.2.2.2.1 hC (0) (Nat.le_of_ble_eq_true rfl) rfl rfl) hw) rfl hl.1 rfl (Nat.le_of_ble_eq_true rfl) dX5_dual_23 ⟨Nat.zero_le _, Nat.zero_le _⟩) hC (fun σ4 H locs hC hw => ?_)
    refine lv_aload_n hx hb dX5_dual_26 rfl (lv_at hl 0 rfl) ?_
    refine lv_iload_n hx hb dX5_dual_27 rfl (lv_at hl 2 rfl) ?_
    refine ss_ki (ss_rV (C := RX5) (As := [.int (x2)]) (rest := []) F ((mX5_save l D A L wr cI cZ cS σ4 x2) _) gX5_dual_X5_save rfl ⟨rfl, rfl⟩ ⟨rfl, dvX5_save⟩ ⟨Nat.le_of_ble_eq_true rfl, Nat.le_of_ble_eq_true rfl⟩ (ss_preV F.2.2.2.2.1 F.2.2.2.2.2 hC (ss_rec (C := RX5) (T := TX5) (N := 16) (ci := 5) F.2.2.2.2.1 hC (0) (Nat.le_of_ble_eq_true rfl) rfl rfl) hw) rfl hl.1 rfl (Nat.le_of_ble_eq_true rfl) dX5_dual_28 ⟨Nat.zero_le _, Nat.zero_le _⟩) hC (fun r6 σ5 H locs hC hw => ?_)
    exact ss_iret F hC hw dX5_dual_31
  · replace hw := hw.2 hc
    refine lv_bipush (v := -101) hx hb dX5_dual_9 (by decide) ?_
    exact ss_iret F hC hw dX5_dual_11

theorem mX5_dual (l : Launch) (D : va_G) (A : Nat → Prop) (L : Nat → Nat) (wr : va_W) (cI cZ cS : ClassId) (σ : ss_S) (x1 : Int32) (x2 : Int32)  : ss_MI l yX5_dual wsX5_dual rmX5_dual (ss_EM D A L wr cI cZ cS) [.ref (L (0)), .int (x1), .int (x2)] σ (fun post => wX5_dual x1 x2 σ post) :=
  ss_MI.of (cc := cX5_dual) (nL := 3) (ret := (some .int)) (own := RX5) (by decide) rfl rfl (Nat.le_of_ble_eq_true rfl) (fun post p e R s m below meth c H locs ls F hC hl hw => bX5_dual F  σ H locs ls hC hl hw)

set_option maxHeartbeats 4000000 in
set_option maxRecDepth 100000 in
theorem tX5_holds_5 {x1 : Int32} {post : Int32 → ss_S → Prop} (F : ss_F p R s m args meth c (ss_EM D A L wr cI cZ cS) cX5_holds 6 wsX5_holds RX5 (some .boolean) rmX5_holds)  (k75 : Int32 → Int32 → ss_S → Prop) : ∀ (n : Nat) (x3 : Int32) (x4 : Int32) (σ : ss_S) (H : Heap) (locs : List Loc) (ls : Array Slot), ss_C (ss_EM D A L wr cI cZ cS) σ s H locs → lv_has ls 6 [(0, .ref (L (0))), (1, .int (x1)), (3, .int (x3)), (4, .int (x4))] → lX5_holds_5 x1 post k75 n x3 x4 σ →
    (∀ (x3 : Int32) (x4 : Int32) (σ : ss_S) (H : Heap) (locs : List Loc) (ls : Array Slot), ss_C (ss_EM D A L wr cI cZ cS) σ s H locs → lv_has ls 6 [(3, .int (x3))] → k75 x3 x4 σ → W p l e R s m args below meth c H locs 0 0 (MQ below (va_Qi post (ss_B (ss_EM D A L wr cI cZ cS)) A) args s 0 0 A) (F0 m 75 ls [])) →
    W p l e R s m args below meth c H locs 0 0 (MQ below (va_Qi post (ss_B (ss_EM D A L wr cI cZ cS)) A) args s 0 0 A) (F0 m 5 ls []) := by
  have hx := F.1.1
  have hb := F.1.2.1
  have u_X5 : ∀ w ∈ u_ws RX5 TX5 16, w ∈ wsX5_holds := by decide +kernel
  have f_20 : (Cond.fieldLink RX5 20 "SmallSpacesModel" "dims" "[I").before args s = true := F.1.2.2.2.2 _ (by decide +kernel)
  have f_23 : (Cond.fieldLink RX5 23 "SmallSpacesModel" "rows" "[I").before args s = true := F.1.2.2.2.2 _ (by decide +kernel)
  have f_38 : (Cond.fieldLink RX5 38 "SmallSpacesModel" "q" "I").before args s = true := F.1.2.2.2.2 _ (by decide +kernel)
  intro n
  induction n with
  | zero => intro x3 x4 σ H locs ls hC hl hw; exact hw.elim
  | succ n ih =>
    intro x3 x4 σ H locs ls hC hl hw hk75
    refine lv_iload hx hb dX5_holds_5 (lv_at hl 3 rfl) ?_
    refine lv_aload_n hx hb dX5_holds_7 rfl (lv_at hl 0 rfl) ?_
    refine ss_get (C := RX5) (T := TX5) (N := 16) (ci := 5) (v := .ref (L (4))) F hC (0) u_X5 (Nat.le_of_ble_eq_true rfl) rfl rfl 9 (by decide) f_20 rfl dX5_holds_8 ?_
    refine lv_iload_n hx hb dX5_holds_11 rfl (lv_at hl 1 rfl) ?_
    refine ss_iald F hC (4) 0 (Nat.le_of_ble_eq_true rfl) (fun _ => rfl) rfl hw.1 dX5_holds_12 ?_
    replace hw := hw.2
    refine lv_icmp_ge (tgt := 75) hx hb dX5_holds_13 (by decide) (fun hc => ?_) (fun hc => ?_)
    · replace hw := hw.1 hc
      exact hk75 x3 x4 σ _ _ _ hC (lv_sub hl [2] rfl) hw
    · replace hw := hw.2 hc
      refine lv_aload_n hx hb dX5_holds_16 rfl (lv_at hl 0 rfl) ?_
      refine lv_iload_n hx hb dX5_holds_17 rfl (lv_at hl 2 rfl) ?_
      refine lv_aload_n hx hb dX5_holds_18 rfl (lv_at hl 0 rfl) ?_
      refine lv_aload_n hx hb dX5_holds_19 rfl (lv_at hl 0 rfl) ?_
      refine ss_get (C := RX5) (T := TX5) (N := 16) (ci := 5) (v := .ref (L (5))) F hC (0) u_X5 (Nat.le_of_ble_eq_true rfl) rfl rfl 10 (by decide) f_23 rfl dX5_holds_20 ?_
      refine lv_bipush (v := 6) hx hb dX5_holds_23 (by decide) ?_
      refine lv_iload_n hx hb dX5_holds_25 rfl (lv_at hl 1 rfl) ?_
      refine lv_imul hx hb dX5_holds_26 ?_
      refine lv_iload hx hb dX5_holds_27 (lv_at hl 3 rfl) ?_
      refine lv_iadd hx hb dX5_holds_29 ?_
      refine ss_iald F hC (5) 0 (Nat.le_of_ble_eq_true rfl) (fun _ => rfl) rfl hw.1 dX5_holds_30 ?_
      replace hw := hw.2
      refine ss_ki (ss_rV (C := RX5) (As := [.int (σ 5 (Int32.toNatClampNeg ((6 * x1) + x4)))]) (rest := [.int (x3), .ref (L (0))]) F ((mX5_pivot l D A L wr cI cZ cS σ (σ 5 (Int32.toNatClampNeg ((6 * x1) + x4)))) _) gX5_holds_X5_pivot rfl ⟨rfl, rfl⟩ ⟨rfl, dvX5_pivot⟩ ⟨Nat.le_of_ble_eq_true rfl, Nat.le_of_ble_eq_true rfl⟩ (ss_preV F.2.2.2.2.1 F.2.2.2.2.2 hC (ss_rec (C := RX5) (T := TX5) (N := 16) (ci := 5) F.2.2.2.2.1 hC (0) (Nat.le_of_ble_eq_true rfl) rfl rfl) hw) rfl hl.1 rfl (Nat.le_of_ble_eq_true rfl) dX5_holds_31 ⟨Nat.zero_le _, Nat.zero_le _⟩) hC (fun r2 σ1 H locs hC hw => ?_)
      refine ss_ki (ss_rV (C := RX5) (As := [.int (x3), .int (r2)]) (rest := []) F ((mX5_figure l D A L wr cI cZ cS σ1 x3 r2) _) gX5_holds_X5_figure rfl ⟨rfl, rfl⟩ ⟨rfl, dvX5_figure⟩ ⟨Nat.le_of_ble_eq_true rfl, Nat.le_of_ble_eq_true rfl⟩ (ss_preV F.2.2.2.2.1 F.2.2.2.2.2 hC (ss_rec (C := RX5) (T := TX5) (N := 16) (ci := 5) F.2.2.2.2.1 hC (0) (Nat.le_of_ble_eq_true rfl) rfl rfl) hw) rfl hl.1 rfl (Nat.le_of_ble_eq_true rfl) dX5_holds_34 ⟨Nat.zero_le _, Nat.zero_le _⟩) hC (fun r4 σ3 H locs hC hw => ?_)
      refine lv_istore (lv' := [(5, .int (r4)), (0, .ref (L (0))), (1, .int (x1)), (3, .int (x3)), (4, .int (x4))]) hx hb dX5_holds_37 hl (by decide) rfl (fun ls hl => ?_)
      refine lv_aload_n hx hb dX5_holds_39 rfl (lv_at hl 1 rfl) ?_
      refine lv_iload_n hx hb dX5_holds_40 rfl (lv_at hl 3 rfl) ?_
      refine lv_aload_n hx hb dX5_holds_41 rfl (lv_at hl 1 rfl) ?_
      refine ss_get (C := RX5) (T := TX5) (N := 16) (ci := 5) (v := .ref (L (5))) F hC (0) u_X5 (Nat.le_of_ble_eq_true rfl) rfl rfl 10 (by decide) f_23 rfl dX5_holds_42 ?_
      refine lv_bipush (v := 6) hx hb dX5_holds_45 (by decide) ?_
      refine lv_iload_n hx hb dX5_holds_47 rfl (lv_at hl 2 rfl) ?_
      refine lv_imul hx hb dX5_holds_48 ?_
      refine lv_iload hx hb dX5_holds_49 (lv_at hl 4 rfl) ?_
      refine lv_iadd hx hb dX5_holds_51 ?_
      refine ss_iald F hC (5) 0 (Nat.le_of_ble_eq_true rfl) (fun _ => rfl) rfl hw.1 dX5_holds_52 ?_
      replace hw := hw.2
      refine lv_aload_n hx hb dX5_holds_53 rfl (lv_at hl 1 rfl) ?_
      refine ss_get (C := RX5) (T := TX5) (N := 16) (ci := 5) (v := .int (σ3 0 0)) F hC (0) u_X5 (Nat.le_of_ble_eq_true rfl) rfl rfl 0 (by decide) f_38 rfl dX5_holds_54 ?_
      refine lv_iload hx hb dX5_holds_57 (lv_at hl 0 rfl) ?_
      refine lv_isub hx hb dX5_holds_59 ?_
      refine lv_aload_n hx hb dX5_holds_60 rfl (lv_at hl 1 rfl) ?_
      refine ss_get (C := RX5) (T := TX5) (N := 16) (ci := 5) (v := .int (σ3 0 0)) F hC (0) u_X5 (Nat.le_of_ble_eq_true rfl) rfl rfl 0 (by decide) f_38 rfl dX5_holds_61 ?_
      refine lv_irem hx hb dX5_holds_64 hw.1 ?_
      replace hw := hw.2
      refine ss_ki (ss_rV (C := RX5) (As := [.int (x3), .int (σ3 5 (Int32.toNatClampNeg ((6 * x1) + x4))), .int (((σ3 0 0) - r4) - ((σ3 0 0) - r4) / (σ3 0 0) * (σ3 0 0))]) (rest := []) F ((mX5_sum l D A L wr cI cZ cS σ3 x3 (σ3 5 (Int32.toNatClampNeg ((6 * x1) + x4))) (((σ3 0 0) - r4) - ((σ3 0 0) - r4) / (σ3 0 0) * (σ3 0 0))) _) gX5_holds_X5_sum rfl ⟨rfl, rfl⟩ ⟨rfl, dvX5_sum⟩ ⟨Nat.le_of_ble_eq_true rfl, Nat.le_of_ble_eq_true rfl⟩ (ss_preV F.2.2.2.2.1 F.2.2.2.2.2 hC (ss_rec (C := RX5) (T := TX5) (N := 16) (ci := 5) F.2.2.2.2.1 hC (0) (Nat.le_of_ble_eq_true rfl) rfl rfl) hw) rfl hl.1 rfl (Nat.le_of_ble_eq_true rfl) dX5_holds_65 ⟨Nat.zero_le _, Nat.zero_le _⟩) hC (fun r6 σ5 H locs hC hw => ?_)
      refine lv_istore_n (lv' := [(3, .int (r6)), (5, .int (r4)), (0, .ref (L (0))), (1, .int (x1)), (4, .int (x4))]) hx hb dX5_holds_68 rfl hl (by decide) rfl (fun ls hl => ?_)
      refine lv_iinc (v := x4 + 1) (lv' := [(4, .int (x4 + 1)), (3, .int (r6)), (5, .int (r4)), (0, .ref (L (0))), (1, .int (x1))]) hx hb dX5_holds_69 hl (k := 4) rfl rfl (by decide) rfl (fun ls hl => ?_)
      refine lv_goto (tgt := 5) hx hb dX5_holds_72 (by decide) ?_
      exact ih r6 (x4 + 1) σ5 _ _ _ hC (lv_sub hl [3, 4, 1, 0] rfl) hw hk75

set_option maxHeartbeats 4000000 in
set_option maxRecDepth 100000 in
theorem bX5_holds {x1 : Int32} {x2 : Int32} {post : Int32 → ss_S → Prop} (F : ss_F p R s m args meth c (ss_EM D A L wr cI cZ cS) cX5_holds 6 wsX5_holds RX5 (some .boolean) rmX5_holds)  : ∀ (σ : ss_S) (H : Heap) (locs : List Loc) (ls : Array Slot), ss_C (ss_EM D A L wr cI cZ cS) σ s H locs → lv_has ls 6 [(0, .ref (L (0))), (1, .int (x1)), (2, .int (x2))] → wX5_holds x1 x2 σ post → W p l e R s m args below meth c H locs 0 0 (MQ below (va_Qi post (ss_B (ss_EM D A L wr cI cZ cS)) A) args s 0 0 A) (F0 m 0 ls []) := by
  have hx := F.1.1
  have hb := F.1.2.1
  intro σ H locs ls hC hl hw
  unfold wX5_holds at hw
  refine lv_iload_n hx hb dX5_holds_0 rfl (lv_at hl 2 rfl) ?_
  refine lv_istore_n (lv' := [(3, .int (x2)), (0, .ref (L (0))), (1, .int (x1)), (2, .int (x2))]) hx hb dX5_holds_1 rfl hl (by decide) rfl (fun ls hl => ?_)
  refine lv_iconst (v := 0) hx hb dX5_holds_2 (by decide) ?_
  refine lv_istore (lv' := [(4, .int (0)), (3, .int (x2)), (0, .ref (L (0))), (1, .int (x1)), (2, .int (x2))]) hx hb dX5_holds_3 hl (by decide) rfl (fun ls hl => ?_)
  obtain ⟨n_, hw⟩ := hw
  refine tX5_holds_5 F  _ n_ x2 0 σ _ _ _ hC (lv_sub hl [2, 3, 1, 0] rfl) hw ?_
  · intro x3_7 x4_7 σ_7 H locs ls hC hl hw
    refine lv_iload_n hx hb dX5_holds_75 rfl (lv_at hl 0 rfl) ?_
    refine lv_if_ne (tgt := 83) hx hb dX5_holds_76 (by decide) (fun hc => ?_) (fun hc => ?_)
    · replace hw := hw.1 hc
      refine lv_iconst (v := 0) hx hb dX5_holds_83 (by decide) ?_
      exact ss_zret F hC rfl hw dX5_holds_84
    · replace hw := hw.2 hc
      refine lv_iconst (v := 1) hx hb dX5_holds_79 (by decide) ?_
      refine lv_goto (tgt := 84) hx hb dX5_holds_80 (by decide) ?_
      exact ss_zret F hC rfl hw dX5_holds_84

theorem mX5_holds (l : Launch) (D : va_G) (A : Nat → Prop) (L : Nat → Nat) (wr : va_W) (cI cZ cS : ClassId) (σ : ss_S) (x1 : Int32) (x2 : Int32)  : ss_MI l yX5_holds wsX5_holds rmX5_holds (ss_EM D A L wr cI cZ cS) [.ref (L (0)), .int (x1), .int (x2)] σ (fun post => wX5_holds x1 x2 σ post) :=
  ss_MI.of (cc := cX5_holds) (nL := 6) (ret := (some .boolean)) (own := RX5) (by decide) rfl rfl (Nat.le_of_ble_eq_true rfl) (fun post p e R s m below meth c H locs ls F hC hl hw => bX5_holds F  σ H locs ls hC hl hw)

set_option maxHeartbeats 4000000 in
set_option maxRecDepth 100000 in
theorem bX5_has {x1 : Int32} {x2 : Int32} {post : Int32 → ss_S → Prop} (F : ss_F p R s m args meth c (ss_EM D A L wr cI cZ cS) cX5_has 3 wsX5_has RX5 (some .int) rmX5_has)  : ∀ (σ : ss_S) (H : Heap) (locs : List Loc) (ls : Array Slot), ss_C (ss_EM D A L wr cI cZ cS) σ s H locs → lv_has ls 3 [(0, .ref (L (0))), (1, .int (x1)), (2, .int (x2))] → wX5_has x1 x2 σ post → W p l e R s m args below meth c H locs 0 0 (MQ below (va_Qi post (ss_B (ss_EM D A L wr cI cZ cS)) A) args s 0 0 A) (F0 m 0 ls []) := by
  have hx := F.1.1
  have hb := F.1.2.1
  intro σ H locs ls hC hl hw
  unfold wX5_has at hw
  refine lv_iload_n hx hb dX5_has_0 rfl (lv_at hl 1 rfl) ?_
  refine ss_ki (ss_rS (As := [.int (x1)]) (rest := []) F ((mX5_isSlot l D A L wr cI cZ cS σ x1) _) gX5_has_X5_isSlot rfl ⟨rfl, rfl⟩ dvX5_isSlot ⟨Nat.le_of_ble_eq_true rfl, Nat.le_of_ble_eq_true rfl⟩ (ss_preS F.2.2.2.2.1 F.2.2.2.2.2 hC hw) rfl hl.1 rfl (Nat.le_of_ble_eq_true rfl) dX5_has_1 ⟨Nat.zero_le _, Nat.zero_le _⟩) hC (fun r2 σ1 H locs hC hw => ?_)
  refine lv_if_eq (tgt := 15) hx hb dX5_has_4 (by decide) (fun hc => ?_) (fun hc => ?_)
  · replace hw := hw.1 hc
    refine lv_bipush (v := -101) hx hb dX5_has_15 (by decide) ?_
    refine lv_goto (tgt := 34) hx hb dX5_has_17 (by decide) ?_
    exact ss_iret F hC hw dX5_has_34
  · replace hw := hw.2 hc
    refine lv_aload_n hx hb dX5_has_7 rfl (lv_at hl 0 rfl) ?_
    refine lv_iload_n hx hb dX5_has_8 rfl (lv_at hl 2 rfl) ?_
    refine ss_ki (ss_rV (C := RX5) (As := [.int (x2)]) (rest := []) F ((mX5_isVector l D A L wr cI cZ cS σ1 x2) _) gX5_has_X5_isVector rfl ⟨rfl, rfl⟩ ⟨rfl, dvX5_isVector⟩ ⟨Nat.le_of_ble_eq_true rfl, Nat.le_of_ble_eq_true rfl⟩ (ss_preV F.2.2.2.2.1 F.2.2.2.2.2 hC (ss_rec (C := RX5) (T := TX5) (N := 16) (ci := 5) F.2.2.2.2.1 hC (0) (Nat.le_of_ble_eq_true rfl) rfl rfl) hw) rfl hl.1 rfl (Nat.le_of_ble_eq_true rfl) dX5_has_9 ⟨Nat.zero_le _, Nat.zero_le _⟩) hC (fun r4 σ3 H locs hC hw => ?_)
    refine lv_if_ne (tgt := 20) hx hb dX5_has_12 (by decide) (fun hc => ?_) (fun hc => ?_)
    · replace hw := hw.1 hc
      refine lv_aload_n hx hb dX5_has_20 rfl (lv_at hl 0 rfl) ?_
      refine lv_iload_n hx hb dX5_has_21 rfl (lv_at hl 1 rfl) ?_
      refine lv_iload_n hx hb dX5_has_22 rfl (lv_at hl 2 rfl) ?_
      refine ss_ki (ss_rV (C := RX5) (As := [.int (x1), .int (x2)]) (rest := []) F ((mX5_holds l D A L wr cI cZ cS σ3 x1 x2) _) gX5_has_X5_holds rfl ⟨rfl, rfl⟩ ⟨rfl, dvX5_holds⟩ ⟨Nat.le_of_ble_eq_true rfl, Nat.le_of_ble_eq_true rfl⟩ (ss_preV F.2.2.2.2.1 F.2.2.2.2.2 hC (ss_rec (C := RX5) (T := TX5) (N := 16) (ci := 5) F.2.2.2.2.1 hC (0) (Nat.le_of_ble_eq_true rfl) rfl rfl) hw) rfl hl.1 rfl (Nat.le_of_ble_eq_true rfl) dX5_has_23 ⟨Nat.zero_le _, Nat.zero_le _⟩) hC (fun r6 σ5 H locs hC hw => ?_)
      refine lv_if_eq (tgt := 33) hx hb dX5_has_26 (by decide) (fun hc => ?_) (fun hc => ?_)
      · replace hw := hw.1 hc
        refine lv_iconst (v := 0) hx hb dX5_has_33 (by decide) ?_
        exact ss_iret F hC hw dX5_has_34
      · replace hw := hw.2 hc
        refine lv_iconst (v := 1) hx hb dX5_has_29 (by decide) ?_
        refine lv_goto (tgt := 34) hx hb dX5_has_30 (by decide) ?_
        exact ss_iret F hC hw dX5_has_34
    · replace hw := hw.2 hc
      refine lv_bipush (v := -101) hx hb dX5_has_15 (by decide) ?_
      refine lv_goto (tgt := 34) hx hb dX5_has_17 (by decide) ?_
      exact ss_iret F hC hw dX5_has_34

theorem mX5_has (l : Launch) (D : va_G) (A : Nat → Prop) (L : Nat → Nat) (wr : va_W) (cI cZ cS : ClassId) (σ : ss_S) (x1 : Int32) (x2 : Int32)  : ss_MI l yX5_has wsX5_has rmX5_has (ss_EM D A L wr cI cZ cS) [.ref (L (0)), .int (x1), .int (x2)] σ (fun post => wX5_has x1 x2 σ post) :=
  ss_MI.of (cc := cX5_has) (nL := 3) (ret := (some .int)) (own := RX5) (by decide) rfl rfl (Nat.le_of_ble_eq_true rfl) (fun post p e R s m below meth c H locs ls F hC hl hw => bX5_has F  σ H locs ls hC hl hw)

set_option maxHeartbeats 4000000 in
set_option maxRecDepth 100000 in
theorem tX5_within_22 {x1 : Int32} {x2 : Int32} {post : Int32 → ss_S → Prop} (F : ss_F p R s m args meth c (ss_EM D A L wr cI cZ cS) cX5_within 5 wsX5_within RX5 (some .int) rmX5_within)  (k69 : Int32 → Int32 → ss_S → Prop) : ∀ (n : Nat) (x3 : Int32) (x4 : Int32) (σ : ss_S) (H : Heap) (locs : List Loc) (ls : Array Slot), ss_C (ss_EM D A L wr cI cZ cS) σ s H locs → lv_has ls 5 [(0, .ref (L (0))), (1, .int (x1)), (2, .int (x2)), (3, .int (x3)), (4, .int (x4))] → lX5_within_22 x1 x2 post k69 n x3 x4 σ →
    (∀ (x3 : Int32) (x4 : Int32) (σ : ss_S) (H : Heap) (locs : List Loc) (ls : Array Slot), ss_C (ss_EM D A L wr cI cZ cS) σ s H locs → lv_has ls 5 [(3, .int (x3))] → k69 x3 x4 σ → W p l e R s m args below meth c H locs 0 0 (MQ below (va_Qi post (ss_B (ss_EM D A L wr cI cZ cS)) A) args s 0 0 A) (F0 m 69 ls [])) →
    W p l e R s m args below meth c H locs 0 0 (MQ below (va_Qi post (ss_B (ss_EM D A L wr cI cZ cS)) A) args s 0 0 A) (F0 m 22 ls []) := by
  have hx := F.1.1
  have hb := F.1.2.1
  have u_X5 : ∀ w ∈ u_ws RX5 TX5 16, w ∈ wsX5_within := by decide +kernel
  have f_20 : (Cond.fieldLink RX5 20 "SmallSpacesModel" "dims" "[I").before args s = true := F.1.2.2.2.2 _ (by decide +kernel)
  have f_23 : (Cond.fieldLink RX5 23 "SmallSpacesModel" "rows" "[I").before args s = true := F.1.2.2.2.2 _ (by decide +kernel)
  intro n
  induction n with
  | zero => intro x3 x4 σ H locs ls hC hl hw; exact hw.elim
  | succ n ih =>
    intro x3 x4 σ H locs ls hC hl hw hk69
    refine lv_iload hx hb dX5_within_22 (lv_at hl 4 rfl) ?_
    refine lv_aload_n hx hb dX5_within_24 rfl (lv_at hl 0 rfl) ?_
    refine ss_get (C := RX5) (T := TX5) (N := 16) (ci := 5) (v := .ref (L (4))) F hC (0) u_X5 (Nat.le_of_ble_eq_true rfl) rfl rfl 9 (by decide) f_20 rfl dX5_within_25 ?_
    refine lv_iload_n hx hb dX5_within_28 rfl (lv_at hl 1 rfl) ?_
    refine ss_iald F hC (4) 0 (Nat.le_of_ble_eq_true rfl) (fun _ => rfl) rfl hw.1 dX5_within_29 ?_
    replace hw := hw.2
    refine lv_icmp_ge (tgt := 69) hx hb dX5_within_30 (by decide) (fun hc => ?_) (fun hc => ?_)
    · replace hw := hw.1 hc
      exact hk69 x3 x4 σ _ _ _ hC (lv_sub hl [3] rfl) hw
    · replace hw := hw.2 hc
      refine lv_iload_n hx hb dX5_within_33 rfl (lv_at hl 3 rfl) ?_
      refine lv_if_eq (tgt := 61) hx hb dX5_within_34 (by decide) (fun hc => ?_) (fun hc => ?_)
      · replace hw := hw.1 hc
        refine lv_iconst (v := 0) hx hb dX5_within_61 (by decide) ?_
        refine lv_istore_n (lv' := [(3, .int (0)), (0, .ref (L (0))), (1, .int (x1)), (2, .int (x2)), (4, .int (x4))]) hx hb dX5_within_62 rfl hl (by decide) rfl (fun ls hl => ?_)
        refine lv_iinc (v := x4 + 1) (lv' := [(4, .int (x4 + 1)), (3, .int (0)), (0, .ref (L (0))), (1, .int (x1)), (2, .int (x2))]) hx hb dX5_within_63 hl (k := 4) rfl rfl (by decide) rfl (fun ls hl => ?_)
        refine lv_goto (tgt := 22) hx hb dX5_within_66 (by decide) ?_
        exact ih 0 (x4 + 1) σ _ _ _ hC (lv_sub hl [2, 3, 4, 1, 0] rfl) hw hk69
      · replace hw := hw.2 hc
        refine lv_aload_n hx hb dX5_within_37 rfl (lv_at hl 0 rfl) ?_
        refine lv_iload_n hx hb dX5_within_38 rfl (lv_at hl 2 rfl) ?_
        refine lv_aload_n hx hb dX5_within_39 rfl (lv_at hl 0 rfl) ?_
        refine ss_get (C := RX5) (T := TX5) (N := 16) (ci := 5) (v := .ref (L (5))) F hC (0) u_X5 (Nat.le_of_ble_eq_true rfl) rfl rfl 10 (by decide) f_23 rfl dX5_within_40 ?_
        refine lv_bipush (v := 6) hx hb dX5_within_43 (by decide) ?_
        refine lv_iload_n hx hb dX5_within_45 rfl (lv_at hl 1 rfl) ?_
        refine lv_imul hx hb dX5_within_46 ?_
        refine lv_iload hx hb dX5_within_47 (lv_at hl 4 rfl) ?_
        refine lv_iadd hx hb dX5_within_49 ?_
        refine ss_iald F hC (5) 0 (Nat.le_of_ble_eq_true rfl) (fun _ => rfl) rfl hw.1 dX5_within_50 ?_
        replace hw := hw.2
        refine ss_ki (ss_rV (C := RX5) (As := [.int (x2), .int (σ 5 (Int32.toNatClampNeg ((6 * x1) + x4)))]) (rest := []) F ((mX5_holds l D A L wr cI cZ cS σ x2 (σ 5 (Int32.toNatClampNeg ((6 * x1) + x4)))) _) gX5_within_X5_holds rfl ⟨rfl, rfl⟩ ⟨rfl, dvX5_holds⟩ ⟨Nat.le_of_ble_eq_true rfl, Nat.le_of_ble_eq_true rfl⟩ (ss_preV F.2.2.2.2.1 F.2.2.2.2.2 hC (ss_rec (C := RX5) (T := TX5) (N := 16) (ci := 5) F.2.2.2.2.1 hC (0) (Nat.le_of_ble_eq_true rfl) rfl rfl) hw) rfl hl.1 rfl (Nat.le_of_ble_eq_true rfl) dX5_within_51 ⟨Nat.zero_le _, Nat.zero_le _⟩) hC (fun r6 σ5 H locs hC hw => ?_)
        refine lv_if_eq (tgt := 61) hx hb dX5_within_54 (by decide) (fun hc => ?_) (fun hc => ?_)
        · replace hw := hw.1 hc
          refine lv_iconst (v := 0) hx hb dX5_within_61 (by decide) ?_
          refine lv_istore_n (lv' := [(3, .int (0)), (0, .ref (L (0))), (1, .int (x1)), (2, .int (x2)), (4, .int (x4))]) hx hb dX5_within_62 rfl hl (by decide) rfl (fun ls hl => ?_)
          refine lv_iinc (v := x4 + 1) (lv' := [(4, .int (x4 + 1)), (3, .int (0)), (0, .ref (L (0))), (1, .int (x1)), (2, .int (x2))]) hx hb dX5_within_63 hl (k := 4) rfl rfl (by decide) rfl (fun ls hl => ?_)
          refine lv_goto (tgt := 22) hx hb dX5_within_66 (by decide) ?_
          exact ih 0 (x4 + 1) σ5 _ _ _ hC (lv_sub hl [2, 3, 4, 1, 0] rfl) hw hk69
        · replace hw := hw.2 hc
          refine lv_iconst (v := 1) hx hb dX5_within_57 (by decide) ?_
          refine lv_goto (tgt := 62) hx hb dX5_within_58 (by decide) ?_
          refine lv_istore_n (lv' := [(3, .int (1)), (0, .ref (L (0))), (1, .int (x1)), (2, .int (x2)), (4, .int (x4))]) hx hb dX5_within_62 rfl hl (by decide) rfl (fun ls hl => ?_)
          refine lv_iinc (v := x4 + 1) (lv' := [(4, .int (x4 + 1)), (3, .int (1)), (0, .ref (L (0))), (1, .int (x1)), (2, .int (x2))]) hx hb dX5_within_63 hl (k := 4) rfl rfl (by decide) rfl (fun ls hl => ?_)
          refine lv_goto (tgt := 22) hx hb dX5_within_66 (by decide) ?_
          exact ih 1 (x4 + 1) σ5 _ _ _ hC (lv_sub hl [2, 3, 4, 1, 0] rfl) hw hk69

set_option maxHeartbeats 4000000 in
set_option maxRecDepth 100000 in
theorem bX5_within {x1 : Int32} {x2 : Int32} {post : Int32 → ss_S → Prop} (F : ss_F p R s m args meth c (ss_EM D A L wr cI cZ cS) cX5_within 5 wsX5_within RX5 (some .int) rmX5_within)  : ∀ (σ : ss_S) (H : Heap) (locs : List Loc) (ls : Array Slot), ss_C (ss_EM D A L wr cI cZ cS) σ s H locs → lv_has ls 5 [(0, .ref (L (0))), (1, .int (x1)), (2, .int (x2))] → wX5_within x1 x2 σ post → W p l e R s m args below meth c H locs 0 0 (MQ below (va_Qi post (ss_B (ss_EM D A L wr cI cZ cS)) A) args s 0 0 A) (F0 m 0 ls []) := by
  have hx := F.1.1
  have hb := F.1.2.1
  intro σ H locs ls hC hl hw
  unfold wX5_within at hw
  refine lv_iload_n hx hb dX5_within_0 rfl (lv_at hl 1 rfl) ?_
  refine ss_ki (ss_rS (As := [.int (x1)]) (rest := []) F ((mX5_isSlot l D A L wr cI cZ cS σ x1) _) gX5_within_X5_isSlot rfl ⟨rfl, rfl⟩ dvX5_isSlot ⟨Nat.le_of_ble_eq_true rfl, Nat.le_of_ble_eq_true rfl⟩ (ss_preS F.2.2.2.2.1 F.2.2.2.2.2 hC hw) rfl hl.1 rfl (Nat.le_of_ble_eq_true rfl) dX5_within_1 ⟨Nat.zero_le _, Nat.zero_le _⟩) hC (fun r2 σ1 H locs hC hw => ?_)
  refine lv_if_eq (tgt := 14) hx hb dX5_within_4 (by decide) (fun hc => ?_) (fun hc => ?_)
  · replace hw := hw.1 hc
    refine lv_bipush (v := -101) hx hb dX5_within_14 (by decide) ?_
    exact ss_iret F hC hw dX5_within_16
  · replace hw := hw.2 hc
    refine lv_iload_n hx hb dX5_within_7 rfl (lv_at hl 2 rfl) ?_
    refine ss_ki (ss_rS (As := [.int (x2)]) (rest := []) F ((mX5_isSlot l D A L wr cI cZ cS σ1 x2) _) gX5_within_X5_isSlot rfl ⟨rfl, rfl⟩ dvX5_isSlot ⟨Nat.le_of_ble_eq_true rfl, Nat.le_of_ble_eq_true rfl⟩ (ss_preS F.2.2.2.2.1 F.2.2.2.2.2 hC hw) rfl hl.1 rfl (Nat.le_of_ble_eq_true rfl) dX5_within_8 ⟨Nat.zero_le _, Nat.zero_le _⟩) hC (fun r4 σ3 H locs hC hw => ?_)
    refine lv_if_ne (tgt := 17) hx hb dX5_within_11 (by decide) (fun hc => ?_) (fun hc => ?_)
    · replace hw := hw.1 hc
      refine lv_iconst (v := 1) hx hb dX5_within_17 (by decide) ?_
      refine lv_istore_n (lv' := [(3, .int (1)), (0, .ref (L (0))), (1, .int (x1)), (2, .int (x2))]) hx hb dX5_within_18 rfl hl (by decide) rfl (fun ls hl => ?_)
      refine lv_iconst (v := 0) hx hb dX5_within_19 (by decide) ?_
      refine lv_istore (lv' := [(4, .int (0)), (3, .int (1)), (0, .ref (L (0))), (1, .int (x1)), (2, .int (x2))]) hx hb dX5_within_20 hl (by decide) rfl (fun ls hl => ?_)
      obtain ⟨n_, hw⟩ := hw
      refine tX5_within_22 F  _ n_ 1 0 σ3 _ _ _ hC (lv_sub hl [2, 3, 4, 1, 0] rfl) hw ?_
      · intro x3_7 x4_7 σ_7 H locs ls hC hl hw
        refine lv_iload_n hx hb dX5_within_69 rfl (lv_at hl 0 rfl) ?_
        refine lv_if_eq (tgt := 77) hx hb dX5_within_70 (by decide) (fun hc => ?_) (fun hc => ?_)
        · replace hw := hw.1 hc
          refine lv_iconst (v := 0) hx hb dX5_within_77 (by decide) ?_
          exact ss_iret F hC hw dX5_within_78
        · replace hw := hw.2 hc
          refine lv_iconst (v := 1) hx hb dX5_within_73 (by decide) ?_
          refine lv_goto (tgt := 78) hx hb dX5_within_74 (by decide) ?_
          exact ss_iret F hC hw dX5_within_78
    · replace hw := hw.2 hc
      refine lv_bipush (v := -101) hx hb dX5_within_14 (by decide) ?_
      exact ss_iret F hC hw dX5_within_16

theorem mX5_within (l : Launch) (D : va_G) (A : Nat → Prop) (L : Nat → Nat) (wr : va_W) (cI cZ cS : ClassId) (σ : ss_S) (x1 : Int32) (x2 : Int32)  : ss_MI l yX5_within wsX5_within rmX5_within (ss_EM D A L wr cI cZ cS) [.ref (L (0)), .int (x1), .int (x2)] σ (fun post => wX5_within x1 x2 σ post) :=
  ss_MI.of (cc := cX5_within) (nL := 5) (ret := (some .int)) (own := RX5) (by decide) rfl rfl (Nat.le_of_ble_eq_true rfl) (fun post p e R s m below meth c H locs ls F hC hl hw => bX5_within F  σ H locs ls hC hl hw)

set_option maxHeartbeats 4000000 in
set_option maxRecDepth 100000 in
theorem bX5_apart {x1 : Int32} {x2 : Int32} {post : Int32 → ss_S → Prop} (F : ss_F p R s m args meth c (ss_EM D A L wr cI cZ cS) cX5_apart 3 wsX5_apart RX5 (some .int) rmX5_apart)  : ∀ (σ : ss_S) (H : Heap) (locs : List Loc) (ls : Array Slot), ss_C (ss_EM D A L wr cI cZ cS) σ s H locs → lv_has ls 3 [(0, .ref (L (0))), (1, .int (x1)), (2, .int (x2))] → wX5_apart x1 x2 σ post → W p l e R s m args below meth c H locs 0 0 (MQ below (va_Qi post (ss_B (ss_EM D A L wr cI cZ cS)) A) args s 0 0 A) (F0 m 0 ls []) := by
  have hx := F.1.1
  have hb := F.1.2.1
  have u_X5 : ∀ w ∈ u_ws RX5 TX5 16, w ∈ wsX5_apart := by decide +kernel
  have f_20 : (Cond.fieldLink RX5 20 "SmallSpacesModel" "dims" "[I").before args s = true := F.1.2.2.2.2 _ (by decide +kernel)
  intro σ H locs ls hC hl hw
  unfold wX5_apart at hw
  refine lv_iload_n hx hb dX5_apart_0 rfl (lv_at hl 1 rfl) ?_
  refine ss_ki (ss_rS (As := [.int (x1)]) (rest := []) F ((mX5_isSlot l D A L wr cI cZ cS σ x1) _) gX5_apart_X5_isSlot rfl ⟨rfl, rfl⟩ dvX5_isSlot ⟨Nat.le_of_ble_eq_true rfl, Nat.le_of_ble_eq_true rfl⟩ (ss_preS F.2.2.2.2.1 F.2.2.2.2.2 hC hw) rfl hl.1 rfl (Nat.le_of_ble_eq_true rfl) dX5_apart_1 ⟨Nat.zero_le _, Nat.zero_le _⟩) hC (fun r2 σ1 H locs hC hw => ?_)
  refine lv_if_eq (tgt := 39) hx hb dX5_apart_4 (by decide) (fun hc => ?_) (fun hc => ?_)
  · replace hw := hw.1 hc
    refine lv_bipush (v := -101) hx hb dX5_apart_39 (by decide) ?_
    exact ss_iret F hC hw dX5_apart_41
  · replace hw := hw.2 hc
    refine lv_iload_n hx hb dX5_apart_7 rfl (lv_at hl 2 rfl) ?_
    refine ss_ki (ss_rS (As := [.int (x2)]) (rest := []) F ((mX5_isSlot l D A L wr cI cZ cS σ1 x2) _) gX5_apart_X5_isSlot rfl ⟨rfl, rfl⟩ dvX5_isSlot ⟨Nat.le_of_ble_eq_true rfl, Nat.le_of_ble_eq_true rfl⟩ (ss_preS F.2.2.2.2.1 F.2.2.2.2.2 hC hw) rfl hl.1 rfl (Nat.le_of_ble_eq_true rfl) dX5_apart_8 ⟨Nat.zero_le _, Nat.zero_le _⟩) hC (fun r4 σ3 H locs hC hw => ?_)
    refine lv_if_eq (tgt := 39) hx hb dX5_apart_11 (by decide) (fun hc => ?_) (fun hc => ?_)
    · replace hw := hw.1 hc
      refine lv_bipush (v := -101) hx hb dX5_apart_39 (by decide) ?_
      exact ss_iret F hC hw dX5_apart_41
    · replace hw := hw.2 hc
      refine lv_iconst (v := 2) hx hb dX5_apart_14 (by decide) ?_
      refine lv_aload_n hx hb dX5_apart_15 rfl (lv_at hl 0 rfl) ?_
      refine lv_iload_n hx hb dX5_apart_16 rfl (lv_at hl 1 rfl) ?_
      refine lv_iload_n hx hb dX5_apart_17 rfl (lv_at hl 2 rfl) ?_
      refine ss_ki (ss_rV (C := RX5) (As := [.int (x1), .int (x2)]) (rest := [.int (2)]) F ((mX5_joined l D A L wr cI cZ cS σ3 x1 x2) _) gX5_apart_X5_joined rfl ⟨rfl, rfl⟩ ⟨rfl, dvX5_joined⟩ ⟨Nat.le_of_ble_eq_true rfl, Nat.le_of_ble_eq_true rfl⟩ (ss_preV F.2.2.2.2.1 F.2.2.2.2.2 hC (ss_rec (C := RX5) (T := TX5) (N := 16) (ci := 5) F.2.2.2.2.1 hC (0) (Nat.le_of_ble_eq_true rfl) rfl rfl) hw) rfl hl.1 rfl (Nat.le_of_ble_eq_true rfl) dX5_apart_18 ⟨Nat.zero_le _, Nat.zero_le _⟩) hC (fun r6 σ5 H locs hC hw => ?_)
      refine lv_imul hx hb dX5_apart_21 ?_
      refine lv_aload_n hx hb dX5_apart_22 rfl (lv_at hl 0 rfl) ?_
      refine ss_get (C := RX5) (T := TX5) (N := 16) (ci := 5) (v := .ref (L (4))) F hC (0) u_X5 (Nat.le_of_ble_eq_true rfl) rfl rfl 9 (by decide) f_20 rfl dX5_apart_23 ?_
      refine lv_iload_n hx hb dX5_apart_26 rfl (lv_at hl 1 rfl) ?_
      refine ss_iald F hC (4) 0 (Nat.le_of_ble_eq_true rfl) (fun _ => rfl) rfl hw.1 dX5_apart_27 ?_
      replace hw := hw.2
      refine lv_isub hx hb dX5_apart_28 ?_
      refine lv_aload_n hx hb dX5_apart_29 rfl (lv_at hl 0 rfl) ?_
      refine ss_get (C := RX5) (T := TX5) (N := 16) (ci := 5) (v := .ref (L (4))) F hC (0) u_X5 (Nat.le_of_ble_eq_true rfl) rfl rfl 9 (by decide) f_20 rfl dX5_apart_30 ?_
      refine lv_iload_n hx hb dX5_apart_33 rfl (lv_at hl 2 rfl) ?_
      refine ss_iald F hC (4) 0 (Nat.le_of_ble_eq_true rfl) (fun _ => rfl) rfl hw.1 dX5_apart_34 ?_
      replace hw := hw.2
      refine lv_isub hx hb dX5_apart_35 ?_
      refine lv_goto (tgt := 41) hx hb dX5_apart_36 (by decide) ?_
      exact ss_iret F hC hw dX5_apart_41

theorem mX5_apart (l : Launch) (D : va_G) (A : Nat → Prop) (L : Nat → Nat) (wr : va_W) (cI cZ cS : ClassId) (σ : ss_S) (x1 : Int32) (x2 : Int32)  : ss_MI l yX5_apart wsX5_apart rmX5_apart (ss_EM D A L wr cI cZ cS) [.ref (L (0)), .int (x1), .int (x2)] σ (fun post => wX5_apart x1 x2 σ post) :=
  ss_MI.of (cc := cX5_apart) (nL := 3) (ret := (some .int)) (own := RX5) (by decide) rfl rfl (Nat.le_of_ble_eq_true rfl) (fun post p e R s m below meth c H locs ls F hC hl hw => bX5_apart F  σ H locs ls hC hl hw)

set_option maxHeartbeats 4000000 in
set_option maxRecDepth 100000 in
theorem tX5_gauss_21 {x1 : Int32} {x2 : Int32} {post : Int32 → ss_S → Prop} (F : ss_F p R s m args meth c (ss_EM D A L wr cI cZ cS) cX5_gauss 8 wsX5_gauss RX5 (some .int) rmX5_gauss)  (k69 : Int64 → Int64 → Int32 → ss_S → Prop) : ∀ (n : Nat) (x3 : Int64) (x5 : Int64) (x7 : Int32) (σ : ss_S) (H : Heap) (locs : List Loc) (ls : Array Slot), ss_C (ss_EM D A L wr cI cZ cS) σ s H locs → lv_has ls 8 [(0, .ref (L (0))), (1, .int (x1)), (2, .int (x2)), (3, .long (x3)), (5, .long (x5)), (7, .int (x7))] → lX5_gauss_21 x1 x2 post k69 n x3 x5 x7 σ →
    (∀ (x3 : Int64) (x5 : Int64) (x7 : Int32) (σ : ss_S) (H : Heap) (locs : List Loc) (ls : Array Slot), ss_C (ss_EM D A L wr cI cZ cS) σ s H locs → lv_has ls 8 [(3, .long (x3)), (5, .long (x5))] → k69 x3 x5 x7 σ → W p l e R s m args below meth c H locs 0 0 (MQ below (va_Qi post (ss_B (ss_EM D A L wr cI cZ cS)) A) args s 0 0 A) (F0 m 69 ls [])) →
    W p l e R s m args below meth c H locs 0 0 (MQ below (va_Qi post (ss_B (ss_EM D A L wr cI cZ cS)) A) args s 0 0 A) (F0 m 21 ls []) := by
  have hx := F.1.1
  have hb := F.1.2.1
  have u_X5 : ∀ w ∈ u_ws RX5 TX5 16, w ∈ wsX5_gauss := by decide +kernel
  have f_38 : (Cond.fieldLink RX5 38 "SmallSpacesModel" "q" "I").before args s = true := F.1.2.2.2.2 _ (by decide +kernel)
  intro n
  induction n with
  | zero => intro x3 x5 x7 σ H locs ls hC hl hw; exact hw.elim
  | succ n ih =>
    intro x3 x5 x7 σ H locs ls hC hl hw hk69
    refine lv_iload hx hb dX5_gauss_21 (lv_at hl 5 rfl) ?_
    refine lv_iload_n hx hb dX5_gauss_23 rfl (lv_at hl 2 rfl) ?_
    refine lv_icmp_ge (tgt := 69) hx hb dX5_gauss_24 (by decide) (fun hc => ?_) (fun hc => ?_)
    · replace hw := hw.1 hc
      exact hk69 x3 x5 x7 σ _ _ _ hC (lv_sub hl [3, 4] rfl) hw
    · replace hw := hw.2 hc
      refine lv_lload_n hx hb dX5_gauss_27 rfl (lv_at hl 3 rfl) ?_
      refine lv_aload_n hx hb dX5_gauss_28 rfl (lv_at hl 0 rfl) ?_
      refine ss_get (C := RX5) (T := TX5) (N := 16) (ci := 5) (v := .int (σ 0 0)) F hC (0) u_X5 (Nat.le_of_ble_eq_true rfl) rfl rfl 0 (by decide) f_38 rfl dX5_gauss_29 ?_
      refine lv_iload_n hx hb dX5_gauss_32 rfl (lv_at hl 1 rfl) ?_
      refine lv_iload hx hb dX5_gauss_33 (lv_at hl 5 rfl) ?_
      refine lv_isub hx hb dX5_gauss_35 ?_
      refine ss_ki (ss_rS (As := [.int (σ 0 0), .int (x1 - x7)]) (rest := [.long (x3)]) F ((mX5_power l D A L wr cI cZ cS σ (σ 0 0) (x1 - x7)) _) gX5_gauss_X5_power rfl ⟨rfl, rfl⟩ dvX5_power ⟨Nat.le_of_ble_eq_true rfl, Nat.le_of_ble_eq_true rfl⟩ (ss_preS F.2.2.2.2.1 F.2.2.2.2.2 hC hw) rfl hl.1 rfl (Nat.le_of_ble_eq_true rfl) dX5_gauss_36 ⟨Nat.zero_le _, Nat.zero_le _⟩) hC (fun r4 σ3 H locs hC hw => ?_)
      refine lv_iconst (v := 1) hx hb dX5_gauss_39 (by decide) ?_
      refine lv_isub hx hb dX5_gauss_40 ?_
      refine lv_i2l hx hb dX5_gauss_41 rfl ?_
      refine lv_lmul hx hb dX5_gauss_42 ?_
      refine lv_lstore_n (lv' := [(3, .long (x3 * (Int32.toInt64 (r4 - 1)))), (0, .ref (L (0))), (1, .int (x1)), (2, .int (x2)), (5, .long (x5)), (7, .int (x7))]) hx hb dX5_gauss_43 rfl hl (by decide) rfl (fun ls hl => ?_)
      refine lv_lload hx hb dX5_gauss_44 (lv_at hl 4 rfl) ?_
      refine lv_aload_n hx hb dX5_gauss_46 rfl (lv_at hl 1 rfl) ?_
      refine ss_get (C := RX5) (T := TX5) (N := 16) (ci := 5) (v := .int (σ3 0 0)) F hC (0) u_X5 (Nat.le_of_ble_eq_true rfl) rfl rfl 0 (by decide) f_38 rfl dX5_gauss_47 ?_
      refine lv_iload hx hb dX5_gauss_50 (lv_at hl 5 rfl) ?_
      refine lv_iconst (v := 1) hx hb dX5_gauss_52 (by decide) ?_
      refine lv_iadd hx hb dX5_gauss_53 ?_
      refine ss_ki (ss_rS (As := [.int (σ3 0 0), .int (x7 + 1)]) (rest := [.long (x5)]) F ((mX5_power l D A L wr cI cZ cS σ3 (σ3 0 0) (x7 + 1)) _) gX5_gauss_X5_power rfl ⟨rfl, rfl⟩ dvX5_power ⟨Nat.le_of_ble_eq_true rfl, Nat.le_of_ble_eq_true rfl⟩ (ss_preS F.2.2.2.2.1 F.2.2.2.2.2 hC hw) rfl hl.1 rfl (Nat.le_of_ble_eq_true rfl) dX5_gauss_54 ⟨Nat.zero_le _, Nat.zero_le _⟩) hC (fun r6 σ5 H locs hC hw => ?_)
      refine lv_iconst (v := 1) hx hb dX5_gauss_57 (by decide) ?_
      refine lv_isub hx hb dX5_gauss_58 ?_
      refine lv_i2l hx hb dX5_gauss_59 rfl ?_
      refine lv_lmul hx hb dX5_gauss_60 ?_
      refine lv_lstore (lv' := [(5, .long (x5 * (Int32.toInt64 (r6 - 1)))), (3, .long (x3 * (Int32.toInt64 (r4 - 1)))), (0, .ref (L (0))), (1, .int (x1)), (2, .int (x2)), (7, .int (x7))]) hx hb dX5_gauss_61 hl (by decide) rfl (fun ls hl => ?_)
      refine lv_iinc (v := x7 + 1) (lv' := [(7, .int (x7 + 1)), (5, .long (x5 * (Int32.toInt64 (r6 - 1)))), (3, .long (x3 * (Int32.toInt64 (r4 - 1)))), (0, .ref (L (0))), (1, .int (x1)), (2, .int (x2))]) hx hb dX5_gauss_63 hl (k := 5) rfl rfl (by decide) rfl (fun ls hl => ?_)
      refine lv_goto (tgt := 21) hx hb dX5_gauss_66 (by decide) ?_
      exact ih (x3 * (Int32.toInt64 (r4 - 1))) (x5 * (Int32.toInt64 (r6 - 1))) (x7 + 1) σ5 _ _ _ hC (lv_sub hl [3, 4, 5, 2, 1, 0] rfl) hw hk69

set_option maxHeartbeats 4000000 in
set_option maxRecDepth 100000 in
theorem bX5_gauss {x1 : Int32} {x2 : Int32} {post : Int32 → ss_S → Prop} (F : ss_F p R s m args meth c (ss_EM D A L wr cI cZ cS) cX5_gauss 8 wsX5_gauss RX5 (some .int) rmX5_gauss)  : ∀ (σ : ss_S) (H : Heap) (locs : List Loc) (ls : Array Slot), ss_C (ss_EM D A L wr cI cZ cS) σ s H locs → lv_has ls 8 [(0, .ref (L (0))), (1, .int (x1)), (2, .int (x2))] → wX5_gauss x1 x2 σ post → W p l e R s m args below meth c H locs 0 0 (MQ below (va_Qi post (ss_B (ss_EM D A L wr cI cZ cS)) A) args s 0 0 A) (F0 m 0 ls []) := by
  have hx := F.1.1
  have hb := F.1.2.1
  intro σ H locs ls hC hl hw
  unfold wX5_gauss at hw
  refine lv_iload_n hx hb dX5_gauss_0 rfl (lv_at hl 2 rfl) ?_
  refine lv_i2l hx hb dX5_gauss_1 rfl ?_
  refine lv_lconst (v := 0) hx hb dX5_gauss_2 (by decide) ?_
  refine lv_iload_n hx hb dX5_gauss_3 rfl (lv_at hl 1 rfl) ?_
  refine lv_i2l hx hb dX5_gauss_4 rfl ?_
  refine ss_ki (ss_rS (As := [.long (Int32.toInt64 x2), .long (0), .long (Int32.toInt64 x1)]) (rest := []) F ((mX5_in l D A L wr cI cZ cS σ (Int32.toInt64 x2) 0 (Int32.toInt64 x1)) _) gX5_gauss_X5_in rfl ⟨rfl, rfl⟩ dvX5_in ⟨Nat.le_of_ble_eq_true rfl, Nat.le_of_ble_eq_true rfl⟩ (ss_preS F.2.2.2.2.1 F.2.2.2.2.2 hC hw) rfl hl.1 rfl (Nat.le_of_ble_eq_true rfl) dX5_gauss_5 ⟨Nat.zero_le _, Nat.zero_le _⟩) hC (fun r2 σ1 H locs hC hw => ?_)
  refine lv_if_ne (tgt := 13) hx hb dX5_gauss_8 (by decide) (fun hc => ?_) (fun hc => ?_)
  · replace hw := hw.1 hc
    refine lv_lconst (v := 1) hx hb dX5_gauss_13 (by decide) ?_
    refine lv_lstore_n (lv' := [(3, .long (1)), (0, .ref (L (0))), (1, .int (x1)), (2, .int (x2))]) hx hb dX5_gauss_14 rfl hl (by decide) rfl (fun ls hl => ?_)
    refine lv_lconst (v := 1) hx hb dX5_gauss_15 (by decide) ?_
    refine lv_lstore (lv' := [(5, .long (1)), (3, .long (1)), (0, .ref (L (0))), (1, .int (x1)), (2, .int (x2))]) hx hb dX5_gauss_16 hl (by decide) rfl (fun ls hl => ?_)
    refine lv_iconst (v := 0) hx hb dX5_gauss_18 (by decide) ?_
    refine lv_istore (lv' := [(7, .int (0)), (5, .long (1)), (3, .long (1)), (0, .ref (L (0))), (1, .int (x1)), (2, .int (x2))]) hx hb dX5_gauss_19 hl (by decide) rfl (fun ls hl => ?_)
    obtain ⟨n_, hw⟩ := hw
    refine tX5_gauss_21 F  _ n_ 1 1 0 σ1 _ _ _ hC (lv_sub hl [3, 4, 5, 2, 1, 0] rfl) hw ?_
    · intro x3_7 x5_7 x7_7 σ_7 H locs ls hC hl hw
      refine lv_lload_n hx hb dX5_gauss_69 rfl (lv_at hl 0 rfl) ?_
      refine lv_lload hx hb dX5_gauss_70 (lv_at hl 1 rfl) ?_
      refine lv_ldiv hx hb dX5_gauss_72 hw.1 ?_
      replace hw := hw.2
      refine lv_l2i hx hb dX5_gauss_73 rfl ?_
      exact ss_iret F hC hw dX5_gauss_74
  · replace hw := hw.2 hc
    refine lv_iconst (v := 0) hx hb dX5_gauss_11 (by decide) ?_
    exact ss_iret F hC hw dX5_gauss_12

theorem mX5_gauss (l : Launch) (D : va_G) (A : Nat → Prop) (L : Nat → Nat) (wr : va_W) (cI cZ cS : ClassId) (σ : ss_S) (x1 : Int32) (x2 : Int32)  : ss_MI l yX5_gauss wsX5_gauss rmX5_gauss (ss_EM D A L wr cI cZ cS) [.ref (L (0)), .int (x1), .int (x2)] σ (fun post => wX5_gauss x1 x2 σ post) :=
  ss_MI.of (cc := cX5_gauss) (nL := 8) (ret := (some .int)) (own := RX5) (by decide) rfl rfl (Nat.le_of_ble_eq_true rfl) (fun post p e R s m below meth c H locs ls F hC hl hw => bX5_gauss F  σ H locs ls hC hl hw)

set_option maxHeartbeats 4000000 in
set_option maxRecDepth 100000 in
theorem bX5_many {x1 : Int32} {post : Int32 → ss_S → Prop} (F : ss_F p R s m args meth c (ss_EM D A L wr cI cZ cS) cX5_many 2 wsX5_many RX5 (some .int) rmX5_many)  : ∀ (σ : ss_S) (H : Heap) (locs : List Loc) (ls : Array Slot), ss_C (ss_EM D A L wr cI cZ cS) σ s H locs → lv_has ls 2 [(0, .ref (L (0))), (1, .int (x1))] → wX5_many x1 σ post → W p l e R s m args below meth c H locs 0 0 (MQ below (va_Qi post (ss_B (ss_EM D A L wr cI cZ cS)) A) args s 0 0 A) (F0 m 0 ls []) := by
  have hx := F.1.1
  have hb := F.1.2.1
  have u_X5 : ∀ w ∈ u_ws RX5 TX5 16, w ∈ wsX5_many := by decide +kernel
  have f_42 : (Cond.fieldLink RX5 42 "SmallSpacesModel" "n" "I").before args s = true := F.1.2.2.2.2 _ (by decide +kernel)
  intro σ H locs ls hC hl hw
  unfold wX5_many at hw
  refine lv_aload_n hx hb dX5_many_0 rfl (lv_at hl 0 rfl) ?_
  refine lv_aload_n hx hb dX5_many_1 rfl (lv_at hl 0 rfl) ?_
  refine ss_get (C := RX5) (T := TX5) (N := 16) (ci := 5) (v := .int (σ 0 1)) F hC (0) u_X5 (Nat.le_of_ble_eq_true rfl) rfl rfl 1 (by decide) f_42 rfl dX5_many_2 ?_
  refine lv_iload_n hx hb dX5_many_5 rfl (lv_at hl 1 rfl) ?_
  refine ss_ki (ss_rV (C := RX5) (As := [.int (σ 0 1), .int (x1)]) (rest := []) F ((mX5_gauss l D A L wr cI cZ cS σ (σ 0 1) x1) _) gX5_many_X5_gauss rfl ⟨rfl, rfl⟩ ⟨rfl, dvX5_gauss⟩ ⟨Nat.le_of_ble_eq_true rfl, Nat.le_of_ble_eq_true rfl⟩ (ss_preV F.2.2.2.2.1 F.2.2.2.2.2 hC (ss_rec (C := RX5) (T := TX5) (N := 16) (ci := 5) F.2.2.2.2.1 hC (0) (Nat.le_of_ble_eq_true rfl) rfl rfl) hw) rfl hl.1 rfl (Nat.le_of_ble_eq_true rfl) dX5_many_6 ⟨Nat.zero_le _, Nat.zero_le _⟩) hC (fun r2 σ1 H locs hC hw => ?_)
  exact ss_iret F hC hw dX5_many_9

theorem mX5_many (l : Launch) (D : va_G) (A : Nat → Prop) (L : Nat → Nat) (wr : va_W) (cI cZ cS : ClassId) (σ : ss_S) (x1 : Int32)  : ss_MI l yX5_many wsX5_many rmX5_many (ss_EM D A L wr cI cZ cS) [.ref (L (0)), .int (x1)] σ (fun post => wX5_many x1 σ post) :=
  ss_MI.of (cc := cX5_many) (nL := 2) (ret := (some .int)) (own := RX5) (by decide) rfl rfl (Nat.le_of_ble_eq_true rfl) (fun post p e R s m below meth c H locs ls F hC hl hw => bX5_many F  σ H locs ls hC hl hw)

set_option maxHeartbeats 4000000 in
set_option maxRecDepth 100000 in
theorem tX5_free_4 {x1 : Int32} {post : Int32 → ss_S → Prop} (F : ss_F p R s m args meth c (ss_EM D A L wr cI cZ cS) cX5_free 4 wsX5_free RX5 (some .int) rmX5_free)  (k37 : Int32 → Int32 → ss_S → Prop) : ∀ (n : Nat) (x2 : Int32) (x3 : Int32) (σ : ss_S) (H : Heap) (locs : List Loc) (ls : Array Slot), ss_C (ss_EM D A L wr cI cZ cS) σ s H locs → lv_has ls 4 [(0, .ref (L (0))), (1, .int (x1)), (2, .int (x2)), (3, .int (x3))] → lX5_free_4 x1 post k37 n x2 x3 σ →
    (∀ (x2 : Int32) (x3 : Int32) (σ : ss_S) (H : Heap) (locs : List Loc) (ls : Array Slot), ss_C (ss_EM D A L wr cI cZ cS) σ s H locs → lv_has ls 4 [(2, .int (x2))] → k37 x2 x3 σ → W p l e R s m args below meth c H locs 0 0 (MQ below (va_Qi post (ss_B (ss_EM D A L wr cI cZ cS)) A) args s 0 0 A) (F0 m 37 ls [])) →
    W p l e R s m args below meth c H locs 0 0 (MQ below (va_Qi post (ss_B (ss_EM D A L wr cI cZ cS)) A) args s 0 0 A) (F0 m 4 ls []) := by
  have hx := F.1.1
  have hb := F.1.2.1
  have u_X5 : ∀ w ∈ u_ws RX5 TX5 16, w ∈ wsX5_free := by decide +kernel
  have f_42 : (Cond.fieldLink RX5 42 "SmallSpacesModel" "n" "I").before args s = true := F.1.2.2.2.2 _ (by decide +kernel)
  have f_29 : (Cond.fieldLink RX5 29 "SmallSpacesModel" "pivots" "[I").before args s = true := F.1.2.2.2.2 _ (by decide +kernel)
  intro n
  induction n with
  | zero => intro x2 x3 σ H locs ls hC hl hw; exact hw.elim
  | succ n ih =>
    intro x2 x3 σ H locs ls hC hl hw hk37
    refine lv_iload_n hx hb dX5_free_4 rfl (lv_at hl 3 rfl) ?_
    refine lv_iload_n hx hb dX5_free_5 rfl (lv_at hl 1 rfl) ?_
    refine lv_icmp_ge (tgt := 37) hx hb dX5_free_6 (by decide) (fun hc => ?_) (fun hc => ?_)
    · replace hw := hw.1 hc
      exact hk37 x2 x3 σ _ _ _ hC (lv_sub hl [2] rfl) hw
    · replace hw := hw.2 hc
      refine lv_iload_n hx hb dX5_free_9 rfl (lv_at hl 2 rfl) ?_
      refine lv_aload_n hx hb dX5_free_10 rfl (lv_at hl 0 rfl) ?_
      refine ss_get (C := RX5) (T := TX5) (N := 16) (ci := 5) (v := .int (σ 0 1)) F hC (0) u_X5 (Nat.le_of_ble_eq_true rfl) rfl rfl 1 (by decide) f_42 rfl dX5_free_11 ?_
      refine lv_iconst (v := 1) hx hb dX5_free_14 (by decide) ?_
      refine lv_isub hx hb dX5_free_15 ?_
      refine lv_aload_n hx hb dX5_free_16 rfl (lv_at hl 0 rfl) ?_
      refine ss_get (C := RX5) (T := TX5) (N := 16) (ci := 5) (v := .ref (L (7))) F hC (0) u_X5 (Nat.le_of_ble_eq_true rfl) rfl rfl 12 (by decide) f_29 rfl dX5_free_17 ?_
      refine lv_iload_n hx hb dX5_free_20 rfl (lv_at hl 3 rfl) ?_
      refine ss_iald F hC (7) 0 (Nat.le_of_ble_eq_true rfl) (fun _ => rfl) rfl hw.1 dX5_free_21 ?_
      replace hw := hw.2
      refine lv_isub hx hb dX5_free_22 ?_
      refine lv_iload_n hx hb dX5_free_23 rfl (lv_at hl 1 rfl) ?_
      refine lv_iconst (v := 1) hx hb dX5_free_24 (by decide) ?_
      refine lv_isub hx hb dX5_free_25 ?_
      refine lv_iload_n hx hb dX5_free_26 rfl (lv_at hl 3 rfl) ?_
      refine lv_isub hx hb dX5_free_27 ?_
      refine lv_isub hx hb dX5_free_28 ?_
      refine lv_iadd hx hb dX5_free_29 ?_
      refine lv_istore_n (lv' := [(2, .int (x2 + ((((σ 0 1) - 1) - (σ 7 (Int32.toNatClampNeg x3))) - ((x1 - 1) - x3)))), (0, .ref (L (0))), (1, .int (x1)), (3, .int (x3))]) hx hb dX5_free_30 rfl hl (by decide) rfl (fun ls hl => ?_)
      refine lv_iinc (v := x3 + 1) (lv' := [(3, .int (x3 + 1)), (2, .int (x2 + ((((σ 0 1) - 1) - (σ 7 (Int32.toNatClampNeg x3))) - ((x1 - 1) - x3)))), (0, .ref (L (0))), (1, .int (x1))]) hx hb dX5_free_31 hl (k := 3) rfl rfl (by decide) rfl (fun ls hl => ?_)
      refine lv_goto (tgt := 4) hx hb dX5_free_34 (by decide) ?_
      exact ih (x2 + ((((σ 0 1) - 1) - (σ 7 (Int32.toNatClampNeg x3))) - ((x1 - 1) - x3))) (x3 + 1) σ _ _ _ hC (lv_sub hl [2, 3, 1, 0] rfl) hw hk37

set_option maxHeartbeats 4000000 in
set_option maxRecDepth 100000 in
theorem bX5_free {x1 : Int32} {post : Int32 → ss_S → Prop} (F : ss_F p R s m args meth c (ss_EM D A L wr cI cZ cS) cX5_free 4 wsX5_free RX5 (some .int) rmX5_free)  : ∀ (σ : ss_S) (H : Heap) (locs : List Loc) (ls : Array Slot), ss_C (ss_EM D A L wr cI cZ cS) σ s H locs → lv_has ls 4 [(0, .ref (L (0))), (1, .int (x1))] → wX5_free x1 σ post → W p l e R s m args below meth c H locs 0 0 (MQ below (va_Qi post (ss_B (ss_EM D A L wr cI cZ cS)) A) args s 0 0 A) (F0 m 0 ls []) := by
  have hx := F.1.1
  have hb := F.1.2.1
  intro σ H locs ls hC hl hw
  unfold wX5_free at hw
  refine lv_iconst (v := 0) hx hb dX5_free_0 (by decide) ?_
  refine lv_istore_n (lv' := [(2, .int (0)), (0, .ref (L (0))), (1, .int (x1))]) hx hb dX5_free_1 rfl hl (by decide) rfl (fun ls hl => ?_)
  refine lv_iconst (v := 0) hx hb dX5_free_2 (by decide) ?_
  refine lv_istore_n (lv' := [(3, .int (0)), (2, .int (0)), (0, .ref (L (0))), (1, .int (x1))]) hx hb dX5_free_3 rfl hl (by decide) rfl (fun ls hl => ?_)
  obtain ⟨n_, hw⟩ := hw
  refine tX5_free_4 F  _ n_ 0 0 σ _ _ _ hC (lv_sub hl [2, 3, 1, 0] rfl) hw ?_
  · intro x2_1 x3_1 σ_1 H locs ls hC hl hw
    refine lv_iload_n hx hb dX5_free_37 rfl (lv_at hl 0 rfl) ?_
    exact ss_iret F hC hw dX5_free_38

theorem mX5_free (l : Launch) (D : va_G) (A : Nat → Prop) (L : Nat → Nat) (wr : va_W) (cI cZ cS : ClassId) (σ : ss_S) (x1 : Int32)  : ss_MI l yX5_free wsX5_free rmX5_free (ss_EM D A L wr cI cZ cS) [.ref (L (0)), .int (x1)] σ (fun post => wX5_free x1 σ post) :=
  ss_MI.of (cc := cX5_free) (nL := 4) (ret := (some .int)) (own := RX5) (by decide) rfl rfl (Nat.le_of_ble_eq_true rfl) (fun post p e R s m below meth c H locs ls F hC hl hw => bX5_free F  σ H locs ls hC hl hw)

set_option maxHeartbeats 4000000 in
set_option maxRecDepth 100000 in
theorem tX5_goOn_4 {x1 : Int32} {post : Int32 → ss_S → Prop} (F : ss_F p R s m args meth c (ss_EM D A L wr cI cZ cS) cX5_goOn 4 wsX5_goOn RX5 (some .boolean) rmX5_goOn)  (k31 : Int32 → ss_S → Prop) : ∀ (n : Nat) (x2 : Int32) (σ : ss_S) (H : Heap) (locs : List Loc) (ls : Array Slot), ss_C (ss_EM D A L wr cI cZ cS) σ s H locs → lv_has ls 4 [(0, .ref (L (0))), (1, .int (x1)), (2, .int (x2))] → lX5_goOn_4 x1 post k31 n x2 σ →
    (∀ (x2 : Int32) (σ : ss_S) (H : Heap) (locs : List Loc) (ls : Array Slot), ss_C (ss_EM D A L wr cI cZ cS) σ s H locs → lv_has ls 4 [(0, .ref (L (0))), (1, .int (x1)), (2, .int (x2))] → k31 x2 σ → W p l e R s m args below meth c H locs 0 0 (MQ below (va_Qi post (ss_B (ss_EM D A L wr cI cZ cS)) A) args s 0 0 A) (F0 m 31 ls [])) →
    W p l e R s m args below meth c H locs 0 0 (MQ below (va_Qi post (ss_B (ss_EM D A L wr cI cZ cS)) A) args s 0 0 A) (F0 m 4 ls []) := by
  have hx := F.1.1
  have hb := F.1.2.1
  have u_X5 : ∀ w ∈ u_ws RX5 TX5 16, w ∈ wsX5_goOn := by decide +kernel
  have f_29 : (Cond.fieldLink RX5 29 "SmallSpacesModel" "pivots" "[I").before args s = true := F.1.2.2.2.2 _ (by decide +kernel)
  have f_42 : (Cond.fieldLink RX5 42 "SmallSpacesModel" "n" "I").before args s = true := F.1.2.2.2.2 _ (by decide +kernel)
  intro n
  induction n with
  | zero => intro x2 σ H locs ls hC hl hw; exact hw.elim
  | succ n ih =>
    intro x2 σ H locs ls hC hl hw hk31
    refine lv_iload_n hx hb dX5_goOn_4 rfl (lv_at hl 2 rfl) ?_
    refine lv_if_lt (tgt := 31) hx hb dX5_goOn_5 (by decide) (fun hc => ?_) (fun hc => ?_)
    · replace hw := hw.1 hc
      exact hk31 x2 σ _ _ _ hC (lv_sub hl [0, 1, 2] rfl) hw
    · replace hw := hw.2 hc
      refine lv_aload_n hx hb dX5_goOn_8 rfl (lv_at hl 0 rfl) ?_
      refine ss_get (C := RX5) (T := TX5) (N := 16) (ci := 5) (v := .ref (L (7))) F hC (0) u_X5 (Nat.le_of_ble_eq_true rfl) rfl rfl 12 (by decide) f_29 rfl dX5_goOn_9 ?_
      refine lv_iload_n hx hb dX5_goOn_12 rfl (lv_at hl 2 rfl) ?_
      refine ss_iald F hC (7) 0 (Nat.le_of_ble_eq_true rfl) (fun _ => rfl) rfl hw.1 dX5_goOn_13 ?_
      replace hw := hw.2
      refine lv_aload_n hx hb dX5_goOn_14 rfl (lv_at hl 0 rfl) ?_
      refine ss_get (C := RX5) (T := TX5) (N := 16) (ci := 5) (v := .int (σ 0 1)) F hC (0) u_X5 (Nat.le_of_ble_eq_true rfl) rfl rfl 1 (by decide) f_42 rfl dX5_goOn_15 ?_
      refine lv_iload_n hx hb dX5_goOn_18 rfl (lv_at hl 1 rfl) ?_
      refine lv_isub hx hb dX5_goOn_19 ?_
      refine lv_iload_n hx hb dX5_goOn_20 rfl (lv_at hl 2 rfl) ?_
      refine lv_iadd hx hb dX5_goOn_21 ?_
      refine lv_icmp_ne (tgt := 31) hx hb dX5_goOn_22 (by decide) (fun hc => ?_) (fun hc => ?_)
      · replace hw := hw.1 hc
        exact hk31 x2 σ _ _ _ hC (lv_sub hl [0, 1, 2] rfl) hw
      · replace hw := hw.2 hc
        refine lv_iinc (v := x2 + (-1)) (lv' := [(2, .int (x2 + (-1))), (0, .ref (L (0))), (1, .int (x1))]) hx hb dX5_goOn_25 hl (k := 2) rfl rfl (by decide) rfl (fun ls hl => ?_)
        refine lv_goto (tgt := 4) hx hb dX5_goOn_28 (by decide) ?_
        exact ih (x2 + (-1)) σ _ _ _ hC (lv_sub hl [1, 2, 0] rfl) hw hk31

set_option maxHeartbeats 4000000 in
set_option maxRecDepth 100000 in
theorem tX5_goOn_51 {x1 : Int32} {post : Int32 → ss_S → Prop} (F : ss_F p R s m args meth c (ss_EM D A L wr cI cZ cS) cX5_goOn 4 wsX5_goOn RX5 (some .boolean) rmX5_goOn)  (k78 : Int32 → ss_S → Prop) : ∀ (n : Nat) (x3 : Int32) (σ : ss_S) (H : Heap) (locs : List Loc) (ls : Array Slot), ss_C (ss_EM D A L wr cI cZ cS) σ s H locs → lv_has ls 4 [(0, .ref (L (0))), (1, .int (x1)), (3, .int (x3))] → lX5_goOn_51 x1 post k78 n x3 σ →
    (∀ (x3 : Int32) (σ : ss_S) (H : Heap) (locs : List Loc) (ls : Array Slot), ss_C (ss_EM D A L wr cI cZ cS) σ s H locs → lv_has ls 4 [] → k78 x3 σ → W p l e R s m args below meth c H locs 0 0 (MQ below (va_Qi post (ss_B (ss_EM D A L wr cI cZ cS)) A) args s 0 0 A) (F0 m 78 ls [])) →
    W p l e R s m args below meth c H locs 0 0 (MQ below (va_Qi post (ss_B (ss_EM D A L wr cI cZ cS)) A) args s 0 0 A) (F0 m 51 ls []) := by
  have hx := F.1.1
  have hb := F.1.2.1
  have u_X5 : ∀ w ∈ u_ws RX5 TX5 16, w ∈ wsX5_goOn := by decide +kernel
  have f_29 : (Cond.fieldLink RX5 29 "SmallSpacesModel" "pivots" "[I").before args s = true := F.1.2.2.2.2 _ (by decide +kernel)
  intro n
  induction n with
  | zero => intro x3 σ H locs ls hC hl hw; exact hw.elim
  | succ n ih =>
    intro x3 σ H locs ls hC hl hw hk78
    refine lv_iload_n hx hb dX5_goOn_51 rfl (lv_at hl 2 rfl) ?_
    refine lv_iload_n hx hb dX5_goOn_52 rfl (lv_at hl 1 rfl) ?_
    refine lv_icmp_ge (tgt := 78) hx hb dX5_goOn_53 (by decide) (fun hc => ?_) (fun hc => ?_)
    · replace hw := hw.1 hc
      exact hk78 x3 σ _ _ _ hC (lv_sub hl [] rfl) hw
    · replace hw := hw.2 hc
      refine lv_aload_n hx hb dX5_goOn_56 rfl (lv_at hl 0 rfl) ?_
      refine ss_get (C := RX5) (T := TX5) (N := 16) (ci := 5) (v := .ref (L (7))) F hC (0) u_X5 (Nat.le_of_ble_eq_true rfl) rfl rfl 12 (by decide) f_29 rfl dX5_goOn_57 ?_
      refine lv_iload_n hx hb dX5_goOn_60 rfl (lv_at hl 2 rfl) ?_
      refine lv_aload_n hx hb dX5_goOn_61 rfl (lv_at hl 0 rfl) ?_
      refine ss_get (C := RX5) (T := TX5) (N := 16) (ci := 5) (v := .ref (L (7))) F hC (0) u_X5 (Nat.le_of_ble_eq_true rfl) rfl rfl 12 (by decide) f_29 rfl dX5_goOn_62 ?_
      refine lv_iload_n hx hb dX5_goOn_65 rfl (lv_at hl 2 rfl) ?_
      refine lv_iconst (v := 1) hx hb dX5_goOn_66 (by decide) ?_
      refine lv_isub hx hb dX5_goOn_67 ?_
      refine ss_iald F hC (7) 0 (Nat.le_of_ble_eq_true rfl) (fun _ => rfl) rfl hw.1 dX5_goOn_68 ?_
      replace hw := hw.2
      refine lv_iconst (v := 1) hx hb dX5_goOn_69 (by decide) ?_
      refine lv_iadd hx hb dX5_goOn_70 ?_
      refine ss_iast F hC (7) 0 (Nat.le_of_ble_eq_true rfl) (fun _ => rfl) rfl hw.1 dX5_goOn_71 (fun H locs hC => ?_)
      replace hw := hw.2
      refine lv_iinc (v := x3 + 1) (lv' := [(3, .int (x3 + 1)), (0, .ref (L (0))), (1, .int (x1))]) hx hb dX5_goOn_72 hl (k := 2) rfl rfl (by decide) rfl (fun ls hl => ?_)
      refine lv_goto (tgt := 51) hx hb dX5_goOn_75 (by decide) ?_
      exact ih (x3 + 1) (u2 σ 7 (Int32.toNatClampNeg x3) ((σ 7 (Int32.toNatClampNeg (x3 - 1))) + 1)) _ _ _ hC (lv_sub hl [1, 2, 0] rfl) hw hk78

set_option maxHeartbeats 4000000 in
set_option maxRecDepth 100000 in
theorem bX5_goOn {x1 : Int32} {post : Int32 → ss_S → Prop} (F : ss_F p R s m args meth c (ss_EM D A L wr cI cZ cS) cX5_goOn 4 wsX5_goOn RX5 (some .boolean) rmX5_goOn)  : ∀ (σ : ss_S) (H : Heap) (locs : List Loc) (ls : Array Slot), ss_C (ss_EM D A L wr cI cZ cS) σ s H locs → lv_has ls 4 [(0, .ref (L (0))), (1, .int (x1))] → wX5_goOn x1 σ post → W p l e R s m args below meth c H locs 0 0 (MQ below (va_Qi post (ss_B (ss_EM D A L wr cI cZ cS)) A) args s 0 0 A) (F0 m 0 ls []) := by
  have hx := F.1.1
  have hb := F.1.2.1
  have u_X5 : ∀ w ∈ u_ws RX5 TX5 16, w ∈ wsX5_goOn := by decide +kernel
  have f_29 : (Cond.fieldLink RX5 29 "SmallSpacesModel" "pivots" "[I").before args s = true := F.1.2.2.2.2 _ (by decide +kernel)
  intro σ H locs ls hC hl hw
  unfold wX5_goOn at hw
  refine lv_iload_n hx hb dX5_goOn_0 rfl (lv_at hl 1 rfl) ?_
  refine lv_iconst (v := 1) hx hb dX5_goOn_1 (by decide) ?_
  refine lv_isub hx hb dX5_goOn_2 ?_
  refine lv_istore_n (lv' := [(2, .int (x1 - 1)), (0, .ref (L (0))), (1, .int (x1))]) hx hb dX5_goOn_3 rfl hl (by decide) rfl (fun ls hl => ?_)
  obtain ⟨n_, hw⟩ := hw
  refine tX5_goOn_4 F  _ n_ (x1 - 1) σ _ _ _ hC (lv_sub hl [1, 2, 0] rfl) hw ?_
  · intro x2_1 σ_1 H locs ls hC hl hw
    refine lv_iload_n hx hb dX5_goOn_31 rfl (lv_at hl 2 rfl) ?_
    refine lv_if_ge (tgt := 37) hx hb dX5_goOn_32 (by decide) (fun hc => ?_) (fun hc => ?_)
    · replace hw := hw.1 hc
      refine lv_aload_n hx hb dX5_goOn_37 rfl (lv_at hl 0 rfl) ?_
      refine ss_get (C := RX5) (T := TX5) (N := 16) (ci := 5) (v := .ref (L (7))) F hC (0) u_X5 (Nat.le_of_ble_eq_true rfl) rfl rfl 12 (by decide) f_29 rfl dX5_goOn_38 ?_
      refine lv_iload_n hx hb dX5_goOn_41 rfl (lv_at hl 2 rfl) ?_
      refine lv_dup2_11 hx hb dX5_goOn_42 rfl rfl ?_
      refine ss_iald F hC (7) 0 (Nat.le_of_ble_eq_true rfl) (fun _ => rfl) rfl hw.1 dX5_goOn_43 ?_
      replace hw := hw.2
      refine lv_iconst (v := 1) hx hb dX5_goOn_44 (by decide) ?_
      refine lv_iadd hx hb dX5_goOn_45 ?_
      refine ss_iast F hC (7) 0 (Nat.le_of_ble_eq_true rfl) (fun _ => rfl) rfl hw.1 dX5_goOn_46 (fun H locs hC => ?_)
      replace hw := hw.2
      refine lv_iload_n hx hb dX5_goOn_47 rfl (lv_at hl 2 rfl) ?_
      refine lv_iconst (v := 1) hx hb dX5_goOn_48 (by decide) ?_
      refine lv_iadd hx hb dX5_goOn_49 ?_
      refine lv_istore_n (lv' := [(3, .int (x2_1 + 1)), (0, .ref (L (0))), (1, .int (x1)), (2, .int (x2_1))]) hx hb dX5_goOn_50 rfl hl (by decide) rfl (fun ls hl => ?_)
      obtain ⟨n_, hw⟩ := hw
      refine tX5_goOn_51 F  _ n_ (x2_1 + 1) (u2 σ_1 7 (Int32.toNatClampNeg x2_1) ((σ_1 7 (Int32.toNatClampNeg x2_1)) + 1)) _ _ _ hC (lv_sub hl [1, 2, 0] rfl) hw ?_
      · intro x3_2 σ_2 H locs ls hC hl hw
        refine lv_iconst (v := 1) hx hb dX5_goOn_78 (by decide) ?_
        exact ss_zret F hC rfl hw dX5_goOn_79
    · replace hw := hw.2 hc
      refine lv_iconst (v := 0) hx hb dX5_goOn_35 (by decide) ?_
      exact ss_zret F hC rfl hw dX5_goOn_36

theorem mX5_goOn (l : Launch) (D : va_G) (A : Nat → Prop) (L : Nat → Nat) (wr : va_W) (cI cZ cS : ClassId) (σ : ss_S) (x1 : Int32)  : ss_MI l yX5_goOn wsX5_goOn rmX5_goOn (ss_EM D A L wr cI cZ cS) [.ref (L (0)), .int (x1)] σ (fun post => wX5_goOn x1 σ post) :=
  ss_MI.of (cc := cX5_goOn) (nL := 4) (ret := (some .boolean)) (own := RX5) (by decide) rfl rfl (Nat.le_of_ble_eq_true rfl) (fun post p e R s m below meth c H locs ls F hC hl hw => bX5_goOn F  σ H locs ls hC hl hw)

set_option maxHeartbeats 4000000 in
set_option maxRecDepth 100000 in
theorem tX5_firstPivots_2 {x1 : Int32} {post : ss_S → Prop} (F : ss_F p R s m args meth c (ss_EM D A L wr cI cZ cS) cX5_firstPivots 3 wsX5_firstPivots RX5 none rmX5_firstPivots)  (k20 : Int32 → ss_S → Prop) : ∀ (n : Nat) (x2 : Int32) (σ : ss_S) (H : Heap) (locs : List Loc) (ls : Array Slot), ss_C (ss_EM D A L wr cI cZ cS) σ s H locs → lv_has ls 3 [(0, .ref (L (0))), (1, .int (x1)), (2, .int (x2))] → lX5_firstPivots_2 x1 post k20 n x2 σ →
    (∀ (x2 : Int32) (σ : ss_S) (H : Heap) (locs : List Loc) (ls : Array Slot), ss_C (ss_EM D A L wr cI cZ cS) σ s H locs → lv_has ls 3 [] → k20 x2 σ → W p l e R s m args below meth c H locs 0 0 (MQ below (va_Qv post (ss_B (ss_EM D A L wr cI cZ cS)) A) args s 0 0 A) (F0 m 20 ls [])) →
    W p l e R s m args below meth c H locs 0 0 (MQ below (va_Qv post (ss_B (ss_EM D A L wr cI cZ cS)) A) args s 0 0 A) (F0 m 2 ls []) := by
  have hx := F.1.1
  have hb := F.1.2.1
  have u_X5 : ∀ w ∈ u_ws RX5 TX5 16, w ∈ wsX5_firstPivots := by decide +kernel
  have f_29 : (Cond.fieldLink RX5 29 "SmallSpacesModel" "pivots" "[I").before args s = true := F.1.2.2.2.2 _ (by decide +kernel)
  intro n
  induction n with
  | zero => intro x2 σ H locs ls hC hl hw; exact hw.elim
  | succ n ih =>
    intro x2 σ H locs ls hC hl hw hk20
    refine lv_iload_n hx hb dX5_firstPivots_2 rfl (lv_at hl 2 rfl) ?_
    refine lv_iload_n hx hb dX5_firstPivots_3 rfl (lv_at hl 1 rfl) ?_
    refine lv_icmp_ge (tgt := 20) hx hb dX5_firstPivots_4 (by decide) (fun hc => ?_) (fun hc => ?_)
    · replace hw := hw.1 hc
      exact hk20 x2 σ _ _ _ hC (lv_sub hl [] rfl) hw
    · replace hw := hw.2 hc
      refine lv_aload_n hx hb dX5_firstPivots_7 rfl (lv_at hl 0 rfl) ?_
      refine ss_get (C := RX5) (T := TX5) (N := 16) (ci := 5) (v := .ref (L (7))) F hC (0) u_X5 (Nat.le_of_ble_eq_true rfl) rfl rfl 12 (by decide) f_29 rfl dX5_firstPivots_8 ?_
      refine lv_iload_n hx hb dX5_firstPivots_11 rfl (lv_at hl 2 rfl) ?_
      refine lv_iload_n hx hb dX5_firstPivots_12 rfl (lv_at hl 2 rfl) ?_
      refine ss_iast F hC (7) 0 (Nat.le_of_ble_eq_true rfl) (fun _ => rfl) rfl hw.1 dX5_firstPivots_13 (fun H locs hC => ?_)
      replace hw := hw.2
      refine lv_iinc (v := x2 + 1) (lv' := [(2, .int (x2 + 1)), (0, .ref (L (0))), (1, .int (x1))]) hx hb dX5_firstPivots_14 hl (k := 2) rfl rfl (by decide) rfl (fun ls hl => ?_)
      refine lv_goto (tgt := 2) hx hb dX5_firstPivots_17 (by decide) ?_
      exact ih (x2 + 1) (u2 σ 7 (Int32.toNatClampNeg x2) x2) _ _ _ hC (lv_sub hl [1, 2, 0] rfl) hw hk20

set_option maxHeartbeats 4000000 in
set_option maxRecDepth 100000 in
theorem bX5_firstPivots {x1 : Int32} {post : ss_S → Prop} (F : ss_F p R s m args meth c (ss_EM D A L wr cI cZ cS) cX5_firstPivots 3 wsX5_firstPivots RX5 none rmX5_firstPivots)  : ∀ (σ : ss_S) (H : Heap) (locs : List Loc) (ls : Array Slot), ss_C (ss_EM D A L wr cI cZ cS) σ s H locs → lv_has ls 3 [(0, .ref (L (0))), (1, .int (x1))] → wX5_firstPivots x1 σ post → W p l e R s m args below meth c H locs 0 0 (MQ below (va_Qv post (ss_B (ss_EM D A L wr cI cZ cS)) A) args s 0 0 A) (F0 m 0 ls []) := by
  have hx := F.1.1
  have hb := F.1.2.1
  intro σ H locs ls hC hl hw
  unfold wX5_firstPivots at hw
  refine lv_iconst (v := 0) hx hb dX5_firstPivots_0 (by decide) ?_
  refine lv_istore_n (lv' := [(2, .int (0)), (0, .ref (L (0))), (1, .int (x1))]) hx hb dX5_firstPivots_1 rfl hl (by decide) rfl (fun ls hl => ?_)
  obtain ⟨n_, hw⟩ := hw
  refine tX5_firstPivots_2 F  _ n_ 0 σ _ _ _ hC (lv_sub hl [1, 2, 0] rfl) hw ?_
  · intro x2_1 σ_1 H locs ls hC hl hw
    exact ss_vret F hC hw dX5_firstPivots_20

theorem mX5_firstPivots (l : Launch) (D : va_G) (A : Nat → Prop) (L : Nat → Nat) (wr : va_W) (cI cZ cS : ClassId) (σ : ss_S) (x1 : Int32)  : ss_MV l yX5_firstPivots wsX5_firstPivots rmX5_firstPivots (ss_EM D A L wr cI cZ cS) [.ref (L (0)), .int (x1)] σ (fun post => wX5_firstPivots x1 σ post) :=
  ss_MV.of (cc := cX5_firstPivots) (nL := 3) (ret := none) (own := RX5) (by decide) rfl rfl (Nat.le_of_ble_eq_true rfl) (fun post p e R s m below meth c H locs ls F hC hl hw => bX5_firstPivots F  σ H locs ls hC hl hw)

set_option maxHeartbeats 4000000 in
set_option maxRecDepth 100000 in
theorem tX5_isFree_20 {x1 : Int32} {x3 : Int32} {post : Int32 → ss_S → Prop} (F : ss_F p R s m args meth c (ss_EM D A L wr cI cZ cS) cX5_isFree 6 wsX5_isFree RX5 (some .boolean) rmX5_isFree)  (k55 : Int32 → Int32 → ss_S → Prop) : ∀ (n : Nat) (x4 : Int32) (x5 : Int32) (σ : ss_S) (H : Heap) (locs : List Loc) (ls : Array Slot), ss_C (ss_EM D A L wr cI cZ cS) σ s H locs → lv_has ls 6 [(0, .ref (L (0))), (1, .int (x1)), (3, .int (x3)), (4, .int (x4)), (5, .int (x5))] → lX5_isFree_20 x1 x3 post k55 n x4 x5 σ →
    (∀ (x4 : Int32) (x5 : Int32) (σ : ss_S) (H : Heap) (locs : List Loc) (ls : Array Slot), ss_C (ss_EM D A L wr cI cZ cS) σ s H locs → lv_has ls 6 [(4, .int (x4))] → k55 x4 x5 σ → W p l e R s m args below meth c H locs 0 0 (MQ below (va_Qi post (ss_B (ss_EM D A L wr cI cZ cS)) A) args s 0 0 A) (F0 m 55 ls [])) →
    W p l e R s m args below meth c H locs 0 0 (MQ below (va_Qi post (ss_B (ss_EM D A L wr cI cZ cS)) A) args s 0 0 A) (F0 m 20 ls []) := by
  have hx := F.1.1
  have hb := F.1.2.1
  have u_X5 : ∀ w ∈ u_ws RX5 TX5 16, w ∈ wsX5_isFree := by decide +kernel
  have f_29 : (Cond.fieldLink RX5 29 "SmallSpacesModel" "pivots" "[I").before args s = true := F.1.2.2.2.2 _ (by decide +kernel)
  intro n
  induction n with
  | zero => intro x4 x5 σ H locs ls hC hl hw; exact hw.elim
  | succ n ih =>
    intro x4 x5 σ H locs ls hC hl hw hk55
    refine lv_iload hx hb dX5_isFree_20 (lv_at hl 4 rfl) ?_
    refine lv_iload_n hx hb dX5_isFree_22 rfl (lv_at hl 1 rfl) ?_
    refine lv_icmp_ge (tgt := 55) hx hb dX5_isFree_23 (by decide) (fun hc => ?_) (fun hc => ?_)
    · replace hw := hw.1 hc
      exact hk55 x4 x5 σ _ _ _ hC (lv_sub hl [3] rfl) hw
    · replace hw := hw.2 hc
      refine lv_iload hx hb dX5_isFree_26 (lv_at hl 3 rfl) ?_
      refine lv_if_eq (tgt := 46) hx hb dX5_isFree_28 (by decide) (fun hc => ?_) (fun hc => ?_)
      · replace hw := hw.1 hc
        refine lv_iconst (v := 0) hx hb dX5_isFree_46 (by decide) ?_
        refine lv_istore (lv' := [(4, .int (0)), (0, .ref (L (0))), (1, .int (x1)), (3, .int (x3)), (5, .int (x5))]) hx hb dX5_isFree_47 hl (by decide) rfl (fun ls hl => ?_)
        refine lv_iinc (v := x5 + 1) (lv' := [(5, .int (x5 + 1)), (4, .int (0)), (0, .ref (L (0))), (1, .int (x1)), (3, .int (x3))]) hx hb dX5_isFree_49 hl (k := 4) rfl rfl (by decide) rfl (fun ls hl => ?_)
        refine lv_goto (tgt := 20) hx hb dX5_isFree_52 (by decide) ?_
        exact ih 0 (x5 + 1) σ _ _ _ hC (lv_sub hl [2, 3, 4, 1, 0] rfl) hw hk55
      · replace hw := hw.2 hc
        refine lv_aload_n hx hb dX5_isFree_31 rfl (lv_at hl 0 rfl) ?_
        refine ss_get (C := RX5) (T := TX5) (N := 16) (ci := 5) (v := .ref (L (7))) F hC (0) u_X5 (Nat.le_of_ble_eq_true rfl) rfl rfl 12 (by decide) f_29 rfl dX5_isFree_32 ?_
        refine lv_iload hx hb dX5_isFree_35 (lv_at hl 4 rfl) ?_
        refine ss_iald F hC (7) 0 (Nat.le_of_ble_eq_true rfl) (fun _ => rfl) rfl hw.1 dX5_isFree_37 ?_
        replace hw := hw.2
        refine lv_iload_n hx hb dX5_isFree_38 rfl (lv_at hl 2 rfl) ?_
        refine lv_icmp_eq (tgt := 46) hx hb dX5_isFree_39 (by decide) (fun hc => ?_) (fun hc => ?_)
        · replace hw := hw.1 hc
          refine lv_iconst (v := 0) hx hb dX5_isFree_46 (by decide) ?_
          refine lv_istore (lv' := [(4, .int (0)), (0, .ref (L (0))), (1, .int (x1)), (3, .int (x3)), (5, .int (x5))]) hx hb dX5_isFree_47 hl (by decide) rfl (fun ls hl => ?_)
          refine lv_iinc (v := x5 + 1) (lv' := [(5, .int (x5 + 1)), (4, .int (0)), (0, .ref (L (0))), (1, .int (x1)), (3, .int (x3))]) hx hb dX5_isFree_49 hl (k := 4) rfl rfl (by decide) rfl (fun ls hl => ?_)
          refine lv_goto (tgt := 20) hx hb dX5_isFree_52 (by decide) ?_
          exact ih 0 (x5 + 1) σ _ _ _ hC (lv_sub hl [2, 3, 4, 1, 0] rfl) hw hk55
        · replace hw := hw.2 hc
          refine lv_iconst (v := 1) hx hb dX5_isFree_42 (by decide) ?_
          refine lv_goto (tgt := 47) hx hb dX5_isFree_43 (by decide) ?_
          refine lv_istore (lv' := [(4, .int (1)), (0, .ref (L (0))), (1, .int (x1)), (3, .int (x3)), (5, .int (x5))]) hx hb dX5_isFree_47 hl (by decide) rfl (fun ls hl => ?_)
          refine lv_iinc (v := x5 + 1) (lv' := [(5, .int (x5 + 1)), (4, .int (1)), (0, .ref (L (0))), (1, .int (x1)), (3, .int (x3))]) hx hb dX5_isFree_49 hl (k := 4) rfl rfl (by decide) rfl (fun ls hl => ?_)
          refine lv_goto (tgt := 20) hx hb dX5_isFree_52 (by decide) ?_
          exact ih 1 (x5 + 1) σ _ _ _ hC (lv_sub hl [2, 3, 4, 1, 0] rfl) hw hk55

set_option maxHeartbeats 4000000 in
set_option maxRecDepth 100000 in
theorem bX5_isFree {x1 : Int32} {x2 : Int32} {x3 : Int32} {post : Int32 → ss_S → Prop} (F : ss_F p R s m args meth c (ss_EM D A L wr cI cZ cS) cX5_isFree 6 wsX5_isFree RX5 (some .boolean) rmX5_isFree)  : ∀ (σ : ss_S) (H : Heap) (locs : List Loc) (ls : Array Slot), ss_C (ss_EM D A L wr cI cZ cS) σ s H locs → lv_has ls 6 [(0, .ref (L (0))), (1, .int (x1)), (2, .int (x2)), (3, .int (x3))] → wX5_isFree x1 x2 x3 σ post → W p l e R s m args below meth c H locs 0 0 (MQ below (va_Qi post (ss_B (ss_EM D A L wr cI cZ cS)) A) args s 0 0 A) (F0 m 0 ls []) := by
  have hx := F.1.1
  have hb := F.1.2.1
  have u_X5 : ∀ w ∈ u_ws RX5 TX5 16, w ∈ wsX5_isFree := by decide +kernel
  have f_29 : (Cond.fieldLink RX5 29 "SmallSpacesModel" "pivots" "[I").before args s = true := F.1.2.2.2.2 _ (by decide +kernel)
  intro σ H locs ls hC hl hw
  unfold wX5_isFree at hw
  refine lv_iload_n hx hb dX5_isFree_0 rfl (lv_at hl 3 rfl) ?_
  refine lv_aload_n hx hb dX5_isFree_1 rfl (lv_at hl 0 rfl) ?_
  refine ss_get (C := RX5) (T := TX5) (N := 16) (ci := 5) (v := .ref (L (7))) F hC (0) u_X5 (Nat.le_of_ble_eq_true rfl) rfl rfl 12 (by decide) f_29 rfl dX5_isFree_2 ?_
  refine lv_iload_n hx hb dX5_isFree_5 rfl (lv_at hl 2 rfl) ?_
  refine ss_iald F hC (7) 0 (Nat.le_of_ble_eq_true rfl) (fun _ => rfl) rfl hw.1 dX5_isFree_6 ?_
  replace hw := hw.2
  refine lv_icmp_le (tgt := 14) hx hb dX5_isFree_7 (by decide) (fun hc => ?_) (fun hc => ?_)
  · replace hw := hw.1 hc
    refine lv_iconst (v := 0) hx hb dX5_isFree_14 (by decide) ?_
    refine lv_istore (lv' := [(4, .int (0)), (0, .ref (L (0))), (1, .int (x1)), (2, .int (x2)), (3, .int (x3))]) hx hb dX5_isFree_15 hl (by decide) rfl (fun ls hl => ?_)
    refine lv_iconst (v := 0) hx hb dX5_isFree_17 (by decide) ?_
    refine lv_istore (lv' := [(5, .int (0)), (4, .int (0)), (0, .ref (L (0))), (1, .int (x1)), (2, .int (x2)), (3, .int (x3))]) hx hb dX5_isFree_18 hl (by decide) rfl (fun ls hl => ?_)
    obtain ⟨n_, hw⟩ := hw
    refine tX5_isFree_20 F  _ n_ 0 0 σ _ _ _ hC (lv_sub hl [2, 3, 5, 1, 0] rfl) hw ?_
    · intro x4_1 x5_1 σ_1 H locs ls hC hl hw
      refine lv_iload hx hb dX5_isFree_55 (lv_at hl 0 rfl) ?_
      exact ss_zret F hC hw.1 hw.2 dX5_isFree_57
  · replace hw := hw.2 hc
    refine lv_iconst (v := 1) hx hb dX5_isFree_10 (by decide) ?_
    refine lv_goto (tgt := 15) hx hb dX5_isFree_11 (by decide) ?_
    refine lv_istore (lv' := [(4, .int (1)), (0, .ref (L (0))), (1, .int (x1)), (2, .int (x2)), (3, .int (x3))]) hx hb dX5_isFree_15 hl (by decide) rfl (fun ls hl => ?_)
    refine lv_iconst (v := 0) hx hb dX5_isFree_17 (by decide) ?_
    refine lv_istore (lv' := [(5, .int (0)), (4, .int (1)), (0, .ref (L (0))), (1, .int (x1)), (2, .int (x2)), (3, .int (x3))]) hx hb dX5_isFree_18 hl (by decide) rfl (fun ls hl => ?_)
    obtain ⟨n_, hw⟩ := hw
    refine tX5_isFree_20 F  _ n_ 1 0 σ _ _ _ hC (lv_sub hl [2, 3, 5, 1, 0] rfl) hw ?_
    · intro x4_2 x5_2 σ_2 H locs ls hC hl hw
      refine lv_iload hx hb dX5_isFree_55 (lv_at hl 0 rfl) ?_
      exact ss_zret F hC hw.1 hw.2 dX5_isFree_57

theorem mX5_isFree (l : Launch) (D : va_G) (A : Nat → Prop) (L : Nat → Nat) (wr : va_W) (cI cZ cS : ClassId) (σ : ss_S) (x1 : Int32) (x2 : Int32) (x3 : Int32)  : ss_MI l yX5_isFree wsX5_isFree rmX5_isFree (ss_EM D A L wr cI cZ cS) [.ref (L (0)), .int (x1), .int (x2), .int (x3)] σ (fun post => wX5_isFree x1 x2 x3 σ post) :=
  ss_MI.of (cc := cX5_isFree) (nL := 6) (ret := (some .boolean)) (own := RX5) (by decide) rfl rfl (Nat.le_of_ble_eq_true rfl) (fun post p e R s m below meth c H locs ls F hC hl hw => bX5_isFree F  σ H locs ls hC hl hw)

set_option maxHeartbeats 4000000 in
set_option maxRecDepth 100000 in
theorem tX5_number_38 {x1 : Int32} {x2 : Int32} {x3 : Int32} {post : Int32 → ss_S → Prop} (F : ss_F p R s m args meth c (ss_EM D A L wr cI cZ cS) cX5_number 8 wsX5_number RX5 (some .int) rmX5_number)  (k88 : Int32 → Int32 → ss_S → Prop) : ∀ (n : Nat) (x4 : Int32) (x5 : Int32) (σ : ss_S) (H : Heap) (locs : List Loc) (ls : Array Slot), ss_C (ss_EM D A L wr cI cZ cS) σ s H locs → lv_has ls 8 [(0, .ref (L (0))), (1, .int (x1)), (2, .int (x2)), (3, .int (x3)), (4, .int (x4)), (5, .int (x5))] → lX5_number_38 x1 x2 x3 post k88 n x4 x5 σ →
    (∀ (x4 : Int32) (x5 : Int32) (σ : ss_S) (H : Heap) (locs : List Loc) (ls : Array Slot), ss_C (ss_EM D A L wr cI cZ cS) σ s H locs → lv_has ls 8 [(0, .ref (L (0))), (1, .int (x1)), (2, .int (x2)), (3, .int (x3)), (4, .int (x4))] → k88 x4 x5 σ → W p l e R s m args below meth c H locs 0 0 (MQ below (va_Qi post (ss_B (ss_EM D A L wr cI cZ cS)) A) args s 0 0 A) (F0 m 88 ls [])) →
    W p l e R s m args below meth c H locs 0 0 (MQ below (va_Qi post (ss_B (ss_EM D A L wr cI cZ cS)) A) args s 0 0 A) (F0 m 38 ls []) := by
  have hx := F.1.1
  have hb := F.1.2.1
  have u_X5 : ∀ w ∈ u_ws RX5 TX5 16, w ∈ wsX5_number := by decide +kernel
  have f_29 : (Cond.fieldLink RX5 29 "SmallSpacesModel" "pivots" "[I").before args s = true := F.1.2.2.2.2 _ (by decide +kernel)
  have f_23 : (Cond.fieldLink RX5 23 "SmallSpacesModel" "rows" "[I").before args s = true := F.1.2.2.2.2 _ (by decide +kernel)
  intro n
  induction n with
  | zero => intro x4 x5 σ H locs ls hC hl hw; exact hw.elim
  | succ n ih =>
    intro x4 x5 σ H locs ls hC hl hw hk88
    refine lv_iload hx hb dX5_number_38 (lv_at hl 5 rfl) ?_
    refine lv_iload_n hx hb dX5_number_40 rfl (lv_at hl 2 rfl) ?_
    refine lv_icmp_ge (tgt := 88) hx hb dX5_number_41 (by decide) (fun hc => ?_) (fun hc => ?_)
    · replace hw := hw.1 hc
      exact hk88 x4 x5 σ _ _ _ hC (lv_sub hl [0, 1, 2, 3, 4] rfl) hw
    · replace hw := hw.2 hc
      refine lv_iload hx hb dX5_number_44 (lv_at hl 4 rfl) ?_
      refine lv_if_eq (tgt := 79) hx hb dX5_number_46 (by decide) (fun hc => ?_) (fun hc => ?_)
      · replace hw := hw.1 hc
        refine lv_iconst (v := 0) hx hb dX5_number_79 (by decide) ?_
        refine lv_istore (lv' := [(4, .int (0)), (0, .ref (L (0))), (1, .int (x1)), (2, .int (x2)), (3, .int (x3)), (5, .int (x5))]) hx hb dX5_number_80 hl (by decide) rfl (fun ls hl => ?_)
        refine lv_iinc (v := x5 + 1) (lv' := [(5, .int (x5 + 1)), (4, .int (0)), (0, .ref (L (0))), (1, .int (x1)), (2, .int (x2)), (3, .int (x3))]) hx hb dX5_number_82 hl (k := 5) rfl rfl (by decide) rfl (fun ls hl => ?_)
        refine lv_goto (tgt := 38) hx hb dX5_number_85 (by decide) ?_
        exact ih 0 (x5 + 1) σ _ _ _ hC (lv_sub hl [2, 3, 4, 5, 1, 0] rfl) hw hk88
      · replace hw := hw.2 hc
        refine lv_aload_n hx hb dX5_number_49 rfl (lv_at hl 0 rfl) ?_
        refine ss_get (C := RX5) (T := TX5) (N := 16) (ci := 5) (v := .ref (L (7))) F hC (0) u_X5 (Nat.le_of_ble_eq_true rfl) rfl rfl 12 (by decide) f_29 rfl dX5_number_50 ?_
        refine lv_iload hx hb dX5_number_53 (lv_at hl 5 rfl) ?_
        refine ss_iald F hC (7) 0 (Nat.le_of_ble_eq_true rfl) (fun _ => rfl) rfl hw.1 dX5_number_55 ?_
        replace hw := hw.2
        refine lv_aload_n hx hb dX5_number_56 rfl (lv_at hl 0 rfl) ?_
        refine lv_aload_n hx hb dX5_number_57 rfl (lv_at hl 0 rfl) ?_
        refine ss_get (C := RX5) (T := TX5) (N := 16) (ci := 5) (v := .ref (L (5))) F hC (0) u_X5 (Nat.le_of_ble_eq_true rfl) rfl rfl 10 (by decide) f_23 rfl dX5_number_58 ?_
        refine lv_bipush (v := 6) hx hb dX5_number_61 (by decide) ?_
        refine lv_iload_n hx hb dX5_number_63 rfl (lv_at hl 1 rfl) ?_
        refine lv_imul hx hb dX5_number_64 ?_
        refine lv_iload hx hb dX5_number_65 (lv_at hl 5 rfl) ?_
        refine lv_iadd hx hb dX5_number_67 ?_
        refine ss_iald F hC (5) 0 (Nat.le_of_ble_eq_true rfl) (fun _ => rfl) rfl hw.1 dX5_number_68 ?_
        replace hw := hw.2
        refine ss_ki (ss_rV (C := RX5) (As := [.int (σ 5 (Int32.toNatClampNeg ((6 * x1) + x5)))]) (rest := [.int (σ 7 (Int32.toNatClampNeg x5))]) F ((mX5_pivot l D A L wr cI cZ cS σ (σ 5 (Int32.toNatClampNeg ((6 * x1) + x5)))) _) gX5_number_X5_pivot rfl ⟨rfl, rfl⟩ ⟨rfl, dvX5_pivot⟩ ⟨Nat.le_of_ble_eq_true rfl, Nat.le_of_ble_eq_true rfl⟩ (ss_preV F.2.2.2.2.1 F.2.2.2.2.2 hC (ss_rec (C := RX5) (T := TX5) (N := 16) (ci := 5) F.2.2.2.2.1 hC (0) (Nat.le_of_ble_eq_true rfl) rfl rfl) hw) rfl hl.1 rfl (Nat.le_of_ble_eq_true rfl) dX5_number_69 ⟨Nat.zero_le _, Nat.zero_le _⟩) hC (fun r5 σ4 H locs hC hw => ?_)
        refine lv_icmp_ne (tgt := 79) hx hb dX5_number_72 (by decide) (fun hc => ?_) (fun hc => ?_)
        · replace hw := hw.1 hc
          refine lv_iconst (v := 0) hx hb dX5_number_79 (by decide) ?_
          refine lv_istore (lv' := [(4, .int (0)), (0, .ref (L (0))), (1, .int (x1)), (2, .int (x2)), (3, .int (x3)), (5, .int (x5))]) hx hb dX5_number_80 hl (by decide) rfl (fun ls hl => ?_)
          refine lv_iinc (v := x5 + 1) (lv' := [(5, .int (x5 + 1)), (4, .int (0)), (0, .ref (L (0))), (1, .int (x1)), (2, .int (x2)), (3, .int (x3))]) hx hb dX5_number_82 hl (k := 5) rfl rfl (by decide) rfl (fun ls hl => ?_)
          refine lv_goto (tgt := 38) hx hb dX5_number_85 (by decide) ?_
          exact ih 0 (x5 + 1) σ4 _ _ _ hC (lv_sub hl [2, 3, 4, 5, 1, 0] rfl) hw hk88
        · replace hw := hw.2 hc
          refine lv_iconst (v := 1) hx hb dX5_number_75 (by decide) ?_
          refine lv_goto (tgt := 80) hx hb dX5_number_76 (by decide) ?_
          refine lv_istore (lv' := [(4, .int (1)), (0, .ref (L (0))), (1, .int (x1)), (2, .int (x2)), (3, .int (x3)), (5, .int (x5))]) hx hb dX5_number_80 hl (by decide) rfl (fun ls hl => ?_)
          refine lv_iinc (v := x5 + 1) (lv' := [(5, .int (x5 + 1)), (4, .int (1)), (0, .ref (L (0))), (1, .int (x1)), (2, .int (x2)), (3, .int (x3))]) hx hb dX5_number_82 hl (k := 5) rfl rfl (by decide) rfl (fun ls hl => ?_)
          refine lv_goto (tgt := 38) hx hb dX5_number_85 (by decide) ?_
          exact ih 1 (x5 + 1) σ4 _ _ _ hC (lv_sub hl [2, 3, 4, 5, 1, 0] rfl) hw hk88

set_option maxHeartbeats 4000000 in
set_option maxRecDepth 100000 in
theorem tX5_number_27 {x1 : Int32} {x2 : Int32} {post : Int32 → ss_S → Prop} (F : ss_F p R s m args meth c (ss_EM D A L wr cI cZ cS) cX5_number 8 wsX5_number RX5 (some .int) rmX5_number)  (k117 : Int32 → Int32 → ss_S → Prop) : ∀ (n : Nat) (x3 : Int32) (x4 : Int32) (σ : ss_S) (H : Heap) (locs : List Loc) (ls : Array Slot), ss_C (ss_EM D A L wr cI cZ cS) σ s H locs → lv_has ls 8 [(0, .ref (L (0))), (1, .int (x1)), (2, .int (x2)), (3, .int (x3)), (4, .int (x4))] → lX5_number_27 x1 x2 post k117 n x3 x4 σ →
    (∀ (x3 : Int32) (x4 : Int32) (σ : ss_S) (H : Heap) (locs : List Loc) (ls : Array Slot), ss_C (ss_EM D A L wr cI cZ cS) σ s H locs → lv_has ls 8 [(0, .ref (L (0))), (1, .int (x1)), (2, .int (x2)), (3, .int (x3))] → k117 x3 x4 σ → W p l e R s m args below meth c H locs 0 0 (MQ below (va_Qi post (ss_B (ss_EM D A L wr cI cZ cS)) A) args s 0 0 A) (F0 m 117 ls [])) →
    W p l e R s m args below meth c H locs 0 0 (MQ below (va_Qi post (ss_B (ss_EM D A L wr cI cZ cS)) A) args s 0 0 A) (F0 m 27 ls []) := by
  have hx := F.1.1
  have hb := F.1.2.1
  have u_X5 : ∀ w ∈ u_ws RX5 TX5 16, w ∈ wsX5_number := by decide +kernel
  have f_38 : (Cond.fieldLink RX5 38 "SmallSpacesModel" "q" "I").before args s = true := F.1.2.2.2.2 _ (by decide +kernel)
  intro n
  induction n with
  | zero => intro x3 x4 σ H locs ls hC hl hw; exact hw.elim
  | succ n ih =>
    intro x3 x4 σ H locs ls hC hl hw hk117
    refine lv_iload hx hb dX5_number_27 (lv_at hl 4 rfl) ?_
    refine lv_if_ne (tgt := 117) hx hb dX5_number_29 (by decide) (fun hc => ?_) (fun hc => ?_)
    · replace hw := hw.1 hc
      exact hk117 x3 x4 σ _ _ _ hC (lv_sub hl [0, 1, 2, 3] rfl) hw
    · replace hw := hw.2 hc
      refine lv_iconst (v := 1) hx hb dX5_number_32 (by decide) ?_
      refine lv_istore (lv' := [(4, .int (1)), (0, .ref (L (0))), (1, .int (x1)), (2, .int (x2)), (3, .int (x3))]) hx hb dX5_number_33 hl (by decide) rfl (fun ls hl => ?_)
      refine lv_iconst (v := 0) hx hb dX5_number_35 (by decide) ?_
      refine lv_istore (lv' := [(5, .int (0)), (4, .int (1)), (0, .ref (L (0))), (1, .int (x1)), (2, .int (x2)), (3, .int (x3))]) hx hb dX5_number_36 hl (by decide) rfl (fun ls hl => ?_)
      obtain ⟨n_, hw⟩ := hw
      refine tX5_number_38 F  _ n_ 1 0 σ _ _ _ hC (lv_sub hl [2, 3, 4, 5, 1, 0] rfl) hw ?_
      · intro x4_6 x5_6 σ_6 H locs ls hC hl hw
        refine lv_iload hx hb dX5_number_88 (lv_at hl 4 rfl) ?_
        refine lv_if_ne (tgt := 27) hx hb dX5_number_90 (by decide) (fun hc => ?_) (fun hc => ?_)
        · replace hw := hw.1 hc
          exact ih x3 x4_6 σ_6 _ _ _ hC (lv_sub hl [0, 1, 2, 3, 4] rfl) hw hk117
        · replace hw := hw.2 hc
          refine lv_iload_n hx hb dX5_number_93 rfl (lv_at hl 3 rfl) ?_
          refine lv_aload_n hx hb dX5_number_94 rfl (lv_at hl 0 rfl) ?_
          refine ss_get (C := RX5) (T := TX5) (N := 16) (ci := 5) (v := .int (σ_6 0 0)) F hC (0) u_X5 (Nat.le_of_ble_eq_true rfl) rfl rfl 0 (by decide) f_38 rfl dX5_number_95 ?_
          refine lv_aload_n hx hb dX5_number_98 rfl (lv_at hl 0 rfl) ?_
          refine lv_iload_n hx hb dX5_number_99 rfl (lv_at hl 2 rfl) ?_
          refine ss_ki (ss_rV (C := RX5) (As := [.int (x2)]) (rest := [.int (σ_6 0 0), .int (x3)]) F ((mX5_free l D A L wr cI cZ cS σ_6 x2) _) gX5_number_X5_free rfl ⟨rfl, rfl⟩ ⟨rfl, dvX5_free⟩ ⟨Nat.le_of_ble_eq_true rfl, Nat.le_of_ble_eq_true rfl⟩ (ss_preV F.2.2.2.2.1 F.2.2.2.2.2 hC (ss_rec (C := RX5) (T := TX5) (N := 16) (ci := 5) F.2.2.2.2.1 hC (0) (Nat.le_of_ble_eq_true rfl) rfl rfl) hw) rfl hl.1 rfl (Nat.le_of_ble_eq_true rfl) dX5_number_100 ⟨Nat.zero_le _, Nat.zero_le _⟩) hC (fun r8 σ7 H locs hC hw => ?_)
          refine ss_ki (ss_rS (As := [.int (σ_6 0 0), .int (r8)]) (rest := [.int (x3)]) F ((mX5_power l D A L wr cI cZ cS σ7 (σ_6 0 0) r8) _) gX5_number_X5_power rfl ⟨rfl, rfl⟩ dvX5_power ⟨Nat.le_of_ble_eq_true rfl, Nat.le_of_ble_eq_true rfl⟩ (ss_preS F.2.2.2.2.1 F.2.2.2.2.2 hC hw) rfl hl.1 rfl (Nat.le_of_ble_eq_true rfl) dX5_number_103 ⟨Nat.zero_le _, Nat.zero_le _⟩) hC (fun r10 σ9 H locs hC hw => ?_)
          refine lv_iadd hx hb dX5_number_106 ?_
          refine lv_istore_n (lv' := [(3, .int (x3 + r10)), (0, .ref (L (0))), (1, .int (x1)), (2, .int (x2)), (4, .int (x4_6))]) hx hb dX5_number_107 rfl hl (by decide) rfl (fun ls hl => ?_)
          refine lv_aload_n hx hb dX5_number_108 rfl (lv_at hl 1 rfl) ?_
          refine lv_iload_n hx hb dX5_number_109 rfl (lv_at hl 3 rfl) ?_
          refine ss_ki (ss_rV (C := RX5) (As := [.int (x2)]) (rest := []) F ((mX5_goOn l D A L wr cI cZ cS σ9 x2) _) gX5_number_X5_goOn rfl ⟨rfl, rfl⟩ ⟨rfl, dvX5_goOn⟩ ⟨Nat.le_of_ble_eq_true rfl, Nat.le_of_ble_eq_true rfl⟩ (ss_preV F.2.2.2.2.1 F.2.2.2.2.2 hC (ss_rec (C := RX5) (T := TX5) (N := 16) (ci := 5) F.2.2.2.2.1 hC (0) (Nat.le_of_ble_eq_true rfl) rfl rfl) hw) rfl hl.1 rfl (Nat.le_of_ble_eq_true rfl) dX5_number_110 ⟨Nat.zero_le _, Nat.zero_le _⟩) hC (fun r12 σ11 H locs hC hw => ?_)
          refine lv_pop hx hb dX5_number_113 rfl ?_
          refine lv_goto (tgt := 27) hx hb dX5_number_114 (by decide) ?_
          exact ih (x3 + r10) x4_6 σ11 _ _ _ hC (lv_sub hl [1, 2, 3, 0, 4] rfl) hw hk117

set_option maxHeartbeats 4000000 in
set_option maxRecDepth 100000 in
theorem tX5_number_132 {x1 : Int32} {x2 : Int32} {x3 : Int32} {x6 : Int32} {post : Int32 → ss_S → Prop} (F : ss_F p R s m args meth c (ss_EM D A L wr cI cZ cS) cX5_number 8 wsX5_number RX5 (some .int) rmX5_number)  (k187 : Int32 → Int32 → ss_S → Prop) : ∀ (n : Nat) (x5 : Int32) (x7 : Int32) (σ : ss_S) (H : Heap) (locs : List Loc) (ls : Array Slot), ss_C (ss_EM D A L wr cI cZ cS) σ s H locs → lv_has ls 8 [(0, .ref (L (0))), (1, .int (x1)), (2, .int (x2)), (3, .int (x3)), (5, .int (x5)), (6, .int (x6)), (7, .int (x7))] → lX5_number_132 x1 x2 x3 x6 post k187 n x5 x7 σ →
    (∀ (x5 : Int32) (x7 : Int32) (σ : ss_S) (H : Heap) (locs : List Loc) (ls : Array Slot), ss_C (ss_EM D A L wr cI cZ cS) σ s H locs → lv_has ls 8 [(0, .ref (L (0))), (1, .int (x1)), (2, .int (x2)), (3, .int (x3)), (5, .int (x5)), (6, .int (x6))] → k187 x5 x7 σ → W p l e R s m args below meth c H locs 0 0 (MQ below (va_Qi post (ss_B (ss_EM D A L wr cI cZ cS)) A) args s 0 0 A) (F0 m 187 ls [])) →
    W p l e R s m args below meth c H locs 0 0 (MQ below (va_Qi post (ss_B (ss_EM D A L wr cI cZ cS)) A) args s 0 0 A) (F0 m 132 ls []) := by
  have hx := F.1.1
  have hb := F.1.2.1
  have u_X5 : ∀ w ∈ u_ws RX5 TX5 16, w ∈ wsX5_number := by decide +kernel
  have f_42 : (Cond.fieldLink RX5 42 "SmallSpacesModel" "n" "I").before args s = true := F.1.2.2.2.2 _ (by decide +kernel)
  have f_38 : (Cond.fieldLink RX5 38 "SmallSpacesModel" "q" "I").before args s = true := F.1.2.2.2.2 _ (by decide +kernel)
  have f_23 : (Cond.fieldLink RX5 23 "SmallSpacesModel" "rows" "[I").before args s = true := F.1.2.2.2.2 _ (by decide +kernel)
  intro n
  induction n with
  | zero => intro x5 x7 σ H locs ls hC hl hw; exact hw.elim
  | succ n ih =>
    intro x5 x7 σ H locs ls hC hl hw hk187
    refine lv_iload hx hb dX5_number_132 (lv_at hl 6 rfl) ?_
    refine lv_aload_n hx hb dX5_number_134 rfl (lv_at hl 0 rfl) ?_
    refine ss_get (C := RX5) (T := TX5) (N := 16) (ci := 5) (v := .int (σ 0 1)) F hC (0) u_X5 (Nat.le_of_ble_eq_true rfl) rfl rfl 1 (by decide) f_42 rfl dX5_number_135 ?_
    refine lv_icmp_ge (tgt := 187) hx hb dX5_number_138 (by decide) (fun hc => ?_) (fun hc => ?_)
    · replace hw := hw.1 hc
      exact hk187 x5 x7 σ _ _ _ hC (lv_sub hl [0, 1, 2, 3, 4, 5] rfl) hw
    · replace hw := hw.2 hc
      refine lv_aload_n hx hb dX5_number_141 rfl (lv_at hl 0 rfl) ?_
      refine lv_iload_n hx hb dX5_number_142 rfl (lv_at hl 2 rfl) ?_
      refine lv_iload hx hb dX5_number_143 (lv_at hl 5 rfl) ?_
      refine lv_iload hx hb dX5_number_145 (lv_at hl 6 rfl) ?_
      refine ss_ki (ss_rV (C := RX5) (As := [.int (x2), .int (x6), .int (x7)]) (rest := []) F ((mX5_isFree l D A L wr cI cZ cS σ x2 x6 x7) _) gX5_number_X5_isFree rfl ⟨rfl, rfl⟩ ⟨rfl, dvX5_isFree⟩ ⟨Nat.le_of_ble_eq_true rfl, Nat.le_of_ble_eq_true rfl⟩ (ss_preV F.2.2.2.2.1 F.2.2.2.2.2 hC (ss_rec (C := RX5) (T := TX5) (N := 16) (ci := 5) F.2.2.2.2.1 hC (0) (Nat.le_of_ble_eq_true rfl) rfl rfl) hw) rfl hl.1 rfl (Nat.le_of_ble_eq_true rfl) dX5_number_147 ⟨Nat.zero_le _, Nat.zero_le _⟩) hC (fun r15 σ14 H locs hC hw => ?_)
      refine lv_if_eq (tgt := 181) hx hb dX5_number_150 (by decide) (fun hc => ?_) (fun hc => ?_)
      · replace hw := hw.1 hc
        refine lv_iinc (v := x7 + 1) (lv' := [(7, .int (x7 + 1)), (0, .ref (L (0))), (1, .int (x1)), (2, .int (x2)), (3, .int (x3)), (5, .int (x5)), (6, .int (x6))]) hx hb dX5_number_181 hl (k := 6) rfl rfl (by decide) rfl (fun ls hl => ?_)
        refine lv_goto (tgt := 132) hx hb dX5_number_184 (by decide) ?_
        exact ih x5 (x7 + 1) σ14 _ _ _ hC (lv_sub hl [1, 2, 3, 4, 5, 6, 0] rfl) hw hk187
      · replace hw := hw.2 hc
        refine lv_iload hx hb dX5_number_153 (lv_at hl 4 rfl) ?_
        refine lv_aload_n hx hb dX5_number_155 rfl (lv_at hl 0 rfl) ?_
        refine ss_get (C := RX5) (T := TX5) (N := 16) (ci := 5) (v := .int (σ14 0 0)) F hC (0) u_X5 (Nat.le_of_ble_eq_true rfl) rfl rfl 0 (by decide) f_38 rfl dX5_number_156 ?_
        refine lv_imul hx hb dX5_number_159 ?_
        refine lv_aload_n hx hb dX5_number_160 rfl (lv_at hl 0 rfl) ?_
        refine lv_aload_n hx hb dX5_number_161 rfl (lv_at hl 0 rfl) ?_
        refine ss_get (C := RX5) (T := TX5) (N := 16) (ci := 5) (v := .ref (L (5))) F hC (0) u_X5 (Nat.le_of_ble_eq_true rfl) rfl rfl 10 (by decide) f_23 rfl dX5_number_162 ?_
        refine lv_bipush (v := 6) hx hb dX5_number_165 (by decide) ?_
        refine lv_iload_n hx hb dX5_number_167 rfl (lv_at hl 1 rfl) ?_
        refine lv_imul hx hb dX5_number_168 ?_
        refine lv_iload hx hb dX5_number_169 (lv_at hl 5 rfl) ?_
        refine lv_iadd hx hb dX5_number_171 ?_
        refine ss_iald F hC (5) 0 (Nat.le_of_ble_eq_true rfl) (fun _ => rfl) rfl hw.1 dX5_number_172 ?_
        replace hw := hw.2
        refine lv_iload hx hb dX5_number_173 (lv_at hl 6 rfl) ?_
        refine ss_ki (ss_rV (C := RX5) (As := [.int (σ14 5 (Int32.toNatClampNeg ((6 * x1) + x6))), .int (x7)]) (rest := [.int (x5 * (σ14 0 0))]) F ((mX5_figure l D A L wr cI cZ cS σ14 (σ14 5 (Int32.toNatClampNeg ((6 * x1) + x6))) x7) _) gX5_number_X5_figure rfl ⟨rfl, rfl⟩ ⟨rfl, dvX5_figure⟩ ⟨Nat.le_of_ble_eq_true rfl, Nat.le_of_ble_eq_true rfl⟩ (ss_preV F.2.2.2.2.1 F.2.2.2.2.2 hC (ss_rec (C := RX5) (T := TX5) (N := 16) (ci := 5) F.2.2.2.2.1 hC (0) (Nat.le_of_ble_eq_true rfl) rfl rfl) hw) rfl hl.1 rfl (Nat.le_of_ble_eq_true rfl) dX5_number_175 ⟨Nat.zero_le _, Nat.zero_le _⟩) hC (fun r17 σ16 H locs hC hw => ?_)
        refine lv_iadd hx hb dX5_number_178 ?_
        refine lv_istore (lv' := [(5, .int ((x5 * (σ14 0 0)) + r17)), (0, .ref (L (0))), (1, .int (x1)), (2, .int (x2)), (3, .int (x3)), (6, .int (x6)), (7, .int (x7))]) hx hb dX5_number_179 hl (by decide) rfl (fun ls hl => ?_)
        refine lv_iinc (v := x7 + 1) (lv' := [(7, .int (x7 + 1)), (5, .int ((x5 * (σ14 0 0)) + r17)), (0, .ref (L (0))), (1, .int (x1)), (2, .int (x2)), (3, .int (x3)), (6, .int (x6))]) hx hb dX5_number_181 hl (k := 6) rfl rfl (by decide) rfl (fun ls hl => ?_)
        refine lv_goto (tgt := 132) hx hb dX5_number_184 (by decide) ?_
        exact ih ((x5 * (σ14 0 0)) + r17) (x7 + 1) σ16 _ _ _ hC (lv_sub hl [2, 3, 4, 5, 1, 6, 0] rfl) hw hk187

set_option maxHeartbeats 4000000 in
set_option maxRecDepth 100000 in
theorem tX5_number_123 {x1 : Int32} {x2 : Int32} {x3 : Int32} {post : Int32 → ss_S → Prop} (F : ss_F p R s m args meth c (ss_EM D A L wr cI cZ cS) cX5_number 8 wsX5_number RX5 (some .int) rmX5_number)  (k193 : Int32 → Int32 → ss_S → Prop) : ∀ (n : Nat) (x5 : Int32) (x6 : Int32) (σ : ss_S) (H : Heap) (locs : List Loc) (ls : Array Slot), ss_C (ss_EM D A L wr cI cZ cS) σ s H locs → lv_has ls 8 [(0, .ref (L (0))), (1, .int (x1)), (2, .int (x2)), (3, .int (x3)), (5, .int (x5)), (6, .int (x6))] → lX5_number_123 x1 x2 x3 post k193 n x5 x6 σ →
    (∀ (x5 : Int32) (x6 : Int32) (σ : ss_S) (H : Heap) (locs : List Loc) (ls : Array Slot), ss_C (ss_EM D A L wr cI cZ cS) σ s H locs → lv_has ls 8 [(3, .int (x3)), (5, .int (x5))] → k193 x5 x6 σ → W p l e R s m args below meth c H locs 0 0 (MQ below (va_Qi post (ss_B (ss_EM D A L wr cI cZ cS)) A) args s 0 0 A) (F0 m 193 ls [])) →
    W p l e R s m args below meth c H locs 0 0 (MQ below (va_Qi post (ss_B (ss_EM D A L wr cI cZ cS)) A) args s 0 0 A) (F0 m 123 ls []) := by
  have hx := F.1.1
  have hb := F.1.2.1
  intro n
  induction n with
  | zero => intro x5 x6 σ H locs ls hC hl hw; exact hw.elim
  | succ n ih =>
    intro x5 x6 σ H locs ls hC hl hw hk193
    refine lv_iload hx hb dX5_number_123 (lv_at hl 5 rfl) ?_
    refine lv_iload_n hx hb dX5_number_125 rfl (lv_at hl 2 rfl) ?_
    refine lv_icmp_ge (tgt := 193) hx hb dX5_number_126 (by decide) (fun hc => ?_) (fun hc => ?_)
    · replace hw := hw.1 hc
      exact hk193 x5 x6 σ _ _ _ hC (lv_sub hl [3, 4] rfl) hw
    · replace hw := hw.2 hc
      refine lv_iconst (v := 0) hx hb dX5_number_129 (by decide) ?_
      refine lv_istore (lv' := [(7, .int (0)), (0, .ref (L (0))), (1, .int (x1)), (2, .int (x2)), (3, .int (x3)), (5, .int (x5)), (6, .int (x6))]) hx hb dX5_number_130 hl (by decide) rfl (fun ls hl => ?_)
      obtain ⟨n_, hw⟩ := hw
      refine tX5_number_132 F  _ n_ x5 0 σ _ _ _ hC (lv_sub hl [1, 2, 3, 4, 5, 6, 0] rfl) hw ?_
      · intro x5_18 x7_18 σ_18 H locs ls hC hl hw
        refine lv_iinc (v := x6 + 1) (lv' := [(6, .int (x6 + 1)), (0, .ref (L (0))), (1, .int (x1)), (2, .int (x2)), (3, .int (x3)), (5, .int (x5_18))]) hx hb dX5_number_187 hl (k := 5) rfl rfl (by decide) rfl (fun ls hl => ?_)
        refine lv_goto (tgt := 123) hx hb dX5_number_190 (by decide) ?_
        exact ih x5_18 (x6 + 1) σ_18 _ _ _ hC (lv_sub hl [1, 2, 3, 4, 5, 0] rfl) hw hk193

set_option maxHeartbeats 4000000 in
set_option maxRecDepth 100000 in
theorem bX5_number {x1 : Int32} {post : Int32 → ss_S → Prop} (F : ss_F p R s m args meth c (ss_EM D A L wr cI cZ cS) cX5_number 8 wsX5_number RX5 (some .int) rmX5_number)  : ∀ (σ : ss_S) (H : Heap) (locs : List Loc) (ls : Array Slot), ss_C (ss_EM D A L wr cI cZ cS) σ s H locs → lv_has ls 8 [(0, .ref (L (0))), (1, .int (x1))] → wX5_number x1 σ post → W p l e R s m args below meth c H locs 0 0 (MQ below (va_Qi post (ss_B (ss_EM D A L wr cI cZ cS)) A) args s 0 0 A) (F0 m 0 ls []) := by
  have hx := F.1.1
  have hb := F.1.2.1
  have u_X5 : ∀ w ∈ u_ws RX5 TX5 16, w ∈ wsX5_number := by decide +kernel
  have f_20 : (Cond.fieldLink RX5 20 "SmallSpacesModel" "dims" "[I").before args s = true := F.1.2.2.2.2 _ (by decide +kernel)
  intro σ H locs ls hC hl hw
  unfold wX5_number at hw
  refine lv_iload_n hx hb dX5_number_0 rfl (lv_at hl 1 rfl) ?_
  refine ss_ki (ss_rS (As := [.int (x1)]) (rest := []) F ((mX5_isSlot l D A L wr cI cZ cS σ x1) _) gX5_number_X5_isSlot rfl ⟨rfl, rfl⟩ dvX5_isSlot ⟨Nat.le_of_ble_eq_true rfl, Nat.le_of_ble_eq_true rfl⟩ (ss_preS F.2.2.2.2.1 F.2.2.2.2.2 hC hw) rfl hl.1 rfl (Nat.le_of_ble_eq_true rfl) dX5_number_1 ⟨Nat.zero_le _, Nat.zero_le _⟩) hC (fun r2 σ1 H locs hC hw => ?_)
  refine lv_if_ne (tgt := 10) hx hb dX5_number_4 (by decide) (fun hc => ?_) (fun hc => ?_)
  · replace hw := hw.1 hc
    refine lv_aload_n hx hb dX5_number_10 rfl (lv_at hl 0 rfl) ?_
    refine ss_get (C := RX5) (T := TX5) (N := 16) (ci := 5) (v := .ref (L (4))) F hC (0) u_X5 (Nat.le_of_ble_eq_true rfl) rfl rfl 9 (by decide) f_20 rfl dX5_number_11 ?_
    refine lv_iload_n hx hb dX5_number_14 rfl (lv_at hl 1 rfl) ?_
    refine ss_iald F hC (4) 0 (Nat.le_of_ble_eq_true rfl) (fun _ => rfl) rfl hw.1 dX5_number_15 ?_
    replace hw := hw.2
    refine lv_istore_n (lv' := [(2, .int (σ1 4 (Int32.toNatClampNeg x1))), (0, .ref (L (0))), (1, .int (x1))]) hx hb dX5_number_16 rfl hl (by decide) rfl (fun ls hl => ?_)
    refine lv_aload_n hx hb dX5_number_17 rfl (lv_at hl 1 rfl) ?_
    refine lv_iload_n hx hb dX5_number_18 rfl (lv_at hl 0 rfl) ?_
    refine ss_kv (ss_rV (C := RX5) (As := [.int (σ1 4 (Int32.toNatClampNeg x1))]) (rest := []) F ((mX5_firstPivots l D A L wr cI cZ cS σ1 (σ1 4 (Int32.toNatClampNeg x1))) _) gX5_number_X5_firstPivots rfl ⟨rfl, rfl⟩ ⟨rfl, dvX5_firstPivots⟩ ⟨Nat.le_of_ble_eq_true rfl, Nat.le_of_ble_eq_true rfl⟩ (ss_preV F.2.2.2.2.1 F.2.2.2.2.2 hC (ss_rec (C := RX5) (T := TX5) (N := 16) (ci := 5) F.2.2.2.2.1 hC (0) (Nat.le_of_ble_eq_true rfl) rfl rfl) hw) rfl hl.1 rfl (Nat.le_of_ble_eq_true rfl) dX5_number_19 ⟨Nat.zero_le _, Nat.zero_le _⟩) hC (fun σ3 H locs hC hw => ?_)
    refine lv_iconst (v := 0) hx hb dX5_number_22 (by decide) ?_
    refine lv_istore_n (lv' := [(3, .int (0)), (2, .int (σ1 4 (Int32.toNatClampNeg x1))), (0, .ref (L (0))), (1, .int (x1))]) hx hb dX5_number_23 rfl hl (by decide) rfl (fun ls hl => ?_)
    refine lv_iconst (v := 0) hx hb dX5_number_24 (by decide) ?_
    refine lv_istore (lv' := [(4, .int (0)), (3, .int (0)), (2, .int (σ1 4 (Int32.toNatClampNeg x1))), (0, .ref (L (0))), (1, .int (x1))]) hx hb dX5_number_25 hl (by decide) rfl (fun ls hl => ?_)
    obtain ⟨n_, hw⟩ := hw
    refine tX5_number_27 F  _ n_ 0 0 σ3 _ _ _ hC (lv_sub hl [3, 4, 2, 1, 0] rfl) hw ?_
    · intro x3_13 x4_13 σ_13 H locs ls hC hl hw
      refine lv_iconst (v := 0) hx hb dX5_number_117 (by decide) ?_
      refine lv_istore (lv' := [(5, .int (0)), (0, .ref (L (0))), (1, .int (x1)), (2, .int (σ1 4 (Int32.toNatClampNeg x1))), (3, .int (x3_13))]) hx hb dX5_number_118 hl (by decide) rfl (fun ls hl => ?_)
      refine lv_iconst (v := 0) hx hb dX5_number_120 (by decide) ?_
      refine lv_istore (lv' := [(6, .int (0)), (5, .int (0)), (0, .ref (L (0))), (1, .int (x1)), (2, .int (σ1 4 (Int32.toNatClampNeg x1))), (3, .int (x3_13))]) hx hb dX5_number_121 hl (by decide) rfl (fun ls hl => ?_)
      obtain ⟨n_, hw⟩ := hw
      refine tX5_number_123 F  _ n_ 0 0 σ_13 _ _ _ hC (lv_sub hl [2, 3, 4, 5, 1, 0] rfl) hw ?_
      · intro x5_19 x6_19 σ_19 H locs ls hC hl hw
        refine lv_iload_n hx hb dX5_number_193 rfl (lv_at hl 0 rfl) ?_
        refine lv_iload hx hb dX5_number_194 (lv_at hl 1 rfl) ?_
        refine lv_iadd hx hb dX5_number_196 ?_
        exact ss_iret F hC hw dX5_number_197
  · replace hw := hw.2 hc
    refine lv_bipush (v := -101) hx hb dX5_number_7 (by decide) ?_
    exact ss_iret F hC hw dX5_number_9

theorem mX5_number (l : Launch) (D : va_G) (A : Nat → Prop) (L : Nat → Nat) (wr : va_W) (cI cZ cS : ClassId) (σ : ss_S) (x1 : Int32)  : ss_MI l yX5_number wsX5_number rmX5_number (ss_EM D A L wr cI cZ cS) [.ref (L (0)), .int (x1)] σ (fun post => wX5_number x1 σ post) :=
  ss_MI.of (cc := cX5_number) (nL := 8) (ret := (some .int)) (own := RX5) (by decide) rfl rfl (Nat.le_of_ble_eq_true rfl) (fun post p e R s m below meth c H locs ls F hC hl hw => bX5_number F  σ H locs ls hC hl hw)

set_option maxHeartbeats 4000000 in
set_option maxRecDepth 100000 in
theorem tX5_lay_7 {x1 : Int32} {post : ss_S → Prop} (F : ss_F p R s m args meth c (ss_EM D A L wr cI cZ cS) cX5_lay 8 wsX5_lay RX5 none rmX5_lay)  (k47 : Int32 → ss_S → Prop) : ∀ (n : Nat) (x3 : Int32) (σ : ss_S) (H : Heap) (locs : List Loc) (ls : Array Slot), ss_C (ss_EM D A L wr cI cZ cS) σ s H locs → lv_has ls 8 [(0, .ref (L (0))), (1, .int (x1)), (3, .int (x3))] → lX5_lay_7 x1 post k47 n x3 σ →
    (∀ (x3 : Int32) (σ : ss_S) (H : Heap) (locs : List Loc) (ls : Array Slot), ss_C (ss_EM D A L wr cI cZ cS) σ s H locs → lv_has ls 8 [(0, .ref (L (0))), (1, .int (x1)), (3, .int (x3))] → k47 x3 σ → W p l e R s m args below meth c H locs 0 0 (MQ below (va_Qv post (ss_B (ss_EM D A L wr cI cZ cS)) A) args s 0 0 A) (F0 m 47 ls [])) →
    W p l e R s m args below meth c H locs 0 0 (MQ below (va_Qv post (ss_B (ss_EM D A L wr cI cZ cS)) A) args s 0 0 A) (F0 m 7 ls []) := by
  have hx := F.1.1
  have hb := F.1.2.1
  have u_X5 : ∀ w ∈ u_ws RX5 TX5 16, w ∈ wsX5_lay := by decide +kernel
  have f_38 : (Cond.fieldLink RX5 38 "SmallSpacesModel" "q" "I").before args s = true := F.1.2.2.2.2 _ (by decide +kernel)
  intro n
  induction n with
  | zero => intro x3 σ H locs ls hC hl hw; exact hw.elim
  | succ n ih =>
    intro x3 σ H locs ls hC hl hw hk47
    refine lv_iload_n hx hb dX5_lay_7 rfl (lv_at hl 2 rfl) ?_
    refine lv_aload_n hx hb dX5_lay_8 rfl (lv_at hl 0 rfl) ?_
    refine ss_get (C := RX5) (T := TX5) (N := 16) (ci := 5) (v := .int (σ 0 0)) F hC (0) u_X5 (Nat.le_of_ble_eq_true rfl) rfl rfl 0 (by decide) f_38 rfl dX5_lay_9 ?_
    refine lv_aload_n hx hb dX5_lay_12 rfl (lv_at hl 0 rfl) ?_
    refine lv_iload_n hx hb dX5_lay_13 rfl (lv_at hl 1 rfl) ?_
    refine ss_ki (ss_rV (C := RX5) (As := [.int (x1)]) (rest := [.int (σ 0 0), .int (x3)]) F ((mX5_free l D A L wr cI cZ cS σ x1) _) gX5_lay_X5_free rfl ⟨rfl, rfl⟩ ⟨rfl, dvX5_free⟩ ⟨Nat.le_of_ble_eq_true rfl, Nat.le_of_ble_eq_true rfl⟩ (ss_preV F.2.2.2.2.1 F.2.2.2.2.2 hC (ss_rec (C := RX5) (T := TX5) (N := 16) (ci := 5) F.2.2.2.2.1 hC (0) (Nat.le_of_ble_eq_true rfl) rfl rfl) hw) rfl hl.1 rfl (Nat.le_of_ble_eq_true rfl) dX5_lay_14 ⟨Nat.zero_le _, Nat.zero_le _⟩) hC (fun r3 σ2 H locs hC hw => ?_)
    refine ss_ki (ss_rS (As := [.int (σ 0 0), .int (r3)]) (rest := [.int (x3)]) F ((mX5_power l D A L wr cI cZ cS σ2 (σ 0 0) r3) _) gX5_lay_X5_power rfl ⟨rfl, rfl⟩ dvX5_power ⟨Nat.le_of_ble_eq_true rfl, Nat.le_of_ble_eq_true rfl⟩ (ss_preS F.2.2.2.2.1 F.2.2.2.2.2 hC hw) rfl hl.1 rfl (Nat.le_of_ble_eq_true rfl) dX5_lay_17 ⟨Nat.zero_le _, Nat.zero_le _⟩) hC (fun r5 σ4 H locs hC hw => ?_)
    refine lv_icmp_lt (tgt := 47) hx hb dX5_lay_20 (by decide) (fun hc => ?_) (fun hc => ?_)
    · replace hw := hw.1 hc
      exact hk47 x3 σ4 _ _ _ hC (lv_sub hl [0, 1, 2] rfl) hw
    · replace hw := hw.2 hc
      refine lv_iload_n hx hb dX5_lay_23 rfl (lv_at hl 2 rfl) ?_
      refine lv_aload_n hx hb dX5_lay_24 rfl (lv_at hl 0 rfl) ?_
      refine ss_get (C := RX5) (T := TX5) (N := 16) (ci := 5) (v := .int (σ4 0 0)) F hC (0) u_X5 (Nat.le_of_ble_eq_true rfl) rfl rfl 0 (by decide) f_38 rfl dX5_lay_25 ?_
      refine lv_aload_n hx hb dX5_lay_28 rfl (lv_at hl 0 rfl) ?_
      refine lv_iload_n hx hb dX5_lay_29 rfl (lv_at hl 1 rfl) ?_
      refine ss_ki (ss_rV (C := RX5) (As := [.int (x1)]) (rest := [.int (σ4 0 0), .int (x3)]) F ((mX5_free l D A L wr cI cZ cS σ4 x1) _) gX5_lay_X5_free rfl ⟨rfl, rfl⟩ ⟨rfl, dvX5_free⟩ ⟨Nat.le_of_ble_eq_true rfl, Nat.le_of_ble_eq_true rfl⟩ (ss_preV F.2.2.2.2.1 F.2.2.2.2.2 hC (ss_rec (C := RX5) (T := TX5) (N := 16) (ci := 5) F.2.2.2.2.1 hC (0) (Nat.le_of_ble_eq_true rfl) rfl rfl) hw) rfl hl.1 rfl (Nat.le_of_ble_eq_true rfl) dX5_lay_30 ⟨Nat.zero_le _, Nat.zero_le _⟩) hC (fun r7 σ6 H locs hC hw => ?_)
      refine ss_ki (ss_rS (As := [.int (σ4 0 0), .int (r7)]) (rest := [.int (x3)]) F ((mX5_power l D A L wr cI cZ cS σ6 (σ4 0 0) r7) _) gX5_lay_X5_power rfl ⟨rfl, rfl⟩ dvX5_power ⟨Nat.le_of_ble_eq_true rfl, Nat.le_of_ble_eq_true rfl⟩ (ss_preS F.2.2.2.2.1 F.2.2.2.2.2 hC hw) rfl hl.1 rfl (Nat.le_of_ble_eq_true rfl) dX5_lay_33 ⟨Nat.zero_le _, Nat.zero_le _⟩) hC (fun r9 σ8 H locs hC hw => ?_)
      refine lv_isub hx hb dX5_lay_36 ?_
      refine lv_istore_n (lv' := [(3, .int (x3 - r9)), (0, .ref (L (0))), (1, .int (x1))]) hx hb dX5_lay_37 rfl hl (by decide) rfl (fun ls hl => ?_)
      refine lv_aload_n hx hb dX5_lay_38 rfl (lv_at hl 1 rfl) ?_
      refine lv_iload_n hx hb dX5_lay_39 rfl (lv_at hl 2 rfl) ?_
      refine ss_ki (ss_rV (C := RX5) (As := [.int (x1)]) (rest := []) F ((mX5_goOn l D A L wr cI cZ cS σ8 x1) _) gX5_lay_X5_goOn rfl ⟨rfl, rfl⟩ ⟨rfl, dvX5_goOn⟩ ⟨Nat.le_of_ble_eq_true rfl, Nat.le_of_ble_eq_true rfl⟩ (ss_preV F.2.2.2.2.1 F.2.2.2.2.2 hC (ss_rec (C := RX5) (T := TX5) (N := 16) (ci := 5) F.2.2.2.2.1 hC (0) (Nat.le_of_ble_eq_true rfl) rfl rfl) hw) rfl hl.1 rfl (Nat.le_of_ble_eq_true rfl) dX5_lay_40 ⟨Nat.zero_le _, Nat.zero_le _⟩) hC (fun r11 σ10 H locs hC hw => ?_)
      refine lv_pop hx hb dX5_lay_43 rfl ?_
      refine lv_goto (tgt := 7) hx hb dX5_lay_44 (by decide) ?_
      exact ih (x3 - r9) σ10 _ _ _ hC (lv_sub hl [1, 2, 0] rfl) hw hk47

set_option maxHeartbeats 4000000 in
set_option maxRecDepth 100000 in
theorem tX5_lay_101 {x1 : Int32} {x3 : Int32} {x5 : Int32} {post : ss_S → Prop} (F : ss_F p R s m args meth c (ss_EM D A L wr cI cZ cS) cX5_lay 8 wsX5_lay RX5 none rmX5_lay)  (k168 : Int32 → Int32 → Int32 → ss_S → Prop) : ∀ (n : Nat) (x4 : Int32) (x6 : Int32) (x7 : Int32) (σ : ss_S) (H : Heap) (locs : List Loc) (ls : Array Slot), ss_C (ss_EM D A L wr cI cZ cS) σ s H locs → lv_has ls 8 [(0, .ref (L (0))), (1, .int (x1)), (3, .int (x3)), (4, .int (x4)), (5, .int (x5)), (6, .int (x6)), (7, .int (x7))] → lX5_lay_101 x1 x3 x5 post k168 n x4 x6 x7 σ →
    (∀ (x4 : Int32) (x6 : Int32) (x7 : Int32) (σ : ss_S) (H : Heap) (locs : List Loc) (ls : Array Slot), ss_C (ss_EM D A L wr cI cZ cS) σ s H locs → lv_has ls 8 [(0, .ref (L (0))), (1, .int (x1)), (3, .int (x3)), (4, .int (x4)), (5, .int (x5)), (6, .int (x6))] → k168 x4 x6 x7 σ → W p l e R s m args below meth c H locs 0 0 (MQ below (va_Qv post (ss_B (ss_EM D A L wr cI cZ cS)) A) args s 0 0 A) (F0 m 168 ls [])) →
    W p l e R s m args below meth c H locs 0 0 (MQ below (va_Qv post (ss_B (ss_EM D A L wr cI cZ cS)) A) args s 0 0 A) (F0 m 101 ls []) := by
  have hx := F.1.1
  have hb := F.1.2.1
  have u_X5 : ∀ w ∈ u_ws RX5 TX5 16, w ∈ wsX5_lay := by decide +kernel
  have f_42 : (Cond.fieldLink RX5 42 "SmallSpacesModel" "n" "I").before args s = true := F.1.2.2.2.2 _ (by decide +kernel)
  have f_38 : (Cond.fieldLink RX5 38 "SmallSpacesModel" "q" "I").before args s = true := F.1.2.2.2.2 _ (by decide +kernel)
  intro n
  induction n with
  | zero => intro x4 x6 x7 σ H locs ls hC hl hw; exact hw.elim
  | succ n ih =>
    intro x4 x6 x7 σ H locs ls hC hl hw hk168
    refine lv_iload hx hb dX5_lay_101 (lv_at hl 6 rfl) ?_
    refine lv_aload_n hx hb dX5_lay_103 rfl (lv_at hl 0 rfl) ?_
    refine ss_get (C := RX5) (T := TX5) (N := 16) (ci := 5) (v := .int (σ 0 1)) F hC (0) u_X5 (Nat.le_of_ble_eq_true rfl) rfl rfl 1 (by decide) f_42 rfl dX5_lay_104 ?_
    refine lv_icmp_ge (tgt := 168) hx hb dX5_lay_107 (by decide) (fun hc => ?_) (fun hc => ?_)
    · replace hw := hw.1 hc
      exact hk168 x4 x6 x7 σ _ _ _ hC (lv_sub hl [0, 1, 2, 3, 4, 5] rfl) hw
    · replace hw := hw.2 hc
      refine lv_aload_n hx hb dX5_lay_110 rfl (lv_at hl 0 rfl) ?_
      refine lv_iload_n hx hb dX5_lay_111 rfl (lv_at hl 1 rfl) ?_
      refine lv_iload hx hb dX5_lay_112 (lv_at hl 4 rfl) ?_
      refine lv_iload hx hb dX5_lay_114 (lv_at hl 6 rfl) ?_
      refine ss_ki (ss_rV (C := RX5) (As := [.int (x1), .int (x5), .int (x7)]) (rest := []) F ((mX5_isFree l D A L wr cI cZ cS σ x1 x5 x7) _) gX5_lay_X5_isFree rfl ⟨rfl, rfl⟩ ⟨rfl, dvX5_isFree⟩ ⟨Nat.le_of_ble_eq_true rfl, Nat.le_of_ble_eq_true rfl⟩ (ss_preV F.2.2.2.2.1 F.2.2.2.2.2 hC (ss_rec (C := RX5) (T := TX5) (N := 16) (ci := 5) F.2.2.2.2.1 hC (0) (Nat.le_of_ble_eq_true rfl) rfl rfl) hw) rfl hl.1 rfl (Nat.le_of_ble_eq_true rfl) dX5_lay_116 ⟨Nat.zero_le _, Nat.zero_le _⟩) hC (fun r20 σ19 H locs hC hw => ?_)
      refine lv_if_eq (tgt := 162) hx hb dX5_lay_119 (by decide) (fun hc => ?_) (fun hc => ?_)
      · replace hw := hw.1 hc
        refine lv_iinc (v := x7 + 1) (lv' := [(7, .int (x7 + 1)), (0, .ref (L (0))), (1, .int (x1)), (3, .int (x3)), (4, .int (x4)), (5, .int (x5)), (6, .int (x6))]) hx hb dX5_lay_162 hl (k := 6) rfl rfl (by decide) rfl (fun ls hl => ?_)
        refine lv_goto (tgt := 101) hx hb dX5_lay_165 (by decide) ?_
        exact ih x4 x6 (x7 + 1) σ19 _ _ _ hC (lv_sub hl [1, 2, 3, 4, 5, 6, 0] rfl) hw hk168
      · replace hw := hw.2 hc
        refine lv_iload hx hb dX5_lay_122 (lv_at hl 3 rfl) ?_
        refine lv_aload_n hx hb dX5_lay_124 rfl (lv_at hl 0 rfl) ?_
        refine ss_get (C := RX5) (T := TX5) (N := 16) (ci := 5) (v := .int (σ19 0 0)) F hC (0) u_X5 (Nat.le_of_ble_eq_true rfl) rfl rfl 0 (by decide) f_38 rfl dX5_lay_125 ?_
        refine lv_idiv hx hb dX5_lay_128 hw.1 ?_
        replace hw := hw.2
        refine lv_istore (lv' := [(4, .int (x4 / (σ19 0 0))), (0, .ref (L (0))), (1, .int (x1)), (3, .int (x3)), (5, .int (x5)), (6, .int (x6)), (7, .int (x7))]) hx hb dX5_lay_129 hl (by decide) rfl (fun ls hl => ?_)
        refine lv_iload hx hb dX5_lay_131 (lv_at hl 5 rfl) ?_
        refine lv_iload_n hx hb dX5_lay_133 rfl (lv_at hl 3 rfl) ?_
        refine lv_iload hx hb dX5_lay_134 (lv_at hl 0 rfl) ?_
        refine lv_idiv hx hb dX5_lay_136 hw.1 ?_
        replace hw := hw.2
        refine lv_aload_n hx hb dX5_lay_137 rfl (lv_at hl 1 rfl) ?_
        refine ss_get (C := RX5) (T := TX5) (N := 16) (ci := 5) (v := .int (σ19 0 0)) F hC (0) u_X5 (Nat.le_of_ble_eq_true rfl) rfl rfl 0 (by decide) f_38 rfl dX5_lay_138 ?_
        refine lv_irem hx hb dX5_lay_141 hw.1 ?_
        replace hw := hw.2
        refine lv_aload_n hx hb dX5_lay_142 rfl (lv_at hl 1 rfl) ?_
        refine ss_get (C := RX5) (T := TX5) (N := 16) (ci := 5) (v := .int (σ19 0 0)) F hC (0) u_X5 (Nat.le_of_ble_eq_true rfl) rfl rfl 0 (by decide) f_38 rfl dX5_lay_143 ?_
        refine lv_aload_n hx hb dX5_lay_146 rfl (lv_at hl 1 rfl) ?_
        refine ss_get (C := RX5) (T := TX5) (N := 16) (ci := 5) (v := .int (σ19 0 1)) F hC (0) u_X5 (Nat.le_of_ble_eq_true rfl) rfl rfl 1 (by decide) f_42 rfl dX5_lay_147 ?_
        refine lv_iconst (v := 1) hx hb dX5_lay_150 (by decide) ?_
        refine lv_isub hx hb dX5_lay_151 ?_
        refine lv_iload hx hb dX5_lay_152 (lv_at hl 6 rfl) ?_
        refine lv_isub hx hb dX5_lay_154 ?_
        refine ss_ki (ss_rS (As := [.int (σ19 0 0), .int (((σ19 0 1) - 1) - x7)]) (rest := [.int ((x3 / (x4 / (σ19 0 0))) - (x3 / (x4 / (σ19 0 0))) / (σ19 0 0) * (σ19 0 0)), .int (x6)]) F ((mX5_power l D A L wr cI cZ cS σ19 (σ19 0 0) (((σ19 0 1) - 1) - x7)) _) gX5_lay_X5_power rfl ⟨rfl, rfl⟩ dvX5_power ⟨Nat.le_of_ble_eq_true rfl, Nat.le_of_ble_eq_true rfl⟩ (ss_preS F.2.2.2.2.1 F.2.2.2.2.2 hC hw) rfl hl.1 rfl (Nat.le_of_ble_eq_true rfl) dX5_lay_155 ⟨Nat.zero_le _, Nat.zero_le _⟩) hC (fun r22 σ21 H locs hC hw => ?_)
        refine lv_imul hx hb dX5_lay_158 ?_
        refine lv_iadd hx hb dX5_lay_159 ?_
        refine lv_istore (lv' := [(6, .int (x6 + (((x3 / (x4 / (σ19 0 0))) - (x3 / (x4 / (σ19 0 0))) / (σ19 0 0) * (σ19 0 0)) * r22))), (4, .int (x4 / (σ19 0 0))), (0, .ref (L (0))), (1, .int (x1)), (3, .int (x3)), (5, .int (x5)), (7, .int (x7))]) hx hb dX5_lay_160 hl (by decide) rfl (fun ls hl => ?_)
        refine lv_iinc (v := x7 + 1) (lv' := [(7, .int (x7 + 1)), (6, .int (x6 + (((x3 / (x4 / (σ19 0 0))) - (x3 / (x4 / (σ19 0 0))) / (σ19 0 0) * (σ19 0 0)) * r22))), (4, .int (x4 / (σ19 0 0))), (0, .ref (L (0))), (1, .int (x1)), (3, .int (x3)), (5, .int (x5))]) hx hb dX5_lay_162 hl (k := 6) rfl rfl (by decide) rfl (fun ls hl => ?_)
        refine lv_goto (tgt := 101) hx hb dX5_lay_165 (by decide) ?_
        exact ih (x4 / (σ19 0 0)) (x6 + (((x3 / (x4 / (σ19 0 0))) - (x3 / (x4 / (σ19 0 0))) / (σ19 0 0) * (σ19 0 0)) * r22)) (x7 + 1) σ21 _ _ _ hC (lv_sub hl [3, 4, 5, 2, 6, 1, 0] rfl) hw hk168

set_option maxHeartbeats 4000000 in
set_option maxRecDepth 100000 in
theorem tX5_lay_69 {x1 : Int32} {x3 : Int32} {post : ss_S → Prop} (F : ss_F p R s m args meth c (ss_EM D A L wr cI cZ cS) cX5_lay 8 wsX5_lay RX5 none rmX5_lay)  (k183 : Int32 → Int32 → ss_S → Prop) : ∀ (n : Nat) (x4 : Int32) (x5 : Int32) (σ : ss_S) (H : Heap) (locs : List Loc) (ls : Array Slot), ss_C (ss_EM D A L wr cI cZ cS) σ s H locs → lv_has ls 8 [(0, .ref (L (0))), (1, .int (x1)), (3, .int (x3)), (4, .int (x4)), (5, .int (x5))] → lX5_lay_69 x1 x3 post k183 n x4 x5 σ →
    (∀ (x4 : Int32) (x5 : Int32) (σ : ss_S) (H : Heap) (locs : List Loc) (ls : Array Slot), ss_C (ss_EM D A L wr cI cZ cS) σ s H locs → lv_has ls 8 [] → k183 x4 x5 σ → W p l e R s m args below meth c H locs 0 0 (MQ below (va_Qv post (ss_B (ss_EM D A L wr cI cZ cS)) A) args s 0 0 A) (F0 m 183 ls [])) →
    W p l e R s m args below meth c H locs 0 0 (MQ below (va_Qv post (ss_B (ss_EM D A L wr cI cZ cS)) A) args s 0 0 A) (F0 m 69 ls []) := by
  have hx := F.1.1
  have hb := F.1.2.1
  have u_X5 : ∀ w ∈ u_ws RX5 TX5 16, w ∈ wsX5_lay := by decide +kernel
  have f_38 : (Cond.fieldLink RX5 38 "SmallSpacesModel" "q" "I").before args s = true := F.1.2.2.2.2 _ (by decide +kernel)
  have f_42 : (Cond.fieldLink RX5 42 "SmallSpacesModel" "n" "I").before args s = true := F.1.2.2.2.2 _ (by decide +kernel)
  have f_29 : (Cond.fieldLink RX5 29 "SmallSpacesModel" "pivots" "[I").before args s = true := F.1.2.2.2.2 _ (by decide +kernel)
  have f_13 : (Cond.fieldLink RX5 13 "SmallSpacesModel" "work" "[I").before args s = true := F.1.2.2.2.2 _ (by decide +kernel)
  intro n
  induction n with
  | zero => intro x4 x5 σ H locs ls hC hl hw; exact hw.elim
  | succ n ih =>
    intro x4 x5 σ H locs ls hC hl hw hk183
    refine lv_iload hx hb dX5_lay_69 (lv_at hl 4 rfl) ?_
    refine lv_iload_n hx hb dX5_lay_71 rfl (lv_at hl 1 rfl) ?_
    refine lv_icmp_ge (tgt := 183) hx hb dX5_lay_72 (by decide) (fun hc => ?_) (fun hc => ?_)
    · replace hw := hw.1 hc
      exact hk183 x4 x5 σ _ _ _ hC (lv_sub hl [] rfl) hw
    · replace hw := hw.2 hc
      refine lv_aload_n hx hb dX5_lay_75 rfl (lv_at hl 0 rfl) ?_
      refine ss_get (C := RX5) (T := TX5) (N := 16) (ci := 5) (v := .int (σ 0 0)) F hC (0) u_X5 (Nat.le_of_ble_eq_true rfl) rfl rfl 0 (by decide) f_38 rfl dX5_lay_76 ?_
      refine lv_aload_n hx hb dX5_lay_79 rfl (lv_at hl 0 rfl) ?_
      refine ss_get (C := RX5) (T := TX5) (N := 16) (ci := 5) (v := .int (σ 0 1)) F hC (0) u_X5 (Nat.le_of_ble_eq_true rfl) rfl rfl 1 (by decide) f_42 rfl dX5_lay_80 ?_
      refine lv_iconst (v := 1) hx hb dX5_lay_83 (by decide) ?_
      refine lv_isub hx hb dX5_lay_84 ?_
      refine lv_aload_n hx hb dX5_lay_85 rfl (lv_at hl 0 rfl) ?_
      refine ss_get (C := RX5) (T := TX5) (N := 16) (ci := 5) (v := .ref (L (7))) F hC (0) u_X5 (Nat.le_of_ble_eq_true rfl) rfl rfl 12 (by decide) f_29 rfl dX5_lay_86 ?_
      refine lv_iload hx hb dX5_lay_89 (lv_at hl 4 rfl) ?_
      refine ss_iald F hC (7) 0 (Nat.le_of_ble_eq_true rfl) (fun _ => rfl) rfl hw.1 dX5_lay_91 ?_
      replace hw := hw.2
      refine lv_isub hx hb dX5_lay_92 ?_
      refine ss_ki (ss_rS (As := [.int (σ 0 0), .int (((σ 0 1) - 1) - (σ 7 (Int32.toNatClampNeg x5)))]) (rest := []) F ((mX5_power l D A L wr cI cZ cS σ (σ 0 0) (((σ 0 1) - 1) - (σ 7 (Int32.toNatClampNeg x5)))) _) gX5_lay_X5_power rfl ⟨rfl, rfl⟩ dvX5_power ⟨Nat.le_of_ble_eq_true rfl, Nat.le_of_ble_eq_true rfl⟩ (ss_preS F.2.2.2.2.1 F.2.2.2.2.2 hC hw) rfl hl.1 rfl (Nat.le_of_ble_eq_true rfl) dX5_lay_93 ⟨Nat.zero_le _, Nat.zero_le _⟩) hC (fun r18 σ17 H locs hC hw => ?_)
      refine lv_istore (lv' := [(6, .int (r18)), (0, .ref (L (0))), (1, .int (x1)), (3, .int (x3)), (4, .int (x4)), (5, .int (x5))]) hx hb dX5_lay_96 hl (by decide) rfl (fun ls hl => ?_)
      refine lv_iconst (v := 0) hx hb dX5_lay_98 (by decide) ?_
      refine lv_istore (lv' := [(7, .int (0)), (6, .int (r18)), (0, .ref (L (0))), (1, .int (x1)), (3, .int (x3)), (4, .int (x4)), (5, .int (x5))]) hx hb dX5_lay_99 hl (by decide) rfl (fun ls hl => ?_)
      obtain ⟨n_, hw⟩ := hw
      refine tX5_lay_101 F  _ n_ x4 r18 0 σ17 _ _ _ hC (lv_sub hl [2, 3, 4, 5, 6, 1, 0] rfl) hw ?_
      · intro x4_23 x6_23 x7_23 σ_23 H locs ls hC hl hw
        refine lv_aload_n hx hb dX5_lay_168 rfl (lv_at hl 0 rfl) ?_
        refine ss_get (C := RX5) (T := TX5) (N := 16) (ci := 5) (v := .ref (L (2))) F hC (0) u_X5 (Nat.le_of_ble_eq_true rfl) rfl rfl 6 (by decide) f_13 rfl dX5_lay_169 ?_
        refine lv_iload hx hb dX5_lay_172 (lv_at hl 4 rfl) ?_
        refine lv_iload hx hb dX5_lay_174 (lv_at hl 5 rfl) ?_
        refine ss_iast F hC (2) 0 (Nat.le_of_ble_eq_true rfl) (fun _ => rfl) rfl hw.1 dX5_lay_176 (fun H locs hC => ?_)
        replace hw := hw.2
        refine lv_iinc (v := x5 + 1) (lv' := [(5, .int (x5 + 1)), (0, .ref (L (0))), (1, .int (x1)), (3, .int (x3)), (4, .int (x4_23)), (6, .int (x6_23))]) hx hb dX5_lay_177 hl (k := 4) rfl rfl (by decide) rfl (fun ls hl => ?_)
        refine lv_goto (tgt := 69) hx hb dX5_lay_180 (by decide) ?_
        exact ih x4_23 (x5 + 1) (u2 σ_23 2 (Int32.toNatClampNeg x5) x6_23) _ _ _ hC (lv_sub hl [1, 2, 3, 4, 0] rfl) hw hk183

set_option maxHeartbeats 4000000 in
set_option maxRecDepth 100000 in
theorem bX5_lay {x1 : Int32} {x2 : Int32} {post : ss_S → Prop} (F : ss_F p R s m args meth c (ss_EM D A L wr cI cZ cS) cX5_lay 8 wsX5_lay RX5 none rmX5_lay)  : ∀ (σ : ss_S) (H : Heap) (locs : List Loc) (ls : Array Slot), ss_C (ss_EM D A L wr cI cZ cS) σ s H locs → lv_has ls 8 [(0, .ref (L (0))), (1, .int (x1)), (2, .int (x2))] → wX5_lay x1 x2 σ post → W p l e R s m args below meth c H locs 0 0 (MQ below (va_Qv post (ss_B (ss_EM D A L wr cI cZ cS)) A) args s 0 0 A) (F0 m 0 ls []) := by
  have hx := F.1.1
  have hb := F.1.2.1
  have u_X5 : ∀ w ∈ u_ws RX5 TX5 16, w ∈ wsX5_lay := by decide +kernel
  have f_38 : (Cond.fieldLink RX5 38 "SmallSpacesModel" "q" "I").before args s = true := F.1.2.2.2.2 _ (by decide +kernel)
  have f_76 : (Cond.fieldLink RX5 76 "SmallSpacesModel" "worked" "I").before args s = true := F.1.2.2.2.2 _ (by decide +kernel)
  intro σ H locs ls hC hl hw
  unfold wX5_lay at hw
  refine lv_aload_n hx hb dX5_lay_0 rfl (lv_at hl 0 rfl) ?_
  refine lv_iload_n hx hb dX5_lay_1 rfl (lv_at hl 1 rfl) ?_
  refine ss_kv (ss_rV (C := RX5) (As := [.int (x1)]) (rest := []) F ((mX5_firstPivots l D A L wr cI cZ cS σ x1) _) gX5_lay_X5_firstPivots rfl ⟨rfl, rfl⟩ ⟨rfl, dvX5_firstPivots⟩ ⟨Nat.le_of_ble_eq_true rfl, Nat.le_of_ble_eq_true rfl⟩ (ss_preV F.2.2.2.2.1 F.2.2.2.2.2 hC (ss_rec (C := RX5) (T := TX5) (N := 16) (ci := 5) F.2.2.2.2.1 hC (0) (Nat.le_of_ble_eq_true rfl) rfl rfl) hw) rfl hl.1 rfl (Nat.le_of_ble_eq_true rfl) dX5_lay_2 ⟨Nat.zero_le _, Nat.zero_le _⟩) hC (fun σ1 H locs hC hw => ?_)
  refine lv_iload_n hx hb dX5_lay_5 rfl (lv_at hl 2 rfl) ?_
  refine lv_istore_n (lv' := [(3, .int (x2)), (0, .ref (L (0))), (1, .int (x1)), (2, .int (x2))]) hx hb dX5_lay_6 rfl hl (by decide) rfl (fun ls hl => ?_)
  obtain ⟨n_, hw⟩ := hw
  refine tX5_lay_7 F  _ n_ x2 σ1 _ _ _ hC (lv_sub hl [1, 2, 0] rfl) hw ?_
  · intro x3_12 σ_12 H locs ls hC hl hw
    refine lv_aload_n hx hb dX5_lay_47 rfl (lv_at hl 0 rfl) ?_
    refine ss_get (C := RX5) (T := TX5) (N := 16) (ci := 5) (v := .int (σ_12 0 0)) F hC (0) u_X5 (Nat.le_of_ble_eq_true rfl) rfl rfl 0 (by decide) f_38 rfl dX5_lay_48 ?_
    refine lv_aload_n hx hb dX5_lay_51 rfl (lv_at hl 0 rfl) ?_
    refine lv_iload_n hx hb dX5_lay_52 rfl (lv_at hl 1 rfl) ?_
    refine ss_ki (ss_rV (C := RX5) (As := [.int (x1)]) (rest := [.int (σ_12 0 0)]) F ((mX5_free l D A L wr cI cZ cS σ_12 x1) _) gX5_lay_X5_free rfl ⟨rfl, rfl⟩ ⟨rfl, dvX5_free⟩ ⟨Nat.le_of_ble_eq_true rfl, Nat.le_of_ble_eq_true rfl⟩ (ss_preV F.2.2.2.2.1 F.2.2.2.2.2 hC (ss_rec (C := RX5) (T := TX5) (N := 16) (ci := 5) F.2.2.2.2.1 hC (0) (Nat.le_of_ble_eq_true rfl) rfl rfl) hw) rfl hl.1 rfl (Nat.le_of_ble_eq_true rfl) dX5_lay_53 ⟨Nat.zero_le _, Nat.zero_le _⟩) hC (fun r14 σ13 H locs hC hw => ?_)
    refine ss_ki (ss_rS (As := [.int (σ_12 0 0), .int (r14)]) (rest := []) F ((mX5_power l D A L wr cI cZ cS σ13 (σ_12 0 0) r14) _) gX5_lay_X5_power rfl ⟨rfl, rfl⟩ dvX5_power ⟨Nat.le_of_ble_eq_true rfl, Nat.le_of_ble_eq_true rfl⟩ (ss_preS F.2.2.2.2.1 F.2.2.2.2.2 hC hw) rfl hl.1 rfl (Nat.le_of_ble_eq_true rfl) dX5_lay_56 ⟨Nat.zero_le _, Nat.zero_le _⟩) hC (fun r16 σ15 H locs hC hw => ?_)
    refine lv_istore (lv' := [(4, .int (r16)), (0, .ref (L (0))), (1, .int (x1)), (3, .int (x3_12))]) hx hb dX5_lay_59 hl (by decide) rfl (fun ls hl => ?_)
    refine lv_aload_n hx hb dX5_lay_61 rfl (lv_at hl 1 rfl) ?_
    refine lv_iload_n hx hb dX5_lay_62 rfl (lv_at hl 2 rfl) ?_
    refine ss_put (C := RX5) (T := TX5) (N := 16) (ci := 5) F hC (0) tyX5 tyX5_ok nmX5 u_X5 (Nat.le_of_ble_eq_true rfl) rfl rfl 7 (by decide) f_76 rfl (by decide +kernel) (Nat.le_of_ble_eq_true rfl) rfl dX5_lay_63 (fun H locs hC => ?_)
    refine lv_iconst (v := 0) hx hb dX5_lay_66 (by decide) ?_
    refine lv_istore (lv' := [(5, .int (0)), (4, .int (r16)), (0, .ref (L (0))), (1, .int (x1)), (3, .int (x3_12))]) hx hb dX5_lay_67 hl (by decide) rfl (fun ls hl => ?_)
    obtain ⟨n_, hw⟩ := hw
    refine tX5_lay_69 F  _ n_ r16 0 (u2 σ15 0 7 x1) _ _ _ hC (lv_sub hl [2, 3, 4, 1, 0] rfl) hw ?_
    · intro x4_24 x5_24 σ_24 H locs ls hC hl hw
      exact ss_vret F hC hw dX5_lay_183

theorem mX5_lay (l : Launch) (D : va_G) (A : Nat → Prop) (L : Nat → Nat) (wr : va_W) (cI cZ cS : ClassId) (σ : ss_S) (x1 : Int32) (x2 : Int32)  : ss_MV l yX5_lay wsX5_lay rmX5_lay (ss_EM D A L wr cI cZ cS) [.ref (L (0)), .int (x1), .int (x2)] σ (fun post => wX5_lay x1 x2 σ post) :=
  ss_MV.of (cc := cX5_lay) (nL := 8) (ret := none) (own := RX5) (by decide) rfl rfl (Nat.le_of_ble_eq_true rfl) (fun post p e R s m below meth c H locs ls F hC hl hw => bX5_lay F  σ H locs ls hC hl hw)

set_option maxHeartbeats 4000000 in
set_option maxRecDepth 100000 in
theorem bX5_numbered {x1 : Int32} {x2 : Int32} {x3 : Int32} {post : Int32 → ss_S → Prop} (F : ss_F p R s m args meth c (ss_EM D A L wr cI cZ cS) cX5_numbered 4 wsX5_numbered RX5 (some .int) rmX5_numbered)  : ∀ (σ : ss_S) (H : Heap) (locs : List Loc) (ls : Array Slot), ss_C (ss_EM D A L wr cI cZ cS) σ s H locs → lv_has ls 4 [(0, .ref (L (0))), (1, .int (x1)), (2, .int (x2)), (3, .int (x3))] → wX5_numbered x1 x2 x3 σ post → W p l e R s m args below meth c H locs 0 0 (MQ below (va_Qi post (ss_B (ss_EM D A L wr cI cZ cS)) A) args s 0 0 A) (F0 m 0 ls []) := by
  have hx := F.1.1
  have hb := F.1.2.1
  have u_X5 : ∀ w ∈ u_ws RX5 TX5 16, w ∈ wsX5_numbered := by decide +kernel
  have f_42 : (Cond.fieldLink RX5 42 "SmallSpacesModel" "n" "I").before args s = true := F.1.2.2.2.2 _ (by decide +kernel)
  intro σ H locs ls hC hl hw
  unfold wX5_numbered at hw
  refine lv_iload_n hx hb dX5_numbered_0 rfl (lv_at hl 1 rfl) ?_
  refine ss_ki (ss_rS (As := [.int (x1)]) (rest := []) F ((mX5_isSlot l D A L wr cI cZ cS σ x1) _) gX5_numbered_X5_isSlot rfl ⟨rfl, rfl⟩ dvX5_isSlot ⟨Nat.le_of_ble_eq_true rfl, Nat.le_of_ble_eq_true rfl⟩ (ss_preS F.2.2.2.2.1 F.2.2.2.2.2 hC hw) rfl hl.1 rfl (Nat.le_of_ble_eq_true rfl) dX5_numbered_1 ⟨Nat.zero_le _, Nat.zero_le _⟩) hC (fun r2 σ1 H locs hC hw => ?_)
  refine lv_if_ne (tgt := 10) hx hb dX5_numbered_4 (by decide) (fun hc => ?_) (fun hc => ?_)
  · replace hw := hw.1 hc
    refine lv_iload_n hx hb dX5_numbered_10 rfl (lv_at hl 2 rfl) ?_
    refine lv_i2l hx hb dX5_numbered_11 rfl ?_
    refine lv_lconst (v := 0) hx hb dX5_numbered_12 (by decide) ?_
    refine lv_aload_n hx hb dX5_numbered_13 rfl (lv_at hl 0 rfl) ?_
    refine ss_get (C := RX5) (T := TX5) (N := 16) (ci := 5) (v := .int (σ1 0 1)) F hC (0) u_X5 (Nat.le_of_ble_eq_true rfl) rfl rfl 1 (by decide) f_42 rfl dX5_numbered_14 ?_
    refine lv_i2l hx hb dX5_numbered_17 rfl ?_
    refine ss_ki (ss_rS (As := [.long (Int32.toInt64 x2), .long (0), .long (Int32.toInt64 (σ1 0 1))]) (rest := []) F ((mX5_in l D A L wr cI cZ cS σ1 (Int32.toInt64 x2) 0 (Int32.toInt64 (σ1 0 1))) _) gX5_numbered_X5_in rfl ⟨rfl, rfl⟩ dvX5_in ⟨Nat.le_of_ble_eq_true rfl, Nat.le_of_ble_eq_true rfl⟩ (ss_preS F.2.2.2.2.1 F.2.2.2.2.2 hC hw) rfl hl.1 rfl (Nat.le_of_ble_eq_true rfl) dX5_numbered_18 ⟨Nat.zero_le _, Nat.zero_le _⟩) hC (fun r4 σ3 H locs hC hw => ?_)
    refine lv_if_eq (tgt := 45) hx hb dX5_numbered_21 (by decide) (fun hc => ?_) (fun hc => ?_)
    · replace hw := hw.1 hc
      refine lv_bipush (v := -102) hx hb dX5_numbered_45 (by decide) ?_
      exact ss_iret F hC hw dX5_numbered_47
    · replace hw := hw.2 hc
      refine lv_iload_n hx hb dX5_numbered_24 rfl (lv_at hl 3 rfl) ?_
      refine lv_i2l hx hb dX5_numbered_25 rfl ?_
      refine lv_lconst (v := 0) hx hb dX5_numbered_26 (by decide) ?_
      refine lv_aload_n hx hb dX5_numbered_27 rfl (lv_at hl 0 rfl) ?_
      refine lv_aload_n hx hb dX5_numbered_28 rfl (lv_at hl 0 rfl) ?_
      refine ss_get (C := RX5) (T := TX5) (N := 16) (ci := 5) (v := .int (σ3 0 1)) F hC (0) u_X5 (Nat.le_of_ble_eq_true rfl) rfl rfl 1 (by decide) f_42 rfl dX5_numbered_29 ?_
      refine lv_iload_n hx hb dX5_numbered_32 rfl (lv_at hl 2 rfl) ?_
      refine ss_ki (ss_rV (C := RX5) (As := [.int (σ3 0 1), .int (x2)]) (rest := [.long (0), .long (Int32.toInt64 x3)]) F ((mX5_gauss l D A L wr cI cZ cS σ3 (σ3 0 1) x2) _) gX5_numbered_X5_gauss rfl ⟨rfl, rfl⟩ ⟨rfl, dvX5_gauss⟩ ⟨Nat.le_of_ble_eq_true rfl, Nat.le_of_ble_eq_true rfl⟩ (ss_preV F.2.2.2.2.1 F.2.2.2.2.2 hC (ss_rec (C := RX5) (T := TX5) (N := 16) (ci := 5) F.2.2.2.2.1 hC (0) (Nat.le_of_ble_eq_true rfl) rfl rfl) hw) rfl hl.1 rfl (Nat.le_of_ble_eq_true rfl) dX5_numbered_33 ⟨Nat.zero_le _, Nat.zero_le _⟩) hC (fun r6 σ5 H locs hC hw => ?_)
      refine lv_iconst (v := 1) hx hb dX5_numbered_36 (by decide) ?_
      refine lv_isub hx hb dX5_numbered_37 ?_
      refine lv_i2l hx hb dX5_numbered_38 rfl ?_
      refine ss_ki (ss_rS (As := [.long (Int32.toInt64 x3), .long (0), .long (Int32.toInt64 (r6 - 1))]) (rest := []) F ((mX5_in l D A L wr cI cZ cS σ5 (Int32.toInt64 x3) 0 (Int32.toInt64 (r6 - 1))) _) gX5_numbered_X5_in rfl ⟨rfl, rfl⟩ dvX5_in ⟨Nat.le_of_ble_eq_true rfl, Nat.le_of_ble_eq_true rfl⟩ (ss_preS F.2.2.2.2.1 F.2.2.2.2.2 hC hw) rfl hl.1 rfl (Nat.le_of_ble_eq_true rfl) dX5_numbered_39 ⟨Nat.zero_le _, Nat.zero_le _⟩) hC (fun r8 σ7 H locs hC hw => ?_)
      refine lv_if_ne (tgt := 48) hx hb dX5_numbered_42 (by decide) (fun hc => ?_) (fun hc => ?_)
      · replace hw := hw.1 hc
        refine lv_aload_n hx hb dX5_numbered_48 rfl (lv_at hl 0 rfl) ?_
        refine lv_iload_n hx hb dX5_numbered_49 rfl (lv_at hl 2 rfl) ?_
        refine lv_iload_n hx hb dX5_numbered_50 rfl (lv_at hl 3 rfl) ?_
        refine ss_kv (ss_rV (C := RX5) (As := [.int (x2), .int (x3)]) (rest := []) F ((mX5_lay l D A L wr cI cZ cS σ7 x2 x3) _) gX5_numbered_X5_lay rfl ⟨rfl, rfl⟩ ⟨rfl, dvX5_lay⟩ ⟨Nat.le_of_ble_eq_true rfl, Nat.le_of_ble_eq_true rfl⟩ (ss_preV F.2.2.2.2.1 F.2.2.2.2.2 hC (ss_rec (C := RX5) (T := TX5) (N := 16) (ci := 5) F.2.2.2.2.1 hC (0) (Nat.le_of_ble_eq_true rfl) rfl rfl) hw) rfl hl.1 rfl (Nat.le_of_ble_eq_true rfl) dX5_numbered_51 ⟨Nat.zero_le _, Nat.zero_le _⟩) hC (fun σ9 H locs hC hw => ?_)
        refine lv_aload_n hx hb dX5_numbered_54 rfl (lv_at hl 0 rfl) ?_
        refine lv_iload_n hx hb dX5_numbered_55 rfl (lv_at hl 1 rfl) ?_
        refine ss_ki (ss_rV (C := RX5) (As := [.int (x1)]) (rest := []) F ((mX5_save l D A L wr cI cZ cS σ9 x1) _) gX5_numbered_X5_save rfl ⟨rfl, rfl⟩ ⟨rfl, dvX5_save⟩ ⟨Nat.le_of_ble_eq_true rfl, Nat.le_of_ble_eq_true rfl⟩ (ss_preV F.2.2.2.2.1 F.2.2.2.2.2 hC (ss_rec (C := RX5) (T := TX5) (N := 16) (ci := 5) F.2.2.2.2.1 hC (0) (Nat.le_of_ble_eq_true rfl) rfl rfl) hw) rfl hl.1 rfl (Nat.le_of_ble_eq_true rfl) dX5_numbered_56 ⟨Nat.zero_le _, Nat.zero_le _⟩) hC (fun r11 σ10 H locs hC hw => ?_)
        exact ss_iret F hC hw dX5_numbered_59
      · replace hw := hw.2 hc
        refine lv_bipush (v := -102) hx hb dX5_numbered_45 (by decide) ?_
        exact ss_iret F hC hw dX5_numbered_47
  · replace hw := hw.2 hc
    refine lv_bipush (v := -101) hx hb dX5_numbered_7 (by decide) ?_
    exact ss_iret F hC hw dX5_numbered_9

theorem mX5_numbered (l : Launch) (D : va_G) (A : Nat → Prop) (L : Nat → Nat) (wr : va_W) (cI cZ cS : ClassId) (σ : ss_S) (x1 : Int32) (x2 : Int32) (x3 : Int32)  : ss_MI l yX5_numbered wsX5_numbered rmX5_numbered (ss_EM D A L wr cI cZ cS) [.ref (L (0)), .int (x1), .int (x2), .int (x3)] σ (fun post => wX5_numbered x1 x2 x3 σ post) :=
  ss_MI.of (cc := cX5_numbered) (nL := 4) (ret := (some .int)) (own := RX5) (by decide) rfl rfl (Nat.le_of_ble_eq_true rfl) (fun post p e R s m below meth c H locs ls F hC hl hw => bX5_numbered F  σ H locs ls hC hl hw)
end
