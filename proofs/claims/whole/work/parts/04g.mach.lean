section
variable {p : Program} {l : Launch} {e : Env} {R : Room} {s : State} {m : MethodId} {args : Array Value} {below : List Frame} {meth : Method} {c : Code} {D : va_G} {A : Nat → Prop} {L : Nat → Nat} {wr : va_W} {cI cZ cS : ClassId}
set_option maxHeartbeats 4000000 in
set_option maxRecDepth 100000 in
theorem bX5_over {x1 : Int32} {x2 : Int32} {post : Int32 → ss_S → Prop} (F : ss_F p R s m args meth c (ss_EM D A L wr cI cZ cS) cX5_over 3 wsX5_over RX5 (some .int) rmX5_over)  : ∀ (σ : ss_S) (H : Heap) (locs : List Loc) (ls : Array Slot), ss_C (ss_EM D A L wr cI cZ cS) σ s H locs → lv_has ls 3 [(0, .ref (L (0))), (1, .int (x1)), (2, .int (x2))] → wX5_over x1 x2 σ post → W p l e R s m args below meth c H locs 0 0 (MQ below (va_Qi post (ss_B (ss_EM D A L wr cI cZ cS)) A) args s 0 0 A) (F0 m 0 ls []) := by
  have hx := F.1.1
  have hb := F.1.2.1
  have u_X5 : ∀ w ∈ u_ws RX5 TX5 16, w ∈ wsX5_over := by decide +kernel
  have f_20 : (Cond.fieldLink RX5 20 "SmallSpacesModel" "dims" "[I").before args s = true := F.1.2.2.2.2 _ (by decide +kernel)
  have f_42 : (Cond.fieldLink RX5 42 "SmallSpacesModel" "n" "I").before args s = true := F.1.2.2.2.2 _ (by decide +kernel)
  intro σ H locs ls hC hl hw
  unfold wX5_over at hw
  refine lv_iload_n hx hb dX5_over_0 rfl (lv_at hl 1 rfl) ?_
  refine ss_ki (ss_rS (As := [.int (x1)]) (rest := []) F ((mX5_isSlot l D A L wr cI cZ cS σ x1) _) gX5_over_X5_isSlot rfl ⟨rfl, rfl⟩ dvX5_isSlot ⟨Nat.le_of_ble_eq_true rfl, Nat.le_of_ble_eq_true rfl⟩ (ss_preS F.2.2.2.2.1 F.2.2.2.2.2 hC hw) rfl hl.1 rfl (Nat.le_of_ble_eq_true rfl) dX5_over_1 ⟨Nat.zero_le _, Nat.zero_le _⟩) hC (fun r2 σ1 H locs hC hw => ?_)
  refine lv_if_ne (tgt := 10) hx hb dX5_over_4 (by decide) (fun hc => ?_) (fun hc => ?_)
  · replace hw := hw.1 hc
    refine lv_iload_n hx hb dX5_over_10 rfl (lv_at hl 2 rfl) ?_
    refine lv_i2l hx hb dX5_over_11 rfl ?_
    refine lv_aload_n hx hb dX5_over_12 rfl (lv_at hl 0 rfl) ?_
    refine ss_get (C := RX5) (T := TX5) (N := 16) (ci := 5) (v := .ref (L (4))) F hC (0) u_X5 (Nat.le_of_ble_eq_true rfl) rfl rfl 9 (by decide) f_20 rfl dX5_over_13 ?_
    refine lv_iload_n hx hb dX5_over_16 rfl (lv_at hl 1 rfl) ?_
    refine ss_iald F hC (4) 0 (Nat.le_of_ble_eq_true rfl) (fun _ => rfl) rfl hw.1 dX5_over_17 ?_
    replace hw := hw.2
    refine lv_i2l hx hb dX5_over_18 rfl ?_
    refine lv_aload_n hx hb dX5_over_19 rfl (lv_at hl 0 rfl) ?_
    refine ss_get (C := RX5) (T := TX5) (N := 16) (ci := 5) (v := .int (σ1 0 1)) F hC (0) u_X5 (Nat.le_of_ble_eq_true rfl) rfl rfl 1 (by decide) f_42 rfl dX5_over_20 ?_
    refine lv_i2l hx hb dX5_over_23 rfl ?_
    refine ss_ki (ss_rS (As := [.long (Int32.toInt64 x2), .long (Int32.toInt64 (σ1 4 (Int32.toNatClampNeg x1))), .long (Int32.toInt64 (σ1 0 1))]) (rest := []) F ((mX5_in l D A L wr cI cZ cS σ1 (Int32.toInt64 x2) (Int32.toInt64 (σ1 4 (Int32.toNatClampNeg x1))) (Int32.toInt64 (σ1 0 1))) _) gX5_over_X5_in rfl ⟨rfl, rfl⟩ dvX5_in ⟨Nat.le_of_ble_eq_true rfl, Nat.le_of_ble_eq_true rfl⟩ (ss_preS F.2.2.2.2.1 F.2.2.2.2.2 hC hw) rfl hl.1 rfl (Nat.le_of_ble_eq_true rfl) dX5_over_24 ⟨Nat.zero_le _, Nat.zero_le _⟩) hC (fun r4 σ3 H locs hC hw => ?_)
    refine lv_if_eq (tgt := 56) hx hb dX5_over_27 (by decide) (fun hc => ?_) (fun hc => ?_)
    · replace hw := hw.1 hc
      refine lv_iconst (v := 0) hx hb dX5_over_56 (by decide) ?_
      exact ss_iret F hC hw dX5_over_57
    · replace hw := hw.2 hc
      refine lv_aload_n hx hb dX5_over_30 rfl (lv_at hl 0 rfl) ?_
      refine lv_aload_n hx hb dX5_over_31 rfl (lv_at hl 0 rfl) ?_
      refine ss_get (C := RX5) (T := TX5) (N := 16) (ci := 5) (v := .int (σ3 0 1)) F hC (0) u_X5 (Nat.le_of_ble_eq_true rfl) rfl rfl 1 (by decide) f_42 rfl dX5_over_32 ?_
      refine lv_aload_n hx hb dX5_over_35 rfl (lv_at hl 0 rfl) ?_
      refine ss_get (C := RX5) (T := TX5) (N := 16) (ci := 5) (v := .ref (L (4))) F hC (0) u_X5 (Nat.le_of_ble_eq_true rfl) rfl rfl 9 (by decide) f_20 rfl dX5_over_36 ?_
      refine lv_iload_n hx hb dX5_over_39 rfl (lv_at hl 1 rfl) ?_
      refine ss_iald F hC (4) 0 (Nat.le_of_ble_eq_true rfl) (fun _ => rfl) rfl hw.1 dX5_over_40 ?_
      replace hw := hw.2
      refine lv_isub hx hb dX5_over_41 ?_
      refine lv_iload_n hx hb dX5_over_42 rfl (lv_at hl 2 rfl) ?_
      refine lv_aload_n hx hb dX5_over_43 rfl (lv_at hl 0 rfl) ?_
      refine ss_get (C := RX5) (T := TX5) (N := 16) (ci := 5) (v := .ref (L (4))) F hC (0) u_X5 (Nat.le_of_ble_eq_true rfl) rfl rfl 9 (by decide) f_20 rfl dX5_over_44 ?_
      refine lv_iload_n hx hb dX5_over_47 rfl (lv_at hl 1 rfl) ?_
      refine ss_iald F hC (4) 0 (Nat.le_of_ble_eq_true rfl) (fun _ => rfl) rfl hw.1 dX5_over_48 ?_
      replace hw := hw.2
      refine lv_isub hx hb dX5_over_49 ?_
      refine ss_ki (ss_rV (C := RX5) (As := [.int ((σ3 0 1) - (σ3 4 (Int32.toNatClampNeg x1))), .int (x2 - (σ3 4 (Int32.toNatClampNeg x1)))]) (rest := []) F ((mX5_gauss l D A L wr cI cZ cS σ3 ((σ3 0 1) - (σ3 4 (Int32.toNatClampNeg x1))) (x2 - (σ3 4 (Int32.toNatClampNeg x1)))) _) gX5_over_X5_gauss rfl ⟨rfl, rfl⟩ ⟨rfl, dvX5_gauss⟩ ⟨Nat.le_of_ble_eq_true rfl, Nat.le_of_ble_eq_true rfl⟩ (ss_preV F.2.2.2.2.1 F.2.2.2.2.2 hC (ss_rec (C := RX5) (T := TX5) (N := 16) (ci := 5) F.2.2.2.2.1 hC (0) (Nat.le_of_ble_eq_true rfl) rfl rfl) hw) rfl hl.1 rfl (Nat.le_of_ble_eq_true rfl) dX5_over_50 ⟨Nat.zero_le _, Nat.zero_le _⟩) hC (fun r6 σ5 H locs hC hw => ?_)
      refine lv_goto (tgt := 57) hx hb dX5_over_53 (by decide) ?_
      exact ss_iret F hC hw dX5_over_57
  · replace hw := hw.2 hc
    refine lv_bipush (v := -101) hx hb dX5_over_7 (by decide) ?_
    exact ss_iret F hC hw dX5_over_9

theorem mX5_over (l : Launch) (D : va_G) (A : Nat → Prop) (L : Nat → Nat) (wr : va_W) (cI cZ cS : ClassId) (σ : ss_S) (x1 : Int32) (x2 : Int32)  : ss_MI l yX5_over wsX5_over rmX5_over (ss_EM D A L wr cI cZ cS) [.ref (L (0)), .int (x1), .int (x2)] σ (fun post => wX5_over x1 x2 σ post) :=
  ss_MI.of (cc := cX5_over) (nL := 3) (ret := (some .int)) (own := RX5) (by decide) rfl rfl (Nat.le_of_ble_eq_true rfl) (fun post p e R s m below meth c H locs ls F hC hl hw => bX5_over F  σ H locs ls hC hl hw)

set_option maxHeartbeats 4000000 in
set_option maxRecDepth 100000 in
theorem bX5_meeting {x1 : Int32} {x2 : Int32} {x3 : Int32} {post : Int32 → ss_S → Prop} (F : ss_F p R s m args meth c (ss_EM D A L wr cI cZ cS) cX5_meeting 6 wsX5_meeting RX5 (some .int) rmX5_meeting)  : ∀ (σ : ss_S) (H : Heap) (locs : List Loc) (ls : Array Slot), ss_C (ss_EM D A L wr cI cZ cS) σ s H locs → lv_has ls 6 [(0, .ref (L (0))), (1, .int (x1)), (2, .int (x2)), (3, .int (x3))] → wX5_meeting x1 x2 x3 σ post → W p l e R s m args below meth c H locs 0 0 (MQ below (va_Qi post (ss_B (ss_EM D A L wr cI cZ cS)) A) args s 0 0 A) (F0 m 0 ls []) := by
  have hx := F.1.1
  have hb := F.1.2.1
  have u_X5 : ∀ w ∈ u_ws RX5 TX5 16, w ∈ wsX5_meeting := by decide +kernel
  have f_20 : (Cond.fieldLink RX5 20 "SmallSpacesModel" "dims" "[I").before args s = true := F.1.2.2.2.2 _ (by decide +kernel)
  have f_42 : (Cond.fieldLink RX5 42 "SmallSpacesModel" "n" "I").before args s = true := F.1.2.2.2.2 _ (by decide +kernel)
  have f_38 : (Cond.fieldLink RX5 38 "SmallSpacesModel" "q" "I").before args s = true := F.1.2.2.2.2 _ (by decide +kernel)
  intro σ H locs ls hC hl hw
  unfold wX5_meeting at hw
  refine lv_iload_n hx hb dX5_meeting_0 rfl (lv_at hl 1 rfl) ?_
  refine ss_ki (ss_rS (As := [.int (x1)]) (rest := []) F ((mX5_isSlot l D A L wr cI cZ cS σ x1) _) gX5_meeting_X5_isSlot rfl ⟨rfl, rfl⟩ dvX5_isSlot ⟨Nat.le_of_ble_eq_true rfl, Nat.le_of_ble_eq_true rfl⟩ (ss_preS F.2.2.2.2.1 F.2.2.2.2.2 hC hw) rfl hl.1 rfl (Nat.le_of_ble_eq_true rfl) dX5_meeting_1 ⟨Nat.zero_le _, Nat.zero_le _⟩) hC (fun r2 σ1 H locs hC hw => ?_)
  refine lv_if_ne (tgt := 10) hx hb dX5_meeting_4 (by decide) (fun hc => ?_) (fun hc => ?_)
  · replace hw := hw.1 hc
    refine lv_aload_n hx hb dX5_meeting_10 rfl (lv_at hl 0 rfl) ?_
    refine ss_get (C := RX5) (T := TX5) (N := 16) (ci := 5) (v := .ref (L (4))) F hC (0) u_X5 (Nat.le_of_ble_eq_true rfl) rfl rfl 9 (by decide) f_20 rfl dX5_meeting_11 ?_
    refine lv_iload_n hx hb dX5_meeting_14 rfl (lv_at hl 1 rfl) ?_
    refine ss_iald F hC (4) 0 (Nat.le_of_ble_eq_true rfl) (fun _ => rfl) rfl hw.1 dX5_meeting_15 ?_
    replace hw := hw.2
    refine lv_istore (lv' := [(4, .int (σ1 4 (Int32.toNatClampNeg x1))), (0, .ref (L (0))), (1, .int (x1)), (2, .int (x2)), (3, .int (x3))]) hx hb dX5_meeting_16 hl (by decide) rfl (fun ls hl => ?_)
    refine lv_iload_n hx hb dX5_meeting_18 rfl (lv_at hl 3 rfl) ?_
    refine lv_i2l hx hb dX5_meeting_19 rfl ?_
    refine lv_lconst (v := 0) hx hb dX5_meeting_20 (by decide) ?_
    refine lv_aload_n hx hb dX5_meeting_21 rfl (lv_at hl 1 rfl) ?_
    refine ss_get (C := RX5) (T := TX5) (N := 16) (ci := 5) (v := .int (σ1 0 1)) F hC (0) u_X5 (Nat.le_of_ble_eq_true rfl) rfl rfl 1 (by decide) f_42 rfl dX5_meeting_22 ?_
    refine lv_i2l hx hb dX5_meeting_25 rfl ?_
    refine ss_ki (ss_rS (As := [.long (Int32.toInt64 x2), .long (0), .long (Int32.toInt64 (σ1 0 1))]) (rest := []) F ((mX5_in l D A L wr cI cZ cS σ1 (Int32.toInt64 x2) 0 (Int32.toInt64 (σ1 0 1))) _) gX5_meeting_X5_in rfl ⟨rfl, rfl⟩ dvX5_in ⟨Nat.le_of_ble_eq_true rfl, Nat.le_of_ble_eq_true rfl⟩ (ss_preS F.2.2.2.2.1 F.2.2.2.2.2 hC hw) rfl hl.1 rfl (Nat.le_of_ble_eq_true rfl) dX5_meeting_26 ⟨Nat.zero_le _, Nat.zero_le _⟩) hC (fun r4 σ3 H locs hC hw => ?_)
    refine lv_if_eq (tgt := 49) hx hb dX5_meeting_29 (by decide) (fun hc => ?_) (fun hc => ?_)
    · replace hw := hw.1 hc
      refine lv_iconst (v := 0) hx hb dX5_meeting_49 (by decide) ?_
      exact ss_iret F hC hw dX5_meeting_50
    · replace hw := hw.2 hc
      refine lv_iload_n hx hb dX5_meeting_32 rfl (lv_at hl 4 rfl) ?_
      refine lv_i2l hx hb dX5_meeting_33 rfl ?_
      refine lv_lconst (v := 0) hx hb dX5_meeting_34 (by decide) ?_
      refine lv_iload_n hx hb dX5_meeting_35 rfl (lv_at hl 3 rfl) ?_
      refine lv_i2l hx hb dX5_meeting_36 rfl ?_
      refine ss_ki (ss_rS (As := [.long (Int32.toInt64 x3), .long (0), .long (Int32.toInt64 x2)]) (rest := []) F ((mX5_in l D A L wr cI cZ cS σ3 (Int32.toInt64 x3) 0 (Int32.toInt64 x2)) _) gX5_meeting_X5_in rfl ⟨rfl, rfl⟩ dvX5_in ⟨Nat.le_of_ble_eq_true rfl, Nat.le_of_ble_eq_true rfl⟩ (ss_preS F.2.2.2.2.1 F.2.2.2.2.2 hC hw) rfl hl.1 rfl (Nat.le_of_ble_eq_true rfl) dX5_meeting_37 ⟨Nat.zero_le _, Nat.zero_le _⟩) hC (fun r6 σ5 H locs hC hw => ?_)
      refine lv_if_eq (tgt := 49) hx hb dX5_meeting_40 (by decide) (fun hc => ?_) (fun hc => ?_)
      · replace hw := hw.1 hc
        refine lv_iconst (v := 0) hx hb dX5_meeting_49 (by decide) ?_
        exact ss_iret F hC hw dX5_meeting_50
      · replace hw := hw.2 hc
        refine lv_iload_n hx hb dX5_meeting_43 rfl (lv_at hl 4 rfl) ?_
        refine lv_iload hx hb dX5_meeting_44 (lv_at hl 0 rfl) ?_
        refine lv_icmp_le (tgt := 51) hx hb dX5_meeting_46 (by decide) (fun hc => ?_) (fun hc => ?_)
        · replace hw := hw.1 hc
          refine lv_aload_n hx hb dX5_meeting_51 rfl (lv_at hl 1 rfl) ?_
          refine lv_aload_n hx hb dX5_meeting_52 rfl (lv_at hl 1 rfl) ?_
          refine ss_get (C := RX5) (T := TX5) (N := 16) (ci := 5) (v := .int (σ5 0 1)) F hC (0) u_X5 (Nat.le_of_ble_eq_true rfl) rfl rfl 1 (by decide) f_42 rfl dX5_meeting_53 ?_
          refine lv_iload hx hb dX5_meeting_56 (lv_at hl 0 rfl) ?_
          refine lv_isub hx hb dX5_meeting_58 ?_
          refine lv_iload_n hx hb dX5_meeting_59 rfl (lv_at hl 3 rfl) ?_
          refine lv_iload_n hx hb dX5_meeting_60 rfl (lv_at hl 4 rfl) ?_
          refine lv_isub hx hb dX5_meeting_61 ?_
          refine ss_ki (ss_rV (C := RX5) (As := [.int ((σ5 0 1) - (σ1 4 (Int32.toNatClampNeg x1))), .int (x2 - x3)]) (rest := []) F ((mX5_gauss l D A L wr cI cZ cS σ5 ((σ5 0 1) - (σ1 4 (Int32.toNatClampNeg x1))) (x2 - x3)) _) gX5_meeting_X5_gauss rfl ⟨rfl, rfl⟩ ⟨rfl, dvX5_gauss⟩ ⟨Nat.le_of_ble_eq_true rfl, Nat.le_of_ble_eq_true rfl⟩ (ss_preV F.2.2.2.2.1 F.2.2.2.2.2 hC (ss_rec (C := RX5) (T := TX5) (N := 16) (ci := 5) F.2.2.2.2.1 hC (0) (Nat.le_of_ble_eq_true rfl) rfl rfl) hw) rfl hl.1 rfl (Nat.le_of_ble_eq_true rfl) dX5_meeting_62 ⟨Nat.zero_le _, Nat.zero_le _⟩) hC (fun r8 σ7 H locs hC hw => ?_)
          refine lv_istore (lv' := [(5, .int (r8)), (4, .int (σ1 4 (Int32.toNatClampNeg x1))), (0, .ref (L (0))), (1, .int (x1)), (2, .int (x2)), (3, .int (x3))]) hx hb dX5_meeting_65 hl (by decide) rfl (fun ls hl => ?_)
          refine lv_iload hx hb dX5_meeting_67 (lv_at hl 0 rfl) ?_
          refine lv_if_ne (tgt := 76) hx hb dX5_meeting_69 (by decide) (fun hc => ?_) (fun hc => ?_)
          · replace hw := hw.1 hc
            refine lv_aload_n hx hb dX5_meeting_76 rfl (lv_at hl 2 rfl) ?_
            refine lv_iload hx hb dX5_meeting_77 (lv_at hl 1 rfl) ?_
            refine lv_iload_n hx hb dX5_meeting_79 rfl (lv_at hl 5 rfl) ?_
            refine ss_ki (ss_rV (C := RX5) (As := [.int (σ1 4 (Int32.toNatClampNeg x1)), .int (x3)]) (rest := []) F ((mX5_gauss l D A L wr cI cZ cS σ7 (σ1 4 (Int32.toNatClampNeg x1)) x3) _) gX5_meeting_X5_gauss rfl ⟨rfl, rfl⟩ ⟨rfl, dvX5_gauss⟩ ⟨Nat.le_of_ble_eq_true rfl, Nat.le_of_ble_eq_true rfl⟩ (ss_preV F.2.2.2.2.1 F.2.2.2.2.2 hC (ss_rec (C := RX5) (T := TX5) (N := 16) (ci := 5) F.2.2.2.2.1 hC (0) (Nat.le_of_ble_eq_true rfl) rfl rfl) hw) rfl hl.1 rfl (Nat.le_of_ble_eq_true rfl) dX5_meeting_80 ⟨Nat.zero_le _, Nat.zero_le _⟩) hC (fun r10 σ9 H locs hC hw => ?_)
            refine lv_iload hx hb dX5_meeting_83 (lv_at hl 0 rfl) ?_
            refine lv_imul hx hb dX5_meeting_85 ?_
            refine lv_aload_n hx hb dX5_meeting_86 rfl (lv_at hl 2 rfl) ?_
            refine ss_get (C := RX5) (T := TX5) (N := 16) (ci := 5) (v := .int (σ9 0 0)) F hC (0) u_X5 (Nat.le_of_ble_eq_true rfl) rfl rfl 0 (by decide) f_38 rfl dX5_meeting_87 ?_
            refine lv_iload hx hb dX5_meeting_90 (lv_at hl 1 rfl) ?_
            refine lv_iload_n hx hb dX5_meeting_92 rfl (lv_at hl 5 rfl) ?_
            refine lv_isub hx hb dX5_meeting_93 ?_
            refine lv_iload_n hx hb dX5_meeting_94 rfl (lv_at hl 4 rfl) ?_
            refine lv_iload_n hx hb dX5_meeting_95 rfl (lv_at hl 5 rfl) ?_
            refine lv_isub hx hb dX5_meeting_96 ?_
            refine lv_imul hx hb dX5_meeting_97 ?_
            refine ss_ki (ss_rS (As := [.int (σ9 0 0), .int (((σ1 4 (Int32.toNatClampNeg x1)) - x3) * (x2 - x3))]) (rest := [.int (r10 * r8)]) F ((mX5_power l D A L wr cI cZ cS σ9 (σ9 0 0) (((σ1 4 (Int32.toNatClampNeg x1)) - x3) * (x2 - x3))) _) gX5_meeting_X5_power rfl ⟨rfl, rfl⟩ dvX5_power ⟨Nat.le_of_ble_eq_true rfl, Nat.le_of_ble_eq_true rfl⟩ (ss_preS F.2.2.2.2.1 F.2.2.2.2.2 hC hw) rfl hl.1 rfl (Nat.le_of_ble_eq_true rfl) dX5_meeting_98 ⟨Nat.zero_le _, Nat.zero_le _⟩) hC (fun r12 σ11 H locs hC hw => ?_)
            refine lv_imul hx hb dX5_meeting_101 ?_
            exact ss_iret F hC hw dX5_meeting_102
          · replace hw := hw.2 hc
            refine lv_iconst (v := 0) hx hb dX5_meeting_72 (by decide) ?_
            refine lv_goto (tgt := 102) hx hb dX5_meeting_73 (by decide) ?_
            exact ss_iret F hC hw dX5_meeting_102
        · replace hw := hw.2 hc
          refine lv_iconst (v := 0) hx hb dX5_meeting_49 (by decide) ?_
          exact ss_iret F hC hw dX5_meeting_50
  · replace hw := hw.2 hc
    refine lv_bipush (v := -101) hx hb dX5_meeting_7 (by decide) ?_
    exact ss_iret F hC hw dX5_meeting_9

theorem mX5_meeting (l : Launch) (D : va_G) (A : Nat → Prop) (L : Nat → Nat) (wr : va_W) (cI cZ cS : ClassId) (σ : ss_S) (x1 : Int32) (x2 : Int32) (x3 : Int32)  : ss_MI l yX5_meeting wsX5_meeting rmX5_meeting (ss_EM D A L wr cI cZ cS) [.ref (L (0)), .int (x1), .int (x2), .int (x3)] σ (fun post => wX5_meeting x1 x2 x3 σ post) :=
  ss_MI.of (cc := cX5_meeting) (nL := 6) (ret := (some .int)) (own := RX5) (by decide) rfl rfl (Nat.le_of_ble_eq_true rfl) (fun post p e R s m below meth c H locs ls F hC hl hw => bX5_meeting F  σ H locs ls hC hl hw)

set_option maxHeartbeats 4000000 in
set_option maxRecDepth 100000 in
theorem tX5_toHeap_15  {post : ss_S → Prop} (F : ss_F p R s m args meth c (ss_EM D A L wr cI cZ cS) cX5_toHeap 2 wsX5_toHeap RX5 none rmX5_toHeap)  (k49 : Int32 → ss_S → Prop) : ∀ (n : Nat) (x1 : Int32) (σ : ss_S) (H : Heap) (locs : List Loc) (ls : Array Slot), ss_C (ss_EM D A L wr cI cZ cS) σ s H locs → lv_has ls 2 [(0, .ref (L (0))), (1, .int (x1))] → lX5_toHeap_15 post k49 n x1 σ →
    (∀ (x1 : Int32) (σ : ss_S) (H : Heap) (locs : List Loc) (ls : Array Slot), ss_C (ss_EM D A L wr cI cZ cS) σ s H locs → lv_has ls 2 [(0, .ref (L (0)))] → k49 x1 σ → W p l e R s m args below meth c H locs 0 0 (MQ below (va_Qv post (ss_B (ss_EM D A L wr cI cZ cS)) A) args s 0 0 A) (F0 m 49 ls [])) →
    W p l e R s m args below meth c H locs 0 0 (MQ below (va_Qv post (ss_B (ss_EM D A L wr cI cZ cS)) A) args s 0 0 A) (F0 m 15 ls []) := by
  have hx := F.1.1
  have hb := F.1.2.1
  have u_X5 : ∀ w ∈ u_ws RX5 TX5 16, w ∈ wsX5_toHeap := by decide +kernel
  have f_76 : (Cond.fieldLink RX5 76 "SmallSpacesModel" "worked" "I").before args s = true := F.1.2.2.2.2 _ (by decide +kernel)
  have f_35 : (Cond.fieldLink RX5 35 "SmallSpacesModel" "heapRows" "[I").before args s = true := F.1.2.2.2.2 _ (by decide +kernel)
  have f_55 : (Cond.fieldLink RX5 55 "SmallSpacesModel" "heapMany" "I").before args s = true := F.1.2.2.2.2 _ (by decide +kernel)
  have f_13 : (Cond.fieldLink RX5 13 "SmallSpacesModel" "work" "[I").before args s = true := F.1.2.2.2.2 _ (by decide +kernel)
  intro n
  induction n with
  | zero => intro x1 σ H locs ls hC hl hw; exact hw.elim
  | succ n ih =>
    intro x1 σ H locs ls hC hl hw hk49
    refine lv_iload_n hx hb dX5_toHeap_15 rfl (lv_at hl 1 rfl) ?_
    refine lv_aload_n hx hb dX5_toHeap_16 rfl (lv_at hl 0 rfl) ?_
    refine ss_get (C := RX5) (T := TX5) (N := 16) (ci := 5) (v := .int (σ 0 7)) F hC (0) u_X5 (Nat.le_of_ble_eq_true rfl) rfl rfl 7 (by decide) f_76 rfl dX5_toHeap_17 ?_
    refine lv_icmp_ge (tgt := 49) hx hb dX5_toHeap_20 (by decide) (fun hc => ?_) (fun hc => ?_)
    · replace hw := hw.1 hc
      exact hk49 x1 σ _ _ _ hC (lv_sub hl [0] rfl) hw
    · replace hw := hw.2 hc
      refine lv_aload_n hx hb dX5_toHeap_23 rfl (lv_at hl 0 rfl) ?_
      refine ss_get (C := RX5) (T := TX5) (N := 16) (ci := 5) (v := .ref (L (9))) F hC (0) u_X5 (Nat.le_of_ble_eq_true rfl) rfl rfl 15 (by decide) f_35 rfl dX5_toHeap_24 ?_
      refine lv_bipush (v := 6) hx hb dX5_toHeap_27 (by decide) ?_
      refine lv_aload_n hx hb dX5_toHeap_29 rfl (lv_at hl 0 rfl) ?_
      refine ss_get (C := RX5) (T := TX5) (N := 16) (ci := 5) (v := .int (σ 0 13)) F hC (0) u_X5 (Nat.le_of_ble_eq_true rfl) rfl rfl 13 (by decide) f_55 rfl dX5_toHeap_30 ?_
      refine lv_imul hx hb dX5_toHeap_33 ?_
      refine lv_iload_n hx hb dX5_toHeap_34 rfl (lv_at hl 1 rfl) ?_
      refine lv_iadd hx hb dX5_toHeap_35 ?_
      refine lv_aload_n hx hb dX5_toHeap_36 rfl (lv_at hl 0 rfl) ?_
      refine ss_get (C := RX5) (T := TX5) (N := 16) (ci := 5) (v := .ref (L (2))) F hC (0) u_X5 (Nat.le_of_ble_eq_true rfl) rfl rfl 6 (by decide) f_13 rfl dX5_toHeap_37 ?_
      refine lv_iload_n hx hb dX5_toHeap_40 rfl (lv_at hl 1 rfl) ?_
      refine ss_iald F hC (2) 0 (Nat.le_of_ble_eq_true rfl) (fun _ => rfl) rfl hw.1 dX5_toHeap_41 ?_
      replace hw := hw.2
      refine ss_iast F hC (9) 0 (Nat.le_of_ble_eq_true rfl) (fun _ => rfl) rfl hw.1 dX5_toHeap_42 (fun H locs hC => ?_)
      replace hw := hw.2
      refine lv_iinc (v := x1 + 1) (lv' := [(1, .int (x1 + 1)), (0, .ref (L (0)))]) hx hb dX5_toHeap_43 hl (k := 1) rfl rfl (by decide) rfl (fun ls hl => ?_)
      refine lv_goto (tgt := 15) hx hb dX5_toHeap_46 (by decide) ?_
      exact ih (x1 + 1) (u2 σ 9 (Int32.toNatClampNeg ((6 * (σ 0 13)) + x1)) (σ 2 (Int32.toNatClampNeg x1))) _ _ _ hC (lv_sub hl [1, 0] rfl) hw hk49

set_option maxHeartbeats 4000000 in
set_option maxRecDepth 100000 in
theorem bX5_toHeap  {post : ss_S → Prop} (F : ss_F p R s m args meth c (ss_EM D A L wr cI cZ cS) cX5_toHeap 2 wsX5_toHeap RX5 none rmX5_toHeap)  : ∀ (σ : ss_S) (H : Heap) (locs : List Loc) (ls : Array Slot), ss_C (ss_EM D A L wr cI cZ cS) σ s H locs → lv_has ls 2 [(0, .ref (L (0)))] → wX5_toHeap  σ post → W p l e R s m args below meth c H locs 0 0 (MQ below (va_Qv post (ss_B (ss_EM D A L wr cI cZ cS)) A) args s 0 0 A) (F0 m 0 ls []) := by
  have hx := F.1.1
  have hb := F.1.2.1
  have u_X5 : ∀ w ∈ u_ws RX5 TX5 16, w ∈ wsX5_toHeap := by decide +kernel
  have f_32 : (Cond.fieldLink RX5 32 "SmallSpacesModel" "heapDims" "[I").before args s = true := F.1.2.2.2.2 _ (by decide +kernel)
  have f_55 : (Cond.fieldLink RX5 55 "SmallSpacesModel" "heapMany" "I").before args s = true := F.1.2.2.2.2 _ (by decide +kernel)
  have f_76 : (Cond.fieldLink RX5 76 "SmallSpacesModel" "worked" "I").before args s = true := F.1.2.2.2.2 _ (by decide +kernel)
  intro σ H locs ls hC hl hw
  unfold wX5_toHeap at hw
  refine lv_aload_n hx hb dX5_toHeap_0 rfl (lv_at hl 0 rfl) ?_
  refine ss_get (C := RX5) (T := TX5) (N := 16) (ci := 5) (v := .ref (L (8))) F hC (0) u_X5 (Nat.le_of_ble_eq_true rfl) rfl rfl 14 (by decide) f_32 rfl dX5_toHeap_1 ?_
  refine lv_aload_n hx hb dX5_toHeap_4 rfl (lv_at hl 0 rfl) ?_
  refine ss_get (C := RX5) (T := TX5) (N := 16) (ci := 5) (v := .int (σ 0 13)) F hC (0) u_X5 (Nat.le_of_ble_eq_true rfl) rfl rfl 13 (by decide) f_55 rfl dX5_toHeap_5 ?_
  refine lv_aload_n hx hb dX5_toHeap_8 rfl (lv_at hl 0 rfl) ?_
  refine ss_get (C := RX5) (T := TX5) (N := 16) (ci := 5) (v := .int (σ 0 7)) F hC (0) u_X5 (Nat.le_of_ble_eq_true rfl) rfl rfl 7 (by decide) f_76 rfl dX5_toHeap_9 ?_
  refine ss_iast F hC (8) 0 (Nat.le_of_ble_eq_true rfl) (fun _ => rfl) rfl hw.1 dX5_toHeap_12 (fun H locs hC => ?_)
  replace hw := hw.2
  refine lv_iconst (v := 0) hx hb dX5_toHeap_13 (by decide) ?_
  refine lv_istore_n (lv' := [(1, .int (0)), (0, .ref (L (0)))]) hx hb dX5_toHeap_14 rfl hl (by decide) rfl (fun ls hl => ?_)
  obtain ⟨n_, hw⟩ := hw
  refine tX5_toHeap_15 F  _ n_ 0 (u2 σ 8 (Int32.toNatClampNeg (σ 0 13)) (σ 0 7)) _ _ _ hC (lv_sub hl [1, 0] rfl) hw ?_
  · intro x1_1 σ_1 H locs ls hC hl hw
    refine lv_aload_n hx hb dX5_toHeap_49 rfl (lv_at hl 0 rfl) ?_
    refine lv_dup hx hb dX5_toHeap_50 rfl ?_
    refine ss_get (C := RX5) (T := TX5) (N := 16) (ci := 5) (v := .int (σ_1 0 13)) F hC (0) u_X5 (Nat.le_of_ble_eq_true rfl) rfl rfl 13 (by decide) f_55 rfl dX5_toHeap_51 ?_
    refine lv_iconst (v := 1) hx hb dX5_toHeap_54 (by decide) ?_
    refine lv_iadd hx hb dX5_toHeap_55 ?_
    refine ss_put (C := RX5) (T := TX5) (N := 16) (ci := 5) F hC (0) tyX5 tyX5_ok nmX5 u_X5 (Nat.le_of_ble_eq_true rfl) rfl rfl 13 (by decide) f_55 rfl (by decide +kernel) (Nat.le_of_ble_eq_true rfl) rfl dX5_toHeap_56 (fun H locs hC => ?_)
    exact ss_vret F hC hw dX5_toHeap_59

theorem mX5_toHeap (l : Launch) (D : va_G) (A : Nat → Prop) (L : Nat → Nat) (wr : va_W) (cI cZ cS : ClassId) (σ : ss_S)   : ss_MV l yX5_toHeap wsX5_toHeap rmX5_toHeap (ss_EM D A L wr cI cZ cS) [.ref (L (0))] σ (fun post => wX5_toHeap  σ post) :=
  ss_MV.of (cc := cX5_toHeap) (nL := 2) (ret := none) (own := RX5) (by decide) rfl rfl (Nat.le_of_ble_eq_true rfl) (fun post p e R s m below meth c H locs ls F hC hl hw => bX5_toHeap F  σ H locs ls hC hl hw)

set_option maxHeartbeats 4000000 in
set_option maxRecDepth 100000 in
theorem tX5_loadHeap_2 {x1 : Int32} {post : ss_S → Prop} (F : ss_F p R s m args meth c (ss_EM D A L wr cI cZ cS) cX5_loadHeap 3 wsX5_loadHeap RX5 none rmX5_loadHeap)  (k48 : Int32 → ss_S → Prop) : ∀ (n : Nat) (x2 : Int32) (σ : ss_S) (H : Heap) (locs : List Loc) (ls : Array Slot), ss_C (ss_EM D A L wr cI cZ cS) σ s H locs → lv_has ls 3 [(0, .ref (L (0))), (1, .int (x1)), (2, .int (x2))] → lX5_loadHeap_2 x1 post k48 n x2 σ →
    (∀ (x2 : Int32) (σ : ss_S) (H : Heap) (locs : List Loc) (ls : Array Slot), ss_C (ss_EM D A L wr cI cZ cS) σ s H locs → lv_has ls 3 [] → k48 x2 σ → W p l e R s m args below meth c H locs 0 0 (MQ below (va_Qv post (ss_B (ss_EM D A L wr cI cZ cS)) A) args s 0 0 A) (F0 m 48 ls [])) →
    W p l e R s m args below meth c H locs 0 0 (MQ below (va_Qv post (ss_B (ss_EM D A L wr cI cZ cS)) A) args s 0 0 A) (F0 m 2 ls []) := by
  have hx := F.1.1
  have hb := F.1.2.1
  have u_X5 : ∀ w ∈ u_ws RX5 TX5 16, w ∈ wsX5_loadHeap := by decide +kernel
  have f_32 : (Cond.fieldLink RX5 32 "SmallSpacesModel" "heapDims" "[I").before args s = true := F.1.2.2.2.2 _ (by decide +kernel)
  have f_13 : (Cond.fieldLink RX5 13 "SmallSpacesModel" "work" "[I").before args s = true := F.1.2.2.2.2 _ (by decide +kernel)
  have f_76 : (Cond.fieldLink RX5 76 "SmallSpacesModel" "worked" "I").before args s = true := F.1.2.2.2.2 _ (by decide +kernel)
  have f_35 : (Cond.fieldLink RX5 35 "SmallSpacesModel" "heapRows" "[I").before args s = true := F.1.2.2.2.2 _ (by decide +kernel)
  intro n
  induction n with
  | zero => intro x2 σ H locs ls hC hl hw; exact hw.elim
  | succ n ih =>
    intro x2 σ H locs ls hC hl hw hk48
    refine lv_iload_n hx hb dX5_loadHeap_2 rfl (lv_at hl 2 rfl) ?_
    refine lv_aload_n hx hb dX5_loadHeap_3 rfl (lv_at hl 0 rfl) ?_
    refine ss_get (C := RX5) (T := TX5) (N := 16) (ci := 5) (v := .ref (L (8))) F hC (0) u_X5 (Nat.le_of_ble_eq_true rfl) rfl rfl 14 (by decide) f_32 rfl dX5_loadHeap_4 ?_
    refine lv_iload_n hx hb dX5_loadHeap_7 rfl (lv_at hl 1 rfl) ?_
    refine ss_iald F hC (8) 0 (Nat.le_of_ble_eq_true rfl) (fun _ => rfl) rfl hw.1 dX5_loadHeap_8 ?_
    replace hw := hw.2
    refine lv_icmp_ge (tgt := 48) hx hb dX5_loadHeap_9 (by decide) (fun hc => ?_) (fun hc => ?_)
    · replace hw := hw.1 hc
      exact hk48 x2 σ _ _ _ hC (lv_sub hl [] rfl) hw
    · replace hw := hw.2 hc
      refine lv_aload_n hx hb dX5_loadHeap_12 rfl (lv_at hl 0 rfl) ?_
      refine ss_get (C := RX5) (T := TX5) (N := 16) (ci := 5) (v := .ref (L (2))) F hC (0) u_X5 (Nat.le_of_ble_eq_true rfl) rfl rfl 6 (by decide) f_13 rfl dX5_loadHeap_13 ?_
      refine lv_aload_n hx hb dX5_loadHeap_16 rfl (lv_at hl 0 rfl) ?_
      refine ss_get (C := RX5) (T := TX5) (N := 16) (ci := 5) (v := .int (σ 0 7)) F hC (0) u_X5 (Nat.le_of_ble_eq_true rfl) rfl rfl 7 (by decide) f_76 rfl dX5_loadHeap_17 ?_
      refine lv_aload_n hx hb dX5_loadHeap_20 rfl (lv_at hl 0 rfl) ?_
      refine ss_get (C := RX5) (T := TX5) (N := 16) (ci := 5) (v := .ref (L (9))) F hC (0) u_X5 (Nat.le_of_ble_eq_true rfl) rfl rfl 15 (by decide) f_35 rfl dX5_loadHeap_21 ?_
      refine lv_bipush (v := 6) hx hb dX5_loadHeap_24 (by decide) ?_
      refine lv_iload_n hx hb dX5_loadHeap_26 rfl (lv_at hl 1 rfl) ?_
      refine lv_imul hx hb dX5_loadHeap_27 ?_
      refine lv_iload_n hx hb dX5_loadHeap_28 rfl (lv_at hl 2 rfl) ?_
      refine lv_iadd hx hb dX5_loadHeap_29 ?_
      refine ss_iald F hC (9) 0 (Nat.le_of_ble_eq_true rfl) (fun _ => rfl) rfl hw.1 dX5_loadHeap_30 ?_
      replace hw := hw.2
      refine ss_iast F hC (2) 0 (Nat.le_of_ble_eq_true rfl) (fun _ => rfl) rfl hw.1 dX5_loadHeap_31 (fun H locs hC => ?_)
      replace hw := hw.2
      refine lv_aload_n hx hb dX5_loadHeap_32 rfl (lv_at hl 0 rfl) ?_
      refine lv_dup hx hb dX5_loadHeap_33 rfl ?_
      refine ss_get (C := RX5) (T := TX5) (N := 16) (ci := 5) (v := .int ((u2 σ 2 (Int32.toNatClampNeg (σ 0 7)) (σ 9 (Int32.toNatClampNeg ((6 * x1) + x2)))) 0 7)) F hC (0) u_X5 (Nat.le_of_ble_eq_true rfl) rfl rfl 7 (by decide) f_76 rfl dX5_loadHeap_34 ?_
      refine lv_iconst (v := 1) hx hb dX5_loadHeap_37 (by decide) ?_
      refine lv_iadd hx hb dX5_loadHeap_38 ?_
      refine ss_put (C := RX5) (T := TX5) (N := 16) (ci := 5) F hC (0) tyX5 tyX5_ok nmX5 u_X5 (Nat.le_of_ble_eq_true rfl) rfl rfl 7 (by decide) f_76 rfl (by decide +kernel) (Nat.le_of_ble_eq_true rfl) rfl dX5_loadHeap_39 (fun H locs hC => ?_)
      refine lv_iinc (v := x2 + 1) (lv' := [(2, .int (x2 + 1)), (0, .ref (L (0))), (1, .int (x1))]) hx hb dX5_loadHeap_42 hl (k := 2) rfl rfl (by decide) rfl (fun ls hl => ?_)
      refine lv_goto (tgt := 2) hx hb dX5_loadHeap_45 (by decide) ?_
      exact ih (x2 + 1) (u2 (u2 σ 2 (Int32.toNatClampNeg (σ 0 7)) (σ 9 (Int32.toNatClampNeg ((6 * x1) + x2)))) 0 7 (((u2 σ 2 (Int32.toNatClampNeg (σ 0 7)) (σ 9 (Int32.toNatClampNeg ((6 * x1) + x2)))) 0 7) + 1)) _ _ _ hC (lv_sub hl [1, 2, 0] rfl) hw hk48

set_option maxHeartbeats 4000000 in
set_option maxRecDepth 100000 in
theorem bX5_loadHeap {x1 : Int32} {post : ss_S → Prop} (F : ss_F p R s m args meth c (ss_EM D A L wr cI cZ cS) cX5_loadHeap 3 wsX5_loadHeap RX5 none rmX5_loadHeap)  : ∀ (σ : ss_S) (H : Heap) (locs : List Loc) (ls : Array Slot), ss_C (ss_EM D A L wr cI cZ cS) σ s H locs → lv_has ls 3 [(0, .ref (L (0))), (1, .int (x1))] → wX5_loadHeap x1 σ post → W p l e R s m args below meth c H locs 0 0 (MQ below (va_Qv post (ss_B (ss_EM D A L wr cI cZ cS)) A) args s 0 0 A) (F0 m 0 ls []) := by
  have hx := F.1.1
  have hb := F.1.2.1
  intro σ H locs ls hC hl hw
  unfold wX5_loadHeap at hw
  refine lv_iconst (v := 0) hx hb dX5_loadHeap_0 (by decide) ?_
  refine lv_istore_n (lv' := [(2, .int (0)), (0, .ref (L (0))), (1, .int (x1))]) hx hb dX5_loadHeap_1 rfl hl (by decide) rfl (fun ls hl => ?_)
  obtain ⟨n_, hw⟩ := hw
  refine tX5_loadHeap_2 F  _ n_ 0 σ _ _ _ hC (lv_sub hl [1, 2, 0] rfl) hw ?_
  · intro x2_1 σ_1 H locs ls hC hl hw
    exact ss_vret F hC hw dX5_loadHeap_48

theorem mX5_loadHeap (l : Launch) (D : va_G) (A : Nat → Prop) (L : Nat → Nat) (wr : va_W) (cI cZ cS : ClassId) (σ : ss_S) (x1 : Int32)  : ss_MV l yX5_loadHeap wsX5_loadHeap rmX5_loadHeap (ss_EM D A L wr cI cZ cS) [.ref (L (0)), .int (x1)] σ (fun post => wX5_loadHeap x1 σ post) :=
  ss_MV.of (cc := cX5_loadHeap) (nL := 3) (ret := none) (own := RX5) (by decide) rfl rfl (Nat.le_of_ble_eq_true rfl) (fun post p e R s m below meth c H locs ls F hC hl hw => bX5_loadHeap F  σ H locs ls hC hl hw)

set_option maxHeartbeats 4000000 in
set_option maxRecDepth 100000 in
theorem bX5_put {x1 : Int32} {post : Int32 → ss_S → Prop} (F : ss_F p R s m args meth c (ss_EM D A L wr cI cZ cS) cX5_put 2 wsX5_put RX5 (some .int) rmX5_put)  : ∀ (σ : ss_S) (H : Heap) (locs : List Loc) (ls : Array Slot), ss_C (ss_EM D A L wr cI cZ cS) σ s H locs → lv_has ls 2 [(0, .ref (L (0))), (1, .int (x1))] → wX5_put x1 σ post → W p l e R s m args below meth c H locs 0 0 (MQ below (va_Qi post (ss_B (ss_EM D A L wr cI cZ cS)) A) args s 0 0 A) (F0 m 0 ls []) := by
  have hx := F.1.1
  have hb := F.1.2.1
  have u_X5 : ∀ w ∈ u_ws RX5 TX5 16, w ∈ wsX5_put := by decide +kernel
  have f_55 : (Cond.fieldLink RX5 55 "SmallSpacesModel" "heapMany" "I").before args s = true := F.1.2.2.2.2 _ (by decide +kernel)
  have f_76 : (Cond.fieldLink RX5 76 "SmallSpacesModel" "worked" "I").before args s = true := F.1.2.2.2.2 _ (by decide +kernel)
  intro σ H locs ls hC hl hw
  unfold wX5_put at hw
  refine lv_iload_n hx hb dX5_put_0 rfl (lv_at hl 1 rfl) ?_
  refine ss_ki (ss_rS (As := [.int (x1)]) (rest := []) F ((mX5_isSlot l D A L wr cI cZ cS σ x1) _) gX5_put_X5_isSlot rfl ⟨rfl, rfl⟩ dvX5_isSlot ⟨Nat.le_of_ble_eq_true rfl, Nat.le_of_ble_eq_true rfl⟩ (ss_preS F.2.2.2.2.1 F.2.2.2.2.2 hC hw) rfl hl.1 rfl (Nat.le_of_ble_eq_true rfl) dX5_put_1 ⟨Nat.zero_le _, Nat.zero_le _⟩) hC (fun r2 σ1 H locs hC hw => ?_)
  refine lv_if_ne (tgt := 10) hx hb dX5_put_4 (by decide) (fun hc => ?_) (fun hc => ?_)
  · replace hw := hw.1 hc
    refine lv_aload_n hx hb dX5_put_10 rfl (lv_at hl 0 rfl) ?_
    refine ss_get (C := RX5) (T := TX5) (N := 16) (ci := 5) (v := .int (σ1 0 13)) F hC (0) u_X5 (Nat.le_of_ble_eq_true rfl) rfl rfl 13 (by decide) f_55 rfl dX5_put_11 ?_
    refine lv_bipush (v := 40) hx hb dX5_put_14 (by decide) ?_
    refine lv_icmp_ne (tgt := 22) hx hb dX5_put_16 (by decide) (fun hc => ?_) (fun hc => ?_)
    · replace hw := hw.1 hc
      refine lv_aload_n hx hb dX5_put_22 rfl (lv_at hl 0 rfl) ?_
      refine lv_iconst (v := 0) hx hb dX5_put_23 (by decide) ?_
      refine ss_put (C := RX5) (T := TX5) (N := 16) (ci := 5) F hC (0) tyX5 tyX5_ok nmX5 u_X5 (Nat.le_of_ble_eq_true rfl) rfl rfl 7 (by decide) f_76 rfl (by decide +kernel) (Nat.le_of_ble_eq_true rfl) rfl dX5_put_24 (fun H locs hC => ?_)
      refine lv_aload_n hx hb dX5_put_27 rfl (lv_at hl 0 rfl) ?_
      refine lv_iload_n hx hb dX5_put_28 rfl (lv_at hl 1 rfl) ?_
      refine ss_kv (ss_rV (C := RX5) (As := [.int (x1)]) (rest := []) F ((mX5_load l D A L wr cI cZ cS (u2 σ1 0 7 0) x1) _) gX5_put_X5_load rfl ⟨rfl, rfl⟩ ⟨rfl, dvX5_load⟩ ⟨Nat.le_of_ble_eq_true rfl, Nat.le_of_ble_eq_true rfl⟩ (ss_preV F.2.2.2.2.1 F.2.2.2.2.2 hC (ss_rec (C := RX5) (T := TX5) (N := 16) (ci := 5) F.2.2.2.2.1 hC (0) (Nat.le_of_ble_eq_true rfl) rfl rfl) hw) rfl hl.1 rfl (Nat.le_of_ble_eq_true rfl) dX5_put_29 ⟨Nat.zero_le _, Nat.zero_le _⟩) hC (fun σ3 H locs hC hw => ?_)
      refine lv_aload_n hx hb dX5_put_32 rfl (lv_at hl 0 rfl) ?_
      refine ss_kv (ss_rV (C := RX5) (As := []) (rest := []) F ((mX5_toHeap l D A L wr cI cZ cS σ3 ) _) gX5_put_X5_toHeap rfl ⟨rfl, rfl⟩ ⟨rfl, dvX5_toHeap⟩ ⟨Nat.le_of_ble_eq_true rfl, Nat.le_of_ble_eq_true rfl⟩ (ss_preV F.2.2.2.2.1 F.2.2.2.2.2 hC (ss_rec (C := RX5) (T := TX5) (N := 16) (ci := 5) F.2.2.2.2.1 hC (0) (Nat.le_of_ble_eq_true rfl) rfl rfl) hw) rfl hl.1 rfl (Nat.le_of_ble_eq_true rfl) dX5_put_33 ⟨Nat.zero_le _, Nat.zero_le _⟩) hC (fun σ4 H locs hC hw => ?_)
      refine lv_aload_n hx hb dX5_put_36 rfl (lv_at hl 0 rfl) ?_
      refine ss_get (C := RX5) (T := TX5) (N := 16) (ci := 5) (v := .int (σ4 0 13)) F hC (0) u_X5 (Nat.le_of_ble_eq_true rfl) rfl rfl 13 (by decide) f_55 rfl dX5_put_37 ?_
      exact ss_iret F hC hw dX5_put_40
    · replace hw := hw.2 hc
      refine lv_bipush (v := -104) hx hb dX5_put_19 (by decide) ?_
      exact ss_iret F hC hw dX5_put_21
  · replace hw := hw.2 hc
    refine lv_bipush (v := -101) hx hb dX5_put_7 (by decide) ?_
    exact ss_iret F hC hw dX5_put_9

theorem mX5_put (l : Launch) (D : va_G) (A : Nat → Prop) (L : Nat → Nat) (wr : va_W) (cI cZ cS : ClassId) (σ : ss_S) (x1 : Int32)  : ss_MI l yX5_put wsX5_put rmX5_put (ss_EM D A L wr cI cZ cS) [.ref (L (0)), .int (x1)] σ (fun post => wX5_put x1 σ post) :=
  ss_MI.of (cc := cX5_put) (nL := 2) (ret := (some .int)) (own := RX5) (by decide) rfl rfl (Nat.le_of_ble_eq_true rfl) (fun post p e R s m below meth c H locs ls F hC hl hw => bX5_put F  σ H locs ls hC hl hw)

set_option maxHeartbeats 4000000 in
set_option maxRecDepth 100000 in
theorem bX5_empty  {post : Int32 → ss_S → Prop} (F : ss_F p R s m args meth c (ss_EM D A L wr cI cZ cS) cX5_empty 2 wsX5_empty RX5 (some .int) rmX5_empty)  : ∀ (σ : ss_S) (H : Heap) (locs : List Loc) (ls : Array Slot), ss_C (ss_EM D A L wr cI cZ cS) σ s H locs → lv_has ls 2 [(0, .ref (L (0)))] → wX5_empty  σ post → W p l e R s m args below meth c H locs 0 0 (MQ below (va_Qi post (ss_B (ss_EM D A L wr cI cZ cS)) A) args s 0 0 A) (F0 m 0 ls []) := by
  have hx := F.1.1
  have hb := F.1.2.1
  have u_X5 : ∀ w ∈ u_ws RX5 TX5 16, w ∈ wsX5_empty := by decide +kernel
  have f_55 : (Cond.fieldLink RX5 55 "SmallSpacesModel" "heapMany" "I").before args s = true := F.1.2.2.2.2 _ (by decide +kernel)
  intro σ H locs ls hC hl hw
  unfold wX5_empty at hw
  refine lv_aload_n hx hb dX5_empty_0 rfl (lv_at hl 0 rfl) ?_
  refine ss_get (C := RX5) (T := TX5) (N := 16) (ci := 5) (v := .int (σ 0 13)) F hC (0) u_X5 (Nat.le_of_ble_eq_true rfl) rfl rfl 13 (by decide) f_55 rfl dX5_empty_1 ?_
  refine lv_istore_n (lv' := [(1, .int (σ 0 13)), (0, .ref (L (0)))]) hx hb dX5_empty_4 rfl hl (by decide) rfl (fun ls hl => ?_)
  refine lv_aload_n hx hb dX5_empty_5 rfl (lv_at hl 1 rfl) ?_
  refine lv_iconst (v := 0) hx hb dX5_empty_6 (by decide) ?_
  refine ss_put (C := RX5) (T := TX5) (N := 16) (ci := 5) F hC (0) tyX5 tyX5_ok nmX5 u_X5 (Nat.le_of_ble_eq_true rfl) rfl rfl 13 (by decide) f_55 rfl (by decide +kernel) (Nat.le_of_ble_eq_true rfl) rfl dX5_empty_7 (fun H locs hC => ?_)
  refine lv_iload_n hx hb dX5_empty_10 rfl (lv_at hl 0 rfl) ?_
  exact ss_iret F hC hw dX5_empty_11

theorem mX5_empty (l : Launch) (D : va_G) (A : Nat → Prop) (L : Nat → Nat) (wr : va_W) (cI cZ cS : ClassId) (σ : ss_S)   : ss_MI l yX5_empty wsX5_empty rmX5_empty (ss_EM D A L wr cI cZ cS) [.ref (L (0))] σ (fun post => wX5_empty  σ post) :=
  ss_MI.of (cc := cX5_empty) (nL := 2) (ret := (some .int)) (own := RX5) (by decide) rfl rfl (Nat.le_of_ble_eq_true rfl) (fun post p e R s m below meth c H locs ls F hC hl hw => bX5_empty F  σ H locs ls hC hl hw)

set_option maxHeartbeats 4000000 in
set_option maxRecDepth 100000 in
theorem bX5_take {x1 : Int32} {x2 : Int32} {post : Int32 → ss_S → Prop} (F : ss_F p R s m args meth c (ss_EM D A L wr cI cZ cS) cX5_take 3 wsX5_take RX5 (some .int) rmX5_take)  : ∀ (σ : ss_S) (H : Heap) (locs : List Loc) (ls : Array Slot), ss_C (ss_EM D A L wr cI cZ cS) σ s H locs → lv_has ls 3 [(0, .ref (L (0))), (1, .int (x1)), (2, .int (x2))] → wX5_take x1 x2 σ post → W p l e R s m args below meth c H locs 0 0 (MQ below (va_Qi post (ss_B (ss_EM D A L wr cI cZ cS)) A) args s 0 0 A) (F0 m 0 ls []) := by
  have hx := F.1.1
  have hb := F.1.2.1
  have u_X5 : ∀ w ∈ u_ws RX5 TX5 16, w ∈ wsX5_take := by decide +kernel
  have f_55 : (Cond.fieldLink RX5 55 "SmallSpacesModel" "heapMany" "I").before args s = true := F.1.2.2.2.2 _ (by decide +kernel)
  have f_76 : (Cond.fieldLink RX5 76 "SmallSpacesModel" "worked" "I").before args s = true := F.1.2.2.2.2 _ (by decide +kernel)
  intro σ H locs ls hC hl hw
  unfold wX5_take at hw
  refine lv_iload_n hx hb dX5_take_0 rfl (lv_at hl 1 rfl) ?_
  refine ss_ki (ss_rS (As := [.int (x1)]) (rest := []) F ((mX5_isSlot l D A L wr cI cZ cS σ x1) _) gX5_take_X5_isSlot rfl ⟨rfl, rfl⟩ dvX5_isSlot ⟨Nat.le_of_ble_eq_true rfl, Nat.le_of_ble_eq_true rfl⟩ (ss_preS F.2.2.2.2.1 F.2.2.2.2.2 hC hw) rfl hl.1 rfl (Nat.le_of_ble_eq_true rfl) dX5_take_1 ⟨Nat.zero_le _, Nat.zero_le _⟩) hC (fun r2 σ1 H locs hC hw => ?_)
  refine lv_if_eq (tgt := 23) hx hb dX5_take_4 (by decide) (fun hc => ?_) (fun hc => ?_)
  · replace hw := hw.1 hc
    refine lv_bipush (v := -101) hx hb dX5_take_23 (by decide) ?_
    exact ss_iret F hC hw dX5_take_25
  · replace hw := hw.2 hc
    refine lv_iload_n hx hb dX5_take_7 rfl (lv_at hl 2 rfl) ?_
    refine lv_i2l hx hb dX5_take_8 rfl ?_
    refine lv_lconst (v := 0) hx hb dX5_take_9 (by decide) ?_
    refine lv_aload_n hx hb dX5_take_10 rfl (lv_at hl 0 rfl) ?_
    refine ss_get (C := RX5) (T := TX5) (N := 16) (ci := 5) (v := .int (σ1 0 13)) F hC (0) u_X5 (Nat.le_of_ble_eq_true rfl) rfl rfl 13 (by decide) f_55 rfl dX5_take_11 ?_
    refine lv_iconst (v := 1) hx hb dX5_take_14 (by decide) ?_
    refine lv_isub hx hb dX5_take_15 ?_
    refine lv_i2l hx hb dX5_take_16 rfl ?_
    refine ss_ki (ss_rS (As := [.long (Int32.toInt64 x2), .long (0), .long (Int32.toInt64 ((σ1 0 13) - 1))]) (rest := []) F ((mX5_in l D A L wr cI cZ cS σ1 (Int32.toInt64 x2) 0 (Int32.toInt64 ((σ1 0 13) - 1))) _) gX5_take_X5_in rfl ⟨rfl, rfl⟩ dvX5_in ⟨Nat.le_of_ble_eq_true rfl, Nat.le_of_ble_eq_true rfl⟩ (ss_preS F.2.2.2.2.1 F.2.2.2.2.2 hC hw) rfl hl.1 rfl (Nat.le_of_ble_eq_true rfl) dX5_take_17 ⟨Nat.zero_le _, Nat.zero_le _⟩) hC (fun r4 σ3 H locs hC hw => ?_)
    refine lv_if_ne (tgt := 26) hx hb dX5_take_20 (by decide) (fun hc => ?_) (fun hc => ?_)
    · replace hw := hw.1 hc
      refine lv_aload_n hx hb dX5_take_26 rfl (lv_at hl 0 rfl) ?_
      refine lv_iconst (v := 0) hx hb dX5_take_27 (by decide) ?_
      refine ss_put (C := RX5) (T := TX5) (N := 16) (ci := 5) F hC (0) tyX5 tyX5_ok nmX5 u_X5 (Nat.le_of_ble_eq_true rfl) rfl rfl 7 (by decide) f_76 rfl (by decide +kernel) (Nat.le_of_ble_eq_true rfl) rfl dX5_take_28 (fun H locs hC => ?_)
      refine lv_aload_n hx hb dX5_take_31 rfl (lv_at hl 0 rfl) ?_
      refine lv_iload_n hx hb dX5_take_32 rfl (lv_at hl 2 rfl) ?_
      refine ss_kv (ss_rV (C := RX5) (As := [.int (x2)]) (rest := []) F ((mX5_loadHeap l D A L wr cI cZ cS (u2 σ3 0 7 0) x2) _) gX5_take_X5_loadHeap rfl ⟨rfl, rfl⟩ ⟨rfl, dvX5_loadHeap⟩ ⟨Nat.le_of_ble_eq_true rfl, Nat.le_of_ble_eq_true rfl⟩ (ss_preV F.2.2.2.2.1 F.2.2.2.2.2 hC (ss_rec (C := RX5) (T := TX5) (N := 16) (ci := 5) F.2.2.2.2.1 hC (0) (Nat.le_of_ble_eq_true rfl) rfl rfl) hw) rfl hl.1 rfl (Nat.le_of_ble_eq_true rfl) dX5_take_33 ⟨Nat.zero_le _, Nat.zero_le _⟩) hC (fun σ5 H locs hC hw => ?_)
      refine lv_aload_n hx hb dX5_take_36 rfl (lv_at hl 0 rfl) ?_
      refine lv_iload_n hx hb dX5_take_37 rfl (lv_at hl 1 rfl) ?_
      refine ss_ki (ss_rV (C := RX5) (As := [.int (x1)]) (rest := []) F ((mX5_save l D A L wr cI cZ cS σ5 x1) _) gX5_take_X5_save rfl ⟨rfl, rfl⟩ ⟨rfl, dvX5_save⟩ ⟨Nat.le_of_ble_eq_true rfl, Nat.le_of_ble_eq_true rfl⟩ (ss_preV F.2.2.2.2.1 F.2.2.2.2.2 hC (ss_rec (C := RX5) (T := TX5) (N := 16) (ci := 5) F.2.2.2.2.1 hC (0) (Nat.le_of_ble_eq_true rfl) rfl rfl) hw) rfl hl.1 rfl (Nat.le_of_ble_eq_true rfl) dX5_take_38 ⟨Nat.zero_le _, Nat.zero_le _⟩) hC (fun r7 σ6 H locs hC hw => ?_)
      exact ss_iret F hC hw dX5_take_41
    · replace hw := hw.2 hc
      refine lv_bipush (v := -101) hx hb dX5_take_23 (by decide) ?_
      exact ss_iret F hC hw dX5_take_25

theorem mX5_take (l : Launch) (D : va_G) (A : Nat → Prop) (L : Nat → Nat) (wr : va_W) (cI cZ cS : ClassId) (σ : ss_S) (x1 : Int32) (x2 : Int32)  : ss_MI l yX5_take wsX5_take rmX5_take (ss_EM D A L wr cI cZ cS) [.ref (L (0)), .int (x1), .int (x2)] σ (fun post => wX5_take x1 x2 σ post) :=
  ss_MI.of (cc := cX5_take) (nL := 3) (ret := (some .int)) (own := RX5) (by decide) rfl rfl (Nat.le_of_ble_eq_true rfl) (fun post p e R s m below meth c H locs ls F hC hl hw => bX5_take F  σ H locs ls hC hl hw)

set_option maxHeartbeats 4000000 in
set_option maxRecDepth 100000 in
theorem tX5_least_14 {x2 : Int32} {post : Int32 → ss_S → Prop} (F : ss_F p R s m args meth c (ss_EM D A L wr cI cZ cS) cX5_least 5 wsX5_least RX5 (some .int) rmX5_least)  (k84 : Int32 → Int32 → ss_S → Prop) : ∀ (n : Nat) (x1 : Int32) (x3 : Int32) (σ : ss_S) (H : Heap) (locs : List Loc) (ls : Array Slot), ss_C (ss_EM D A L wr cI cZ cS) σ s H locs → lv_has ls 5 [(0, .ref (L (0))), (1, .int (x1)), (2, .int (x2)), (3, .int (x3))] → lX5_least_14 x2 post k84 n x1 x3 σ →
    (∀ (x1 : Int32) (x3 : Int32) (σ : ss_S) (H : Heap) (locs : List Loc) (ls : Array Slot), ss_C (ss_EM D A L wr cI cZ cS) σ s H locs → lv_has ls 5 [(0, .ref (L (0))), (1, .int (x1)), (2, .int (x2))] → k84 x1 x3 σ → W p l e R s m args below meth c H locs 0 0 (MQ below (va_Qi post (ss_B (ss_EM D A L wr cI cZ cS)) A) args s 0 0 A) (F0 m 84 ls [])) →
    W p l e R s m args below meth c H locs 0 0 (MQ below (va_Qi post (ss_B (ss_EM D A L wr cI cZ cS)) A) args s 0 0 A) (F0 m 14 ls []) := by
  have hx := F.1.1
  have hb := F.1.2.1
  have u_X5 : ∀ w ∈ u_ws RX5 TX5 16, w ∈ wsX5_least := by decide +kernel
  have f_76 : (Cond.fieldLink RX5 76 "SmallSpacesModel" "worked" "I").before args s = true := F.1.2.2.2.2 _ (by decide +kernel)
  have f_32 : (Cond.fieldLink RX5 32 "SmallSpacesModel" "heapDims" "[I").before args s = true := F.1.2.2.2.2 _ (by decide +kernel)
  intro n
  induction n with
  | zero => intro x1 x3 σ H locs ls hC hl hw; exact hw.elim
  | succ n ih =>
    intro x1 x3 σ H locs ls hC hl hw hk84
    refine lv_iload_n hx hb dX5_least_14 rfl (lv_at hl 3 rfl) ?_
    refine lv_iload_n hx hb dX5_least_15 rfl (lv_at hl 2 rfl) ?_
    refine lv_icmp_ge (tgt := 84) hx hb dX5_least_16 (by decide) (fun hc => ?_) (fun hc => ?_)
    · replace hw := hw.1 hc
      exact hk84 x1 x3 σ _ _ _ hC (lv_sub hl [0, 1, 2] rfl) hw
    · replace hw := hw.2 hc
      refine lv_aload_n hx hb dX5_least_19 rfl (lv_at hl 0 rfl) ?_
      refine lv_iconst (v := 0) hx hb dX5_least_20 (by decide) ?_
      refine ss_put (C := RX5) (T := TX5) (N := 16) (ci := 5) F hC (0) tyX5 tyX5_ok nmX5 u_X5 (Nat.le_of_ble_eq_true rfl) rfl rfl 7 (by decide) f_76 rfl (by decide +kernel) (Nat.le_of_ble_eq_true rfl) rfl dX5_least_21 (fun H locs hC => ?_)
      refine lv_aload_n hx hb dX5_least_24 rfl (lv_at hl 0 rfl) ?_
      refine lv_iload_n hx hb dX5_least_25 rfl (lv_at hl 2 rfl) ?_
      refine ss_kv (ss_rV (C := RX5) (As := [.int (x2)]) (rest := []) F ((mX5_loadHeap l D A L wr cI cZ cS (u2 σ 0 7 0) x2) _) gX5_least_X5_loadHeap rfl ⟨rfl, rfl⟩ ⟨rfl, dvX5_loadHeap⟩ ⟨Nat.le_of_ble_eq_true rfl, Nat.le_of_ble_eq_true rfl⟩ (ss_preV F.2.2.2.2.1 F.2.2.2.2.2 hC (ss_rec (C := RX5) (T := TX5) (N := 16) (ci := 5) F.2.2.2.2.1 hC (0) (Nat.le_of_ble_eq_true rfl) rfl rfl) hw) rfl hl.1 rfl (Nat.le_of_ble_eq_true rfl) dX5_least_26 ⟨Nat.zero_le _, Nat.zero_le _⟩) hC (fun σ1 H locs hC hw => ?_)
      refine lv_aload_n hx hb dX5_least_29 rfl (lv_at hl 0 rfl) ?_
      refine lv_iload_n hx hb dX5_least_30 rfl (lv_at hl 3 rfl) ?_
      refine ss_kv (ss_rV (C := RX5) (As := [.int (x3)]) (rest := []) F ((mX5_loadHeap l D A L wr cI cZ cS σ1 x3) _) gX5_least_X5_loadHeap rfl ⟨rfl, rfl⟩ ⟨rfl, dvX5_loadHeap⟩ ⟨Nat.le_of_ble_eq_true rfl, Nat.le_of_ble_eq_true rfl⟩ (ss_preV F.2.2.2.2.1 F.2.2.2.2.2 hC (ss_rec (C := RX5) (T := TX5) (N := 16) (ci := 5) F.2.2.2.2.1 hC (0) (Nat.le_of_ble_eq_true rfl) rfl rfl) hw) rfl hl.1 rfl (Nat.le_of_ble_eq_true rfl) dX5_least_31 ⟨Nat.zero_le _, Nat.zero_le _⟩) hC (fun σ2 H locs hC hw => ?_)
      refine lv_aload_n hx hb dX5_least_34 rfl (lv_at hl 0 rfl) ?_
      refine ss_kv (ss_rV (C := RX5) (As := []) (rest := []) F ((mX5_settle l D A L wr cI cZ cS σ2 ) _) gX5_least_X5_settle rfl ⟨rfl, rfl⟩ ⟨rfl, dvX5_settle⟩ ⟨Nat.le_of_ble_eq_true rfl, Nat.le_of_ble_eq_true rfl⟩ (ss_preV F.2.2.2.2.1 F.2.2.2.2.2 hC (ss_rec (C := RX5) (T := TX5) (N := 16) (ci := 5) F.2.2.2.2.1 hC (0) (Nat.le_of_ble_eq_true rfl) rfl rfl) hw) rfl hl.1 rfl (Nat.le_of_ble_eq_true rfl) dX5_least_35 ⟨Nat.zero_le _, Nat.zero_le _⟩) hC (fun σ3 H locs hC hw => ?_)
      refine lv_iconst (v := 2) hx hb dX5_least_38 (by decide) ?_
      refine lv_aload_n hx hb dX5_least_39 rfl (lv_at hl 0 rfl) ?_
      refine ss_get (C := RX5) (T := TX5) (N := 16) (ci := 5) (v := .int (σ3 0 7)) F hC (0) u_X5 (Nat.le_of_ble_eq_true rfl) rfl rfl 7 (by decide) f_76 rfl dX5_least_40 ?_
      refine lv_imul hx hb dX5_least_43 ?_
      refine lv_aload_n hx hb dX5_least_44 rfl (lv_at hl 0 rfl) ?_
      refine ss_get (C := RX5) (T := TX5) (N := 16) (ci := 5) (v := .ref (L (8))) F hC (0) u_X5 (Nat.le_of_ble_eq_true rfl) rfl rfl 14 (by decide) f_32 rfl dX5_least_45 ?_
      refine lv_iload_n hx hb dX5_least_48 rfl (lv_at hl 2 rfl) ?_
      refine ss_iald F hC (8) 0 (Nat.le_of_ble_eq_true rfl) (fun _ => rfl) rfl hw.1 dX5_least_49 ?_
      replace hw := hw.2
      refine lv_isub hx hb dX5_least_50 ?_
      refine lv_aload_n hx hb dX5_least_51 rfl (lv_at hl 0 rfl) ?_
      refine ss_get (C := RX5) (T := TX5) (N := 16) (ci := 5) (v := .ref (L (8))) F hC (0) u_X5 (Nat.le_of_ble_eq_true rfl) rfl rfl 14 (by decide) f_32 rfl dX5_least_52 ?_
      refine lv_iload_n hx hb dX5_least_55 rfl (lv_at hl 3 rfl) ?_
      refine ss_iald F hC (8) 0 (Nat.le_of_ble_eq_true rfl) (fun _ => rfl) rfl hw.1 dX5_least_56 ?_
      replace hw := hw.2
      refine lv_isub hx hb dX5_least_57 ?_
      refine lv_istore (lv' := [(4, .int (((2 * (σ3 0 7)) - (σ3 8 (Int32.toNatClampNeg x2))) - (σ3 8 (Int32.toNatClampNeg x3)))), (0, .ref (L (0))), (1, .int (x1)), (2, .int (x2)), (3, .int (x3))]) hx hb dX5_least_58 hl (by decide) rfl (fun ls hl => ?_)
      refine lv_iload_n hx hb dX5_least_60 rfl (lv_at hl 2 rfl) ?_
      refine lv_iconst (v := -1) hx hb dX5_least_61 (by decide) ?_
      refine lv_icmp_eq (tgt := 71) hx hb dX5_least_62 (by decide) (fun hc => ?_) (fun hc => ?_)
      · replace hw := hw.1 hc
        refine lv_iload hx hb dX5_least_71 (lv_at hl 0 rfl) ?_
        refine lv_goto (tgt := 77) hx hb dX5_least_73 (by decide) ?_
        refine lv_istore_n (lv' := [(1, .int (((2 * (σ3 0 7)) - (σ3 8 (Int32.toNatClampNeg x2))) - (σ3 8 (Int32.toNatClampNeg x3)))), (4, .int (((2 * (σ3 0 7)) - (σ3 8 (Int32.toNatClampNeg x2))) - (σ3 8 (Int32.toNatClampNeg x3)))), (0, .ref (L (0))), (2, .int (x2)), (3, .int (x3))]) hx hb dX5_least_77 rfl hl (by decide) rfl (fun ls hl => ?_)
        refine lv_iinc (v := x3 + 1) (lv' := [(3, .int (x3 + 1)), (1, .int (((2 * (σ3 0 7)) - (σ3 8 (Int32.toNatClampNeg x2))) - (σ3 8 (Int32.toNatClampNeg x3)))), (4, .int (((2 * (σ3 0 7)) - (σ3 8 (Int32.toNatClampNeg x2))) - (σ3 8 (Int32.toNatClampNeg x3)))), (0, .ref (L (0))), (2, .int (x2))]) hx hb dX5_least_78 hl (k := 4) rfl rfl (by decide) rfl (fun ls hl => ?_)
        refine lv_goto (tgt := 14) hx hb dX5_least_81 (by decide) ?_
        exact ih (((2 * (σ3 0 7)) - (σ3 8 (Int32.toNatClampNeg x2))) - (σ3 8 (Int32.toNatClampNeg x3))) (x3 + 1) σ3 _ _ _ hC (lv_sub hl [3, 1, 4, 0] rfl) hw hk84
      · replace hw := hw.2 hc
        refine lv_iload hx hb dX5_least_65 (lv_at hl 0 rfl) ?_
        refine lv_iload_n hx hb dX5_least_67 rfl (lv_at hl 2 rfl) ?_
        refine lv_icmp_ge (tgt := 76) hx hb dX5_least_68 (by decide) (fun hc => ?_) (fun hc => ?_)
        · replace hw := hw.1 hc
          refine lv_iload_n hx hb dX5_least_76 rfl (lv_at hl 2 rfl) ?_
          refine lv_istore_n (lv' := [(1, .int (x1)), (4, .int (((2 * (σ3 0 7)) - (σ3 8 (Int32.toNatClampNeg x2))) - (σ3 8 (Int32.toNatClampNeg x3)))), (0, .ref (L (0))), (2, .int (x2)), (3, .int (x3))]) hx hb dX5_least_77 rfl hl (by decide) rfl (fun ls hl => ?_)
          refine lv_iinc (v := x3 + 1) (lv' := [(3, .int (x3 + 1)), (1, .int (x1)), (4, .int (((2 * (σ3 0 7)) - (σ3 8 (Int32.toNatClampNeg x2))) - (σ3 8 (Int32.toNatClampNeg x3)))), (0, .ref (L (0))), (2, .int (x2))]) hx hb dX5_least_78 hl (k := 4) rfl rfl (by decide) rfl (fun ls hl => ?_)
          refine lv_goto (tgt := 14) hx hb dX5_least_81 (by decide) ?_
          exact ih x1 (x3 + 1) σ3 _ _ _ hC (lv_sub hl [3, 1, 4, 0] rfl) hw hk84
        · replace hw := hw.2 hc
          refine lv_iload hx hb dX5_least_71 (lv_at hl 0 rfl) ?_
          refine lv_goto (tgt := 77) hx hb dX5_least_73 (by decide) ?_
          refine lv_istore_n (lv' := [(1, .int (((2 * (σ3 0 7)) - (σ3 8 (Int32.toNatClampNeg x2))) - (σ3 8 (Int32.toNatClampNeg x3)))), (4, .int (((2 * (σ3 0 7)) - (σ3 8 (Int32.toNatClampNeg x2))) - (σ3 8 (Int32.toNatClampNeg x3)))), (0, .ref (L (0))), (2, .int (x2)), (3, .int (x3))]) hx hb dX5_least_77 rfl hl (by decide) rfl (fun ls hl => ?_)
          refine lv_iinc (v := x3 + 1) (lv' := [(3, .int (x3 + 1)), (1, .int (((2 * (σ3 0 7)) - (σ3 8 (Int32.toNatClampNeg x2))) - (σ3 8 (Int32.toNatClampNeg x3)))), (4, .int (((2 * (σ3 0 7)) - (σ3 8 (Int32.toNatClampNeg x2))) - (σ3 8 (Int32.toNatClampNeg x3)))), (0, .ref (L (0))), (2, .int (x2))]) hx hb dX5_least_78 hl (k := 4) rfl rfl (by decide) rfl (fun ls hl => ?_)
          refine lv_goto (tgt := 14) hx hb dX5_least_81 (by decide) ?_
          exact ih (((2 * (σ3 0 7)) - (σ3 8 (Int32.toNatClampNeg x2))) - (σ3 8 (Int32.toNatClampNeg x3))) (x3 + 1) σ3 _ _ _ hC (lv_sub hl [3, 1, 4, 0] rfl) hw hk84

set_option maxHeartbeats 4000000 in
set_option maxRecDepth 100000 in
theorem tX5_least_4  {post : Int32 → ss_S → Prop} (F : ss_F p R s m args meth c (ss_EM D A L wr cI cZ cS) cX5_least 5 wsX5_least RX5 (some .int) rmX5_least)  (k90 : Int32 → Int32 → ss_S → Prop) : ∀ (n : Nat) (x1 : Int32) (x2 : Int32) (σ : ss_S) (H : Heap) (locs : List Loc) (ls : Array Slot), ss_C (ss_EM D A L wr cI cZ cS) σ s H locs → lv_has ls 5 [(0, .ref (L (0))), (1, .int (x1)), (2, .int (x2))] → lX5_least_4 post k90 n x1 x2 σ →
    (∀ (x1 : Int32) (x2 : Int32) (σ : ss_S) (H : Heap) (locs : List Loc) (ls : Array Slot), ss_C (ss_EM D A L wr cI cZ cS) σ s H locs → lv_has ls 5 [(1, .int (x1))] → k90 x1 x2 σ → W p l e R s m args below meth c H locs 0 0 (MQ below (va_Qi post (ss_B (ss_EM D A L wr cI cZ cS)) A) args s 0 0 A) (F0 m 90 ls [])) →
    W p l e R s m args below meth c H locs 0 0 (MQ below (va_Qi post (ss_B (ss_EM D A L wr cI cZ cS)) A) args s 0 0 A) (F0 m 4 ls []) := by
  have hx := F.1.1
  have hb := F.1.2.1
  have u_X5 : ∀ w ∈ u_ws RX5 TX5 16, w ∈ wsX5_least := by decide +kernel
  have f_55 : (Cond.fieldLink RX5 55 "SmallSpacesModel" "heapMany" "I").before args s = true := F.1.2.2.2.2 _ (by decide +kernel)
  intro n
  induction n with
  | zero => intro x1 x2 σ H locs ls hC hl hw; exact hw.elim
  | succ n ih =>
    intro x1 x2 σ H locs ls hC hl hw hk90
    refine lv_iload_n hx hb dX5_least_4 rfl (lv_at hl 2 rfl) ?_
    refine lv_aload_n hx hb dX5_least_5 rfl (lv_at hl 0 rfl) ?_
    refine ss_get (C := RX5) (T := TX5) (N := 16) (ci := 5) (v := .int (σ 0 13)) F hC (0) u_X5 (Nat.le_of_ble_eq_true rfl) rfl rfl 13 (by decide) f_55 rfl dX5_least_6 ?_
    refine lv_icmp_ge (tgt := 90) hx hb dX5_least_9 (by decide) (fun hc => ?_) (fun hc => ?_)
    · replace hw := hw.1 hc
      exact hk90 x1 x2 σ _ _ _ hC (lv_sub hl [1] rfl) hw
    · replace hw := hw.2 hc
      refine lv_iconst (v := 0) hx hb dX5_least_12 (by decide) ?_
      refine lv_istore_n (lv' := [(3, .int (0)), (0, .ref (L (0))), (1, .int (x1)), (2, .int (x2))]) hx hb dX5_least_13 rfl hl (by decide) rfl (fun ls hl => ?_)
      obtain ⟨n_, hw⟩ := hw
      refine tX5_least_14 F  _ n_ x1 0 σ _ _ _ hC (lv_sub hl [1, 2, 3, 0] rfl) hw ?_
      · intro x1_4 x3_4 σ_4 H locs ls hC hl hw
        refine lv_iinc (v := x2 + 1) (lv' := [(2, .int (x2 + 1)), (0, .ref (L (0))), (1, .int (x1_4))]) hx hb dX5_least_84 hl (k := 2) rfl rfl (by decide) rfl (fun ls hl => ?_)
        refine lv_goto (tgt := 4) hx hb dX5_least_87 (by decide) ?_
        exact ih x1_4 (x2 + 1) σ_4 _ _ _ hC (lv_sub hl [1, 2, 0] rfl) hw hk90

set_option maxHeartbeats 4000000 in
set_option maxRecDepth 100000 in
theorem bX5_least  {post : Int32 → ss_S → Prop} (F : ss_F p R s m args meth c (ss_EM D A L wr cI cZ cS) cX5_least 5 wsX5_least RX5 (some .int) rmX5_least)  : ∀ (σ : ss_S) (H : Heap) (locs : List Loc) (ls : Array Slot), ss_C (ss_EM D A L wr cI cZ cS) σ s H locs → lv_has ls 5 [(0, .ref (L (0)))] → wX5_least  σ post → W p l e R s m args below meth c H locs 0 0 (MQ below (va_Qi post (ss_B (ss_EM D A L wr cI cZ cS)) A) args s 0 0 A) (F0 m 0 ls []) := by
  have hx := F.1.1
  have hb := F.1.2.1
  intro σ H locs ls hC hl hw
  unfold wX5_least at hw
  refine lv_iconst (v := -1) hx hb dX5_least_0 (by decide) ?_
  refine lv_istore_n (lv' := [(1, .int ((-1))), (0, .ref (L (0)))]) hx hb dX5_least_1 rfl hl (by decide) rfl (fun ls hl => ?_)
  refine lv_iconst (v := 0) hx hb dX5_least_2 (by decide) ?_
  refine lv_istore_n (lv' := [(2, .int (0)), (1, .int ((-1))), (0, .ref (L (0)))]) hx hb dX5_least_3 rfl hl (by decide) rfl (fun ls hl => ?_)
  obtain ⟨n_, hw⟩ := hw
  refine tX5_least_4 F  _ n_ ((-1)) 0 σ _ _ _ hC (lv_sub hl [2, 1, 0] rfl) hw ?_
  · intro x1_5 x2_5 σ_5 H locs ls hC hl hw
    refine lv_iload_n hx hb dX5_least_90 rfl (lv_at hl 0 rfl) ?_
    exact ss_iret F hC hw dX5_least_91

theorem mX5_least (l : Launch) (D : va_G) (A : Nat → Prop) (L : Nat → Nat) (wr : va_W) (cI cZ cS : ClassId) (σ : ss_S)   : ss_MI l yX5_least wsX5_least rmX5_least (ss_EM D A L wr cI cZ cS) [.ref (L (0))] σ (fun post => wX5_least  σ post) :=
  ss_MI.of (cc := cX5_least) (nL := 5) (ret := (some .int)) (own := RX5) (by decide) rfl rfl (Nat.le_of_ble_eq_true rfl) (fun post p e R s m below meth c H locs ls F hC hl hw => bX5_least F  σ H locs ls hC hl hw)

set_option maxHeartbeats 4000000 in
set_option maxRecDepth 100000 in
theorem tX5_bare_36 {x1 : Int32} {x2 : Int32} {x4 : Int32} {post : Int32 → ss_S → Prop} (F : ss_F p R s m args meth c (ss_EM D A L wr cI cZ cS) cX5_bare 8 wsX5_bare RX5 (some .int) rmX5_bare)  (k101 : Int32 → Int32 → ss_S → Prop) : ∀ (n : Nat) (x5 : Int32) (x6 : Int32) (σ : ss_S) (H : Heap) (locs : List Loc) (ls : Array Slot), ss_C (ss_EM D A L wr cI cZ cS) σ s H locs → lv_has ls 8 [(0, .ref (L (0))), (1, .int (x1)), (2, .int (x2)), (4, .int (x4)), (5, .int (x5)), (6, .int (x6))] → lX5_bare_36 x1 x2 x4 post k101 n x5 x6 σ →
    (∀ (x5 : Int32) (x6 : Int32) (σ : ss_S) (H : Heap) (locs : List Loc) (ls : Array Slot), ss_C (ss_EM D A L wr cI cZ cS) σ s H locs → lv_has ls 8 [(0, .ref (L (0))), (1, .int (x1)), (2, .int (x2)), (4, .int (x4)), (5, .int (x5))] → k101 x5 x6 σ → W p l e R s m args below meth c H locs 0 0 (MQ below (va_Qi post (ss_B (ss_EM D A L wr cI cZ cS)) A) args s 0 0 A) (F0 m 101 ls [])) →
    W p l e R s m args below meth c H locs 0 0 (MQ below (va_Qi post (ss_B (ss_EM D A L wr cI cZ cS)) A) args s 0 0 A) (F0 m 36 ls []) := by
  have hx := F.1.1
  have hb := F.1.2.1
  have u_X5 : ∀ w ∈ u_ws RX5 TX5 16, w ∈ wsX5_bare := by decide +kernel
  have f_32 : (Cond.fieldLink RX5 32 "SmallSpacesModel" "heapDims" "[I").before args s = true := F.1.2.2.2.2 _ (by decide +kernel)
  have f_35 : (Cond.fieldLink RX5 35 "SmallSpacesModel" "heapRows" "[I").before args s = true := F.1.2.2.2.2 _ (by decide +kernel)
  have f_38 : (Cond.fieldLink RX5 38 "SmallSpacesModel" "q" "I").before args s = true := F.1.2.2.2.2 _ (by decide +kernel)
  intro n
  induction n with
  | zero => intro x5 x6 σ H locs ls hC hl hw; exact hw.elim
  | succ n ih =>
    intro x5 x6 σ H locs ls hC hl hw hk101
    refine lv_iload hx hb dX5_bare_36 (lv_at hl 5 rfl) ?_
    refine lv_aload_n hx hb dX5_bare_38 rfl (lv_at hl 0 rfl) ?_
    refine ss_get (C := RX5) (T := TX5) (N := 16) (ci := 5) (v := .ref (L (8))) F hC (0) u_X5 (Nat.le_of_ble_eq_true rfl) rfl rfl 14 (by decide) f_32 rfl dX5_bare_39 ?_
    refine lv_iload hx hb dX5_bare_42 (lv_at hl 3 rfl) ?_
    refine ss_iald F hC (8) 0 (Nat.le_of_ble_eq_true rfl) (fun _ => rfl) rfl hw.1 dX5_bare_44 ?_
    replace hw := hw.2
    refine lv_icmp_ge (tgt := 101) hx hb dX5_bare_45 (by decide) (fun hc => ?_) (fun hc => ?_)
    · replace hw := hw.1 hc
      exact hk101 x5 x6 σ _ _ _ hC (lv_sub hl [0, 1, 2, 3, 4] rfl) hw
    · replace hw := hw.2 hc
      refine lv_aload_n hx hb dX5_bare_48 rfl (lv_at hl 0 rfl) ?_
      refine ss_get (C := RX5) (T := TX5) (N := 16) (ci := 5) (v := .ref (L (9))) F hC (0) u_X5 (Nat.le_of_ble_eq_true rfl) rfl rfl 15 (by decide) f_35 rfl dX5_bare_49 ?_
      refine lv_bipush (v := 6) hx hb dX5_bare_52 (by decide) ?_
      refine lv_iload hx hb dX5_bare_54 (lv_at hl 3 rfl) ?_
      refine lv_imul hx hb dX5_bare_56 ?_
      refine lv_iload hx hb dX5_bare_57 (lv_at hl 5 rfl) ?_
      refine lv_iadd hx hb dX5_bare_59 ?_
      refine ss_iald F hC (9) 0 (Nat.le_of_ble_eq_true rfl) (fun _ => rfl) rfl hw.1 dX5_bare_60 ?_
      replace hw := hw.2
      refine lv_istore (lv' := [(7, .int (σ 9 (Int32.toNatClampNeg ((6 * x4) + x6)))), (0, .ref (L (0))), (1, .int (x1)), (2, .int (x2)), (4, .int (x4)), (5, .int (x5)), (6, .int (x6))]) hx hb dX5_bare_61 hl (by decide) rfl (fun ls hl => ?_)
      refine lv_aload_n hx hb dX5_bare_63 rfl (lv_at hl 1 rfl) ?_
      refine lv_iload hx hb dX5_bare_64 (lv_at hl 5 rfl) ?_
      refine lv_iload hx hb dX5_bare_66 (lv_at hl 0 rfl) ?_
      refine lv_aload_n hx hb dX5_bare_68 rfl (lv_at hl 1 rfl) ?_
      refine ss_get (C := RX5) (T := TX5) (N := 16) (ci := 5) (v := .int (σ 0 0)) F hC (0) u_X5 (Nat.le_of_ble_eq_true rfl) rfl rfl 0 (by decide) f_38 rfl dX5_bare_69 ?_
      refine lv_aload_n hx hb dX5_bare_72 rfl (lv_at hl 1 rfl) ?_
      refine lv_iload hx hb dX5_bare_73 (lv_at hl 5 rfl) ?_
      refine lv_aload_n hx hb dX5_bare_75 rfl (lv_at hl 1 rfl) ?_
      refine lv_iload hx hb dX5_bare_76 (lv_at hl 0 rfl) ?_
      refine ss_ki (ss_rV (C := RX5) (As := [.int (σ 9 (Int32.toNatClampNeg ((6 * x4) + x6)))]) (rest := [.int (x5), .ref (L (0)), .int (σ 0 0), .int (σ 9 (Int32.toNatClampNeg ((6 * x4) + x6))), .int (x5), .ref (L (0))]) F ((mX5_pivot l D A L wr cI cZ cS σ (σ 9 (Int32.toNatClampNeg ((6 * x4) + x6)))) _) gX5_bare_X5_pivot rfl ⟨rfl, rfl⟩ ⟨rfl, dvX5_pivot⟩ ⟨Nat.le_of_ble_eq_true rfl, Nat.le_of_ble_eq_true rfl⟩ (ss_preV F.2.2.2.2.1 F.2.2.2.2.2 hC (ss_rec (C := RX5) (T := TX5) (N := 16) (ci := 5) F.2.2.2.2.1 hC (0) (Nat.le_of_ble_eq_true rfl) rfl rfl) hw) rfl hl.1 rfl (Nat.le_of_ble_eq_true rfl) dX5_bare_78 ⟨Nat.zero_le _, Nat.zero_le _⟩) hC (fun r2 σ1 H locs hC hw => ?_)
      refine ss_ki (ss_rV (C := RX5) (As := [.int (x5), .int (r2)]) (rest := [.int (σ 0 0), .int (σ 9 (Int32.toNatClampNeg ((6 * x4) + x6))), .int (x5), .ref (L (0))]) F ((mX5_figure l D A L wr cI cZ cS σ1 x5 r2) _) gX5_bare_X5_figure rfl ⟨rfl, rfl⟩ ⟨rfl, dvX5_figure⟩ ⟨Nat.le_of_ble_eq_true rfl, Nat.le_of_ble_eq_true rfl⟩ (ss_preV F.2.2.2.2.1 F.2.2.2.2.2 hC (ss_rec (C := RX5) (T := TX5) (N := 16) (ci := 5) F.2.2.2.2.1 hC (0) (Nat.le_of_ble_eq_true rfl) rfl rfl) hw) rfl hl.1 rfl (Nat.le_of_ble_eq_true rfl) dX5_bare_81 ⟨Nat.zero_le _, Nat.zero_le _⟩) hC (fun r4 σ3 H locs hC hw => ?_)
      refine lv_isub hx hb dX5_bare_84 ?_
      refine lv_aload_n hx hb dX5_bare_85 rfl (lv_at hl 1 rfl) ?_
      refine ss_get (C := RX5) (T := TX5) (N := 16) (ci := 5) (v := .int (σ3 0 0)) F hC (0) u_X5 (Nat.le_of_ble_eq_true rfl) rfl rfl 0 (by decide) f_38 rfl dX5_bare_86 ?_
      refine lv_irem hx hb dX5_bare_89 hw.1 ?_
      replace hw := hw.2
      refine ss_ki (ss_rV (C := RX5) (As := [.int (x5), .int (σ 9 (Int32.toNatClampNeg ((6 * x4) + x6))), .int (((σ 0 0) - r4) - ((σ 0 0) - r4) / (σ3 0 0) * (σ3 0 0))]) (rest := []) F ((mX5_sum l D A L wr cI cZ cS σ3 x5 (σ 9 (Int32.toNatClampNeg ((6 * x4) + x6))) (((σ 0 0) - r4) - ((σ 0 0) - r4) / (σ3 0 0) * (σ3 0 0))) _) gX5_bare_X5_sum rfl ⟨rfl, rfl⟩ ⟨rfl, dvX5_sum⟩ ⟨Nat.le_of_ble_eq_true rfl, Nat.le_of_ble_eq_true rfl⟩ (ss_preV F.2.2.2.2.1 F.2.2.2.2.2 hC (ss_rec (C := RX5) (T := TX5) (N := 16) (ci := 5) F.2.2.2.2.1 hC (0) (Nat.le_of_ble_eq_true rfl) rfl rfl) hw) rfl hl.1 rfl (Nat.le_of_ble_eq_true rfl) dX5_bare_90 ⟨Nat.zero_le _, Nat.zero_le _⟩) hC (fun r6 σ5 H locs hC hw => ?_)
      refine lv_istore (lv' := [(5, .int (r6)), (7, .int (σ 9 (Int32.toNatClampNeg ((6 * x4) + x6)))), (0, .ref (L (0))), (1, .int (x1)), (2, .int (x2)), (4, .int (x4)), (6, .int (x6))]) hx hb dX5_bare_93 hl (by decide) rfl (fun ls hl => ?_)
      refine lv_iinc (v := x6 + 1) (lv' := [(6, .int (x6 + 1)), (5, .int (r6)), (7, .int (σ 9 (Int32.toNatClampNeg ((6 * x4) + x6)))), (0, .ref (L (0))), (1, .int (x1)), (2, .int (x2)), (4, .int (x4))]) hx hb dX5_bare_95 hl (k := 6) rfl rfl (by decide) rfl (fun ls hl => ?_)
      refine lv_goto (tgt := 36) hx hb dX5_bare_98 (by decide) ?_
      exact ih r6 (x6 + 1) σ5 _ _ _ hC (lv_sub hl [3, 4, 5, 6, 1, 0] rfl) hw hk101

set_option maxHeartbeats 4000000 in
set_option maxRecDepth 100000 in
theorem tX5_bare_17 {x1 : Int32} {x2 : Int32} {post : Int32 → ss_S → Prop} (F : ss_F p R s m args meth c (ss_EM D A L wr cI cZ cS) cX5_bare 8 wsX5_bare RX5 (some .int) rmX5_bare)  (k118 : Int32 → Int32 → ss_S → Prop) : ∀ (n : Nat) (x3 : Int32) (x4 : Int32) (σ : ss_S) (H : Heap) (locs : List Loc) (ls : Array Slot), ss_C (ss_EM D A L wr cI cZ cS) σ s H locs → lv_has ls 8 [(0, .ref (L (0))), (1, .int (x1)), (2, .int (x2)), (3, .int (x3)), (4, .int (x4))] → lX5_bare_17 x1 x2 post k118 n x3 x4 σ →
    (∀ (x3 : Int32) (x4 : Int32) (σ : ss_S) (H : Heap) (locs : List Loc) (ls : Array Slot), ss_C (ss_EM D A L wr cI cZ cS) σ s H locs → lv_has ls 8 [(0, .ref (L (0))), (1, .int (x1)), (2, .int (x2)), (3, .int (x3))] → k118 x3 x4 σ → W p l e R s m args below meth c H locs 0 0 (MQ below (va_Qi post (ss_B (ss_EM D A L wr cI cZ cS)) A) args s 0 0 A) (F0 m 118 ls [])) →
    W p l e R s m args below meth c H locs 0 0 (MQ below (va_Qi post (ss_B (ss_EM D A L wr cI cZ cS)) A) args s 0 0 A) (F0 m 17 ls []) := by
  have hx := F.1.1
  have hb := F.1.2.1
  have u_X5 : ∀ w ∈ u_ws RX5 TX5 16, w ∈ wsX5_bare := by decide +kernel
  have f_55 : (Cond.fieldLink RX5 55 "SmallSpacesModel" "heapMany" "I").before args s = true := F.1.2.2.2.2 _ (by decide +kernel)
  intro n
  induction n with
  | zero => intro x3 x4 σ H locs ls hC hl hw; exact hw.elim
  | succ n ih =>
    intro x3 x4 σ H locs ls hC hl hw hk118
    refine lv_iload hx hb dX5_bare_17 (lv_at hl 4 rfl) ?_
    refine lv_aload_n hx hb dX5_bare_19 rfl (lv_at hl 0 rfl) ?_
    refine ss_get (C := RX5) (T := TX5) (N := 16) (ci := 5) (v := .int (σ 0 13)) F hC (0) u_X5 (Nat.le_of_ble_eq_true rfl) rfl rfl 13 (by decide) f_55 rfl dX5_bare_20 ?_
    refine lv_icmp_ge (tgt := 118) hx hb dX5_bare_23 (by decide) (fun hc => ?_) (fun hc => ?_)
    · replace hw := hw.1 hc
      exact hk118 x3 x4 σ _ _ _ hC (lv_sub hl [0, 1, 2, 3] rfl) hw
    · replace hw := hw.2 hc
      refine lv_iload_n hx hb dX5_bare_26 rfl (lv_at hl 3 rfl) ?_
      refine lv_if_eq (tgt := 118) hx hb dX5_bare_27 (by decide) (fun hc => ?_) (fun hc => ?_)
      · replace hw := hw.1 hc
        exact hk118 x3 x4 σ _ _ _ hC (lv_sub hl [0, 1, 2, 3] rfl) hw
      · replace hw := hw.2 hc
        refine lv_iload_n hx hb dX5_bare_30 rfl (lv_at hl 2 rfl) ?_
        refine lv_istore (lv' := [(5, .int (x2)), (0, .ref (L (0))), (1, .int (x1)), (2, .int (x2)), (3, .int (x3)), (4, .int (x4))]) hx hb dX5_bare_31 hl (by decide) rfl (fun ls hl => ?_)
        refine lv_iconst (v := 0) hx hb dX5_bare_33 (by decide) ?_
        refine lv_istore (lv' := [(6, .int (0)), (5, .int (x2)), (0, .ref (L (0))), (1, .int (x1)), (2, .int (x2)), (3, .int (x3)), (4, .int (x4))]) hx hb dX5_bare_34 hl (by decide) rfl (fun ls hl => ?_)
        obtain ⟨n_, hw⟩ := hw
        refine tX5_bare_36 F  _ n_ x2 0 σ _ _ _ hC (lv_sub hl [2, 3, 4, 6, 1, 0] rfl) hw ?_
        · intro x5_7 x6_7 σ_7 H locs ls hC hl hw
          refine lv_iload hx hb dX5_bare_101 (lv_at hl 4 rfl) ?_
          refine lv_if_eq (tgt := 110) hx hb dX5_bare_103 (by decide) (fun hc => ?_) (fun hc => ?_)
          · replace hw := hw.1 hc
            refine lv_iconst (v := 0) hx hb dX5_bare_110 (by decide) ?_
            refine lv_istore_n (lv' := [(3, .int (0)), (0, .ref (L (0))), (1, .int (x1)), (2, .int (x2)), (4, .int (x4)), (5, .int (x5_7))]) hx hb dX5_bare_111 rfl hl (by decide) rfl (fun ls hl => ?_)
            refine lv_iinc (v := x4 + 1) (lv' := [(4, .int (x4 + 1)), (3, .int (0)), (0, .ref (L (0))), (1, .int (x1)), (2, .int (x2)), (5, .int (x5_7))]) hx hb dX5_bare_112 hl (k := 4) rfl rfl (by decide) rfl (fun ls hl => ?_)
            refine lv_goto (tgt := 17) hx hb dX5_bare_115 (by decide) ?_
            exact ih 0 (x4 + 1) σ_7 _ _ _ hC (lv_sub hl [2, 3, 4, 1, 0] rfl) hw hk118
          · replace hw := hw.2 hc
            refine lv_iconst (v := 1) hx hb dX5_bare_106 (by decide) ?_
            refine lv_goto (tgt := 111) hx hb dX5_bare_107 (by decide) ?_
            refine lv_istore_n (lv' := [(3, .int (1)), (0, .ref (L (0))), (1, .int (x1)), (2, .int (x2)), (4, .int (x4)), (5, .int (x5_7))]) hx hb dX5_bare_111 rfl hl (by decide) rfl (fun ls hl => ?_)
            refine lv_iinc (v := x4 + 1) (lv' := [(4, .int (x4 + 1)), (3, .int (1)), (0, .ref (L (0))), (1, .int (x1)), (2, .int (x2)), (5, .int (x5_7))]) hx hb dX5_bare_112 hl (k := 4) rfl rfl (by decide) rfl (fun ls hl => ?_)
            refine lv_goto (tgt := 17) hx hb dX5_bare_115 (by decide) ?_
            exact ih 1 (x4 + 1) σ_7 _ _ _ hC (lv_sub hl [2, 3, 4, 1, 0] rfl) hw hk118

set_option maxHeartbeats 4000000 in
set_option maxRecDepth 100000 in
theorem tX5_bare_4  {post : Int32 → ss_S → Prop} (F : ss_F p R s m args meth c (ss_EM D A L wr cI cZ cS) cX5_bare 8 wsX5_bare RX5 (some .int) rmX5_bare)  (k136 : Int32 → Int32 → ss_S → Prop) : ∀ (n : Nat) (x1 : Int32) (x2 : Int32) (σ : ss_S) (H : Heap) (locs : List Loc) (ls : Array Slot), ss_C (ss_EM D A L wr cI cZ cS) σ s H locs → lv_has ls 8 [(0, .ref (L (0))), (1, .int (x1)), (2, .int (x2))] → lX5_bare_4 post k136 n x1 x2 σ →
    (∀ (x1 : Int32) (x2 : Int32) (σ : ss_S) (H : Heap) (locs : List Loc) (ls : Array Slot), ss_C (ss_EM D A L wr cI cZ cS) σ s H locs → lv_has ls 8 [(1, .int (x1))] → k136 x1 x2 σ → W p l e R s m args below meth c H locs 0 0 (MQ below (va_Qi post (ss_B (ss_EM D A L wr cI cZ cS)) A) args s 0 0 A) (F0 m 136 ls [])) →
    W p l e R s m args below meth c H locs 0 0 (MQ below (va_Qi post (ss_B (ss_EM D A L wr cI cZ cS)) A) args s 0 0 A) (F0 m 4 ls []) := by
  have hx := F.1.1
  have hb := F.1.2.1
  have u_X5 : ∀ w ∈ u_ws RX5 TX5 16, w ∈ wsX5_bare := by decide +kernel
  have f_52 : (Cond.fieldLink RX5 52 "SmallSpacesModel" "vectors" "I").before args s = true := F.1.2.2.2.2 _ (by decide +kernel)
  intro n
  induction n with
  | zero => intro x1 x2 σ H locs ls hC hl hw; exact hw.elim
  | succ n ih =>
    intro x1 x2 σ H locs ls hC hl hw hk136
    refine lv_iload_n hx hb dX5_bare_4 rfl (lv_at hl 2 rfl) ?_
    refine lv_aload_n hx hb dX5_bare_5 rfl (lv_at hl 0 rfl) ?_
    refine ss_get (C := RX5) (T := TX5) (N := 16) (ci := 5) (v := .int (σ 0 2)) F hC (0) u_X5 (Nat.le_of_ble_eq_true rfl) rfl rfl 2 (by decide) f_52 rfl dX5_bare_6 ?_
    refine lv_icmp_ge (tgt := 136) hx hb dX5_bare_9 (by decide) (fun hc => ?_) (fun hc => ?_)
    · replace hw := hw.1 hc
      exact hk136 x1 x2 σ _ _ _ hC (lv_sub hl [1] rfl) hw
    · replace hw := hw.2 hc
      refine lv_iconst (v := 1) hx hb dX5_bare_12 (by decide) ?_
      refine lv_istore_n (lv' := [(3, .int (1)), (0, .ref (L (0))), (1, .int (x1)), (2, .int (x2))]) hx hb dX5_bare_13 rfl hl (by decide) rfl (fun ls hl => ?_)
      refine lv_iconst (v := 0) hx hb dX5_bare_14 (by decide) ?_
      refine lv_istore (lv' := [(4, .int (0)), (3, .int (1)), (0, .ref (L (0))), (1, .int (x1)), (2, .int (x2))]) hx hb dX5_bare_15 hl (by decide) rfl (fun ls hl => ?_)
      obtain ⟨n_, hw⟩ := hw
      refine tX5_bare_17 F  _ n_ 1 0 σ _ _ _ hC (lv_sub hl [2, 3, 4, 1, 0] rfl) hw ?_
      · intro x3_8 x4_8 σ_8 H locs ls hC hl hw
        refine lv_iload_n hx hb dX5_bare_118 rfl (lv_at hl 1 rfl) ?_
        refine lv_iload_n hx hb dX5_bare_119 rfl (lv_at hl 3 rfl) ?_
        refine lv_if_eq (tgt := 127) hx hb dX5_bare_120 (by decide) (fun hc => ?_) (fun hc => ?_)
        · replace hw := hw.1 hc
          refine lv_iconst (v := 0) hx hb dX5_bare_127 (by decide) ?_
          refine lv_iadd hx hb dX5_bare_128 ?_
          refine lv_istore_n (lv' := [(1, .int (x1 + 0)), (0, .ref (L (0))), (2, .int (x2)), (3, .int (x3_8))]) hx hb dX5_bare_129 rfl hl (by decide) rfl (fun ls hl => ?_)
          refine lv_iinc (v := x2 + 1) (lv' := [(2, .int (x2 + 1)), (1, .int (x1 + 0)), (0, .ref (L (0))), (3, .int (x3_8))]) hx hb dX5_bare_130 hl (k := 2) rfl rfl (by decide) rfl (fun ls hl => ?_)
          refine lv_goto (tgt := 4) hx hb dX5_bare_133 (by decide) ?_
          exact ih (x1 + 0) (x2 + 1) σ_8 _ _ _ hC (lv_sub hl [2, 1, 0] rfl) hw hk136
        · replace hw := hw.2 hc
          refine lv_iconst (v := 1) hx hb dX5_bare_123 (by decide) ?_
          refine lv_goto (tgt := 128) hx hb dX5_bare_124 (by decide) ?_
          refine lv_iadd hx hb dX5_bare_128 ?_
          refine lv_istore_n (lv' := [(1, .int (x1 + 1)), (0, .ref (L (0))), (2, .int (x2)), (3, .int (x3_8))]) hx hb dX5_bare_129 rfl hl (by decide) rfl (fun ls hl => ?_)
          refine lv_iinc (v := x2 + 1) (lv' := [(2, .int (x2 + 1)), (1, .int (x1 + 1)), (0, .ref (L (0))), (3, .int (x3_8))]) hx hb dX5_bare_130 hl (k := 2) rfl rfl (by decide) rfl (fun ls hl => ?_)
          refine lv_goto (tgt := 4) hx hb dX5_bare_133 (by decide) ?_
          exact ih (x1 + 1) (x2 + 1) σ_8 _ _ _ hC (lv_sub hl [2, 1, 0] rfl) hw hk136

set_option maxHeartbeats 4000000 in
set_option maxRecDepth 100000 in
theorem bX5_bare  {post : Int32 → ss_S → Prop} (F : ss_F p R s m args meth c (ss_EM D A L wr cI cZ cS) cX5_bare 8 wsX5_bare RX5 (some .int) rmX5_bare)  : ∀ (σ : ss_S) (H : Heap) (locs : List Loc) (ls : Array Slot), ss_C (ss_EM D A L wr cI cZ cS) σ s H locs → lv_has ls 8 [(0, .ref (L (0)))] → wX5_bare  σ post → W p l e R s m args below meth c H locs 0 0 (MQ below (va_Qi post (ss_B (ss_EM D A L wr cI cZ cS)) A) args s 0 0 A) (F0 m 0 ls []) := by
  have hx := F.1.1
  have hb := F.1.2.1
  intro σ H locs ls hC hl hw
  unfold wX5_bare at hw
  refine lv_iconst (v := 0) hx hb dX5_bare_0 (by decide) ?_
  refine lv_istore_n (lv' := [(1, .int (0)), (0, .ref (L (0)))]) hx hb dX5_bare_1 rfl hl (by decide) rfl (fun ls hl => ?_)
  refine lv_iconst (v := 0) hx hb dX5_bare_2 (by decide) ?_
  refine lv_istore_n (lv' := [(2, .int (0)), (1, .int (0)), (0, .ref (L (0)))]) hx hb dX5_bare_3 rfl hl (by decide) rfl (fun ls hl => ?_)
  obtain ⟨n_, hw⟩ := hw
  refine tX5_bare_4 F  _ n_ 0 0 σ _ _ _ hC (lv_sub hl [2, 1, 0] rfl) hw ?_
  · intro x1_9 x2_9 σ_9 H locs ls hC hl hw
    refine lv_iload_n hx hb dX5_bare_136 rfl (lv_at hl 0 rfl) ?_
    exact ss_iret F hC hw dX5_bare_137

theorem mX5_bare (l : Launch) (D : va_G) (A : Nat → Prop) (L : Nat → Nat) (wr : va_W) (cI cZ cS : ClassId) (σ : ss_S)   : ss_MI l yX5_bare wsX5_bare rmX5_bare (ss_EM D A L wr cI cZ cS) [.ref (L (0))] σ (fun post => wX5_bare  σ post) :=
  ss_MI.of (cc := cX5_bare) (nL := 8) (ret := (some .int)) (own := RX5) (by decide) rfl rfl (Nat.le_of_ble_eq_true rfl) (fun post p e R s m below meth c H locs ls F hC hl hw => bX5_bare F  σ H locs ls hC hl hw)

set_option maxHeartbeats 4000000 in
set_option maxRecDepth 100000 in
theorem tX5_greedy_90 {x1 : Int32} {x2 : Int32} {x3 : Int32} {x4 : Int32} {post : Int32 → ss_S → Prop} (F : ss_F p R s m args meth c (ss_EM D A L wr cI cZ cS) cX5_greedy 7 wsX5_greedy RX5 (some .int) rmX5_greedy)  (k148 : Int32 → Int32 → ss_S → Prop) : ∀ (n : Nat) (x5 : Int32) (x6 : Int32) (σ : ss_S) (H : Heap) (locs : List Loc) (ls : Array Slot), ss_C (ss_EM D A L wr cI cZ cS) σ s H locs → lv_has ls 7 [(0, .ref (L (0))), (1, .int (x1)), (2, .int (x2)), (3, .int (x3)), (4, .int (x4)), (5, .int (x5)), (6, .int (x6))] → lX5_greedy_90 x1 x2 x3 x4 post k148 n x5 x6 σ →
    (∀ (x5 : Int32) (x6 : Int32) (σ : ss_S) (H : Heap) (locs : List Loc) (ls : Array Slot), ss_C (ss_EM D A L wr cI cZ cS) σ s H locs → lv_has ls 7 [(0, .ref (L (0))), (1, .int (x1)), (2, .int (x2)), (3, .int (x3)), (4, .int (x4)), (5, .int (x5))] → k148 x5 x6 σ → W p l e R s m args below meth c H locs 0 0 (MQ below (va_Qi post (ss_B (ss_EM D A L wr cI cZ cS)) A) args s 0 0 A) (F0 m 148 ls [])) →
    W p l e R s m args below meth c H locs 0 0 (MQ below (va_Qi post (ss_B (ss_EM D A L wr cI cZ cS)) A) args s 0 0 A) (F0 m 90 ls []) := by
  have hx := F.1.1
  have hb := F.1.2.1
  have u_X5 : ∀ w ∈ u_ws RX5 TX5 16, w ∈ wsX5_greedy := by decide +kernel
  have f_55 : (Cond.fieldLink RX5 55 "SmallSpacesModel" "heapMany" "I").before args s = true := F.1.2.2.2.2 _ (by decide +kernel)
  have f_76 : (Cond.fieldLink RX5 76 "SmallSpacesModel" "worked" "I").before args s = true := F.1.2.2.2.2 _ (by decide +kernel)
  intro n
  induction n with
  | zero => intro x5 x6 σ H locs ls hC hl hw; exact hw.elim
  | succ n ih =>
    intro x5 x6 σ H locs ls hC hl hw hk148
    refine lv_iload hx hb dX5_greedy_90 (lv_at hl 6 rfl) ?_
    refine lv_aload_n hx hb dX5_greedy_92 rfl (lv_at hl 0 rfl) ?_
    refine ss_get (C := RX5) (T := TX5) (N := 16) (ci := 5) (v := .int (σ 0 13)) F hC (0) u_X5 (Nat.le_of_ble_eq_true rfl) rfl rfl 13 (by decide) f_55 rfl dX5_greedy_93 ?_
    refine lv_icmp_ge (tgt := 148) hx hb dX5_greedy_96 (by decide) (fun hc => ?_) (fun hc => ?_)
    · replace hw := hw.1 hc
      exact hk148 x5 x6 σ _ _ _ hC (lv_sub hl [0, 1, 2, 3, 4, 5] rfl) hw
    · replace hw := hw.2 hc
      refine lv_iload hx hb dX5_greedy_99 (lv_at hl 5 rfl) ?_
      refine lv_if_eq (tgt := 148) hx hb dX5_greedy_101 (by decide) (fun hc => ?_) (fun hc => ?_)
      · replace hw := hw.1 hc
        exact hk148 x5 x6 σ _ _ _ hC (lv_sub hl [0, 1, 2, 3, 4, 5] rfl) hw
      · replace hw := hw.2 hc
        refine lv_aload_n hx hb dX5_greedy_104 rfl (lv_at hl 0 rfl) ?_
        refine lv_iload_n hx hb dX5_greedy_105 rfl (lv_at hl 1 rfl) ?_
        refine lv_iload hx hb dX5_greedy_106 (lv_at hl 4 rfl) ?_
        refine ss_kv (ss_rV (C := RX5) (As := [.int (x1), .int (x4)]) (rest := []) F ((mX5_lay l D A L wr cI cZ cS σ x1 x4) _) gX5_greedy_X5_lay rfl ⟨rfl, rfl⟩ ⟨rfl, dvX5_lay⟩ ⟨Nat.le_of_ble_eq_true rfl, Nat.le_of_ble_eq_true rfl⟩ (ss_preV F.2.2.2.2.1 F.2.2.2.2.2 hC (ss_rec (C := RX5) (T := TX5) (N := 16) (ci := 5) F.2.2.2.2.1 hC (0) (Nat.le_of_ble_eq_true rfl) rfl rfl) hw) rfl hl.1 rfl (Nat.le_of_ble_eq_true rfl) dX5_greedy_108 ⟨Nat.zero_le _, Nat.zero_le _⟩) hC (fun σ7 H locs hC hw => ?_)
        refine lv_aload_n hx hb dX5_greedy_111 rfl (lv_at hl 0 rfl) ?_
        refine lv_iload hx hb dX5_greedy_112 (lv_at hl 6 rfl) ?_
        refine ss_kv (ss_rV (C := RX5) (As := [.int (x6)]) (rest := []) F ((mX5_loadHeap l D A L wr cI cZ cS σ7 x6) _) gX5_greedy_X5_loadHeap rfl ⟨rfl, rfl⟩ ⟨rfl, dvX5_loadHeap⟩ ⟨Nat.le_of_ble_eq_true rfl, Nat.le_of_ble_eq_true rfl⟩ (ss_preV F.2.2.2.2.1 F.2.2.2.2.2 hC (ss_rec (C := RX5) (T := TX5) (N := 16) (ci := 5) F.2.2.2.2.1 hC (0) (Nat.le_of_ble_eq_true rfl) rfl rfl) hw) rfl hl.1 rfl (Nat.le_of_ble_eq_true rfl) dX5_greedy_114 ⟨Nat.zero_le _, Nat.zero_le _⟩) hC (fun σ8 H locs hC hw => ?_)
        refine lv_aload_n hx hb dX5_greedy_117 rfl (lv_at hl 0 rfl) ?_
        refine ss_kv (ss_rV (C := RX5) (As := []) (rest := []) F ((mX5_settle l D A L wr cI cZ cS σ8 ) _) gX5_greedy_X5_settle rfl ⟨rfl, rfl⟩ ⟨rfl, dvX5_settle⟩ ⟨Nat.le_of_ble_eq_true rfl, Nat.le_of_ble_eq_true rfl⟩ (ss_preV F.2.2.2.2.1 F.2.2.2.2.2 hC (ss_rec (C := RX5) (T := TX5) (N := 16) (ci := 5) F.2.2.2.2.1 hC (0) (Nat.le_of_ble_eq_true rfl) rfl rfl) hw) rfl hl.1 rfl (Nat.le_of_ble_eq_true rfl) dX5_greedy_118 ⟨Nat.zero_le _, Nat.zero_le _⟩) hC (fun σ9 H locs hC hw => ?_)
        refine lv_iconst (v := 2) hx hb dX5_greedy_121 (by decide) ?_
        refine lv_aload_n hx hb dX5_greedy_122 rfl (lv_at hl 0 rfl) ?_
        refine ss_get (C := RX5) (T := TX5) (N := 16) (ci := 5) (v := .int (σ9 0 7)) F hC (0) u_X5 (Nat.le_of_ble_eq_true rfl) rfl rfl 7 (by decide) f_76 rfl dX5_greedy_123 ?_
        refine lv_imul hx hb dX5_greedy_126 ?_
        refine lv_iconst (v := 2) hx hb dX5_greedy_127 (by decide) ?_
        refine lv_iload_n hx hb dX5_greedy_128 rfl (lv_at hl 1 rfl) ?_
        refine lv_imul hx hb dX5_greedy_129 ?_
        refine lv_isub hx hb dX5_greedy_130 ?_
        refine lv_iload_n hx hb dX5_greedy_131 rfl (lv_at hl 2 rfl) ?_
        refine lv_icmp_lt (tgt := 139) hx hb dX5_greedy_132 (by decide) (fun hc => ?_) (fun hc => ?_)
        · replace hw := hw.1 hc
          refine lv_iconst (v := 0) hx hb dX5_greedy_139 (by decide) ?_
          refine lv_istore (lv' := [(5, .int (0)), (0, .ref (L (0))), (1, .int (x1)), (2, .int (x2)), (3, .int (x3)), (4, .int (x4)), (6, .int (x6))]) hx hb dX5_greedy_140 hl (by decide) rfl (fun ls hl => ?_)
          refine lv_iinc (v := x6 + 1) (lv' := [(6, .int (x6 + 1)), (5, .int (0)), (0, .ref (L (0))), (1, .int (x1)), (2, .int (x2)), (3, .int (x3)), (4, .int (x4))]) hx hb dX5_greedy_142 hl (k := 6) rfl rfl (by decide) rfl (fun ls hl => ?_)
          refine lv_goto (tgt := 90) hx hb dX5_greedy_145 (by decide) ?_
          exact ih 0 (x6 + 1) σ9 _ _ _ hC (lv_sub hl [2, 3, 4, 5, 6, 1, 0] rfl) hw hk148
        · replace hw := hw.2 hc
          refine lv_iconst (v := 1) hx hb dX5_greedy_135 (by decide) ?_
          refine lv_goto (tgt := 140) hx hb dX5_greedy_136 (by decide) ?_
          refine lv_istore (lv' := [(5, .int (1)), (0, .ref (L (0))), (1, .int (x1)), (2, .int (x2)), (3, .int (x3)), (4, .int (x4)), (6, .int (x6))]) hx hb dX5_greedy_140 hl (by decide) rfl (fun ls hl => ?_)
          refine lv_iinc (v := x6 + 1) (lv' := [(6, .int (x6 + 1)), (5, .int (1)), (0, .ref (L (0))), (1, .int (x1)), (2, .int (x2)), (3, .int (x3)), (4, .int (x4))]) hx hb dX5_greedy_142 hl (k := 6) rfl rfl (by decide) rfl (fun ls hl => ?_)
          refine lv_goto (tgt := 90) hx hb dX5_greedy_145 (by decide) ?_
          exact ih 1 (x6 + 1) σ9 _ _ _ hC (lv_sub hl [2, 3, 4, 5, 6, 1, 0] rfl) hw hk148

set_option maxHeartbeats 4000000 in
set_option maxRecDepth 100000 in
theorem tX5_greedy_69 {x1 : Int32} {x2 : Int32} {x3 : Int32} {post : Int32 → ss_S → Prop} (F : ss_F p R s m args meth c (ss_EM D A L wr cI cZ cS) cX5_greedy 7 wsX5_greedy RX5 (some .int) rmX5_greedy)  (k170 : Int32 → ss_S → Prop) : ∀ (n : Nat) (x4 : Int32) (σ : ss_S) (H : Heap) (locs : List Loc) (ls : Array Slot), ss_C (ss_EM D A L wr cI cZ cS) σ s H locs → lv_has ls 7 [(0, .ref (L (0))), (1, .int (x1)), (2, .int (x2)), (3, .int (x3)), (4, .int (x4))] → lX5_greedy_69 x1 x2 x3 post k170 n x4 σ →
    (∀ (x4 : Int32) (σ : ss_S) (H : Heap) (locs : List Loc) (ls : Array Slot), ss_C (ss_EM D A L wr cI cZ cS) σ s H locs → lv_has ls 7 [(0, .ref (L (0)))] → k170 x4 σ → W p l e R s m args below meth c H locs 0 0 (MQ below (va_Qi post (ss_B (ss_EM D A L wr cI cZ cS)) A) args s 0 0 A) (F0 m 170 ls [])) →
    W p l e R s m args below meth c H locs 0 0 (MQ below (va_Qi post (ss_B (ss_EM D A L wr cI cZ cS)) A) args s 0 0 A) (F0 m 69 ls []) := by
  have hx := F.1.1
  have hb := F.1.2.1
  have u_X5 : ∀ w ∈ u_ws RX5 TX5 16, w ∈ wsX5_greedy := by decide +kernel
  have f_55 : (Cond.fieldLink RX5 55 "SmallSpacesModel" "heapMany" "I").before args s = true := F.1.2.2.2.2 _ (by decide +kernel)
  intro n
  induction n with
  | zero => intro x4 σ H locs ls hC hl hw; exact hw.elim
  | succ n ih =>
    intro x4 σ H locs ls hC hl hw hk170
    refine lv_iload hx hb dX5_greedy_69 (lv_at hl 4 rfl) ?_
    refine lv_iload_n hx hb dX5_greedy_71 rfl (lv_at hl 3 rfl) ?_
    refine lv_icmp_ge (tgt := 170) hx hb dX5_greedy_72 (by decide) (fun hc => ?_) (fun hc => ?_)
    · replace hw := hw.1 hc
      exact hk170 x4 σ _ _ _ hC (lv_sub hl [0] rfl) hw
    · replace hw := hw.2 hc
      refine lv_aload_n hx hb dX5_greedy_75 rfl (lv_at hl 0 rfl) ?_
      refine ss_get (C := RX5) (T := TX5) (N := 16) (ci := 5) (v := .int (σ 0 13)) F hC (0) u_X5 (Nat.le_of_ble_eq_true rfl) rfl rfl 13 (by decide) f_55 rfl dX5_greedy_76 ?_
      refine lv_bipush (v := 40) hx hb dX5_greedy_79 (by decide) ?_
      refine lv_icmp_ge (tgt := 170) hx hb dX5_greedy_81 (by decide) (fun hc => ?_) (fun hc => ?_)
      · replace hw := hw.1 hc
        exact hk170 x4 σ _ _ _ hC (lv_sub hl [0] rfl) hw
      · replace hw := hw.2 hc
        refine lv_iconst (v := 1) hx hb dX5_greedy_84 (by decide) ?_
        refine lv_istore (lv' := [(5, .int (1)), (0, .ref (L (0))), (1, .int (x1)), (2, .int (x2)), (3, .int (x3)), (4, .int (x4))]) hx hb dX5_greedy_85 hl (by decide) rfl (fun ls hl => ?_)
        refine lv_iconst (v := 0) hx hb dX5_greedy_87 (by decide) ?_
        refine lv_istore (lv' := [(6, .int (0)), (5, .int (1)), (0, .ref (L (0))), (1, .int (x1)), (2, .int (x2)), (3, .int (x3)), (4, .int (x4))]) hx hb dX5_greedy_88 hl (by decide) rfl (fun ls hl => ?_)
        obtain ⟨n_, hw⟩ := hw
        refine tX5_greedy_90 F  _ n_ 1 0 σ _ _ _ hC (lv_sub hl [2, 3, 4, 5, 6, 1, 0] rfl) hw ?_
        · intro x5_10 x6_10 σ_10 H locs ls hC hl hw
          refine lv_iload hx hb dX5_greedy_148 (lv_at hl 5 rfl) ?_
          refine lv_if_eq (tgt := 164) hx hb dX5_greedy_150 (by decide) (fun hc => ?_) (fun hc => ?_)
          · replace hw := hw.1 hc
            refine lv_iinc (v := x4 + 1) (lv' := [(4, .int (x4 + 1)), (0, .ref (L (0))), (1, .int (x1)), (2, .int (x2)), (3, .int (x3)), (5, .int (x5_10))]) hx hb dX5_greedy_164 hl (k := 4) rfl rfl (by decide) rfl (fun ls hl => ?_)
            refine lv_goto (tgt := 69) hx hb dX5_greedy_167 (by decide) ?_
            exact ih (x4 + 1) σ_10 _ _ _ hC (lv_sub hl [1, 2, 3, 4, 0] rfl) hw hk170
          · replace hw := hw.2 hc
            refine lv_aload_n hx hb dX5_greedy_153 rfl (lv_at hl 0 rfl) ?_
            refine lv_iload_n hx hb dX5_greedy_154 rfl (lv_at hl 1 rfl) ?_
            refine lv_iload hx hb dX5_greedy_155 (lv_at hl 4 rfl) ?_
            refine ss_kv (ss_rV (C := RX5) (As := [.int (x1), .int (x4)]) (rest := []) F ((mX5_lay l D A L wr cI cZ cS σ_10 x1 x4) _) gX5_greedy_X5_lay rfl ⟨rfl, rfl⟩ ⟨rfl, dvX5_lay⟩ ⟨Nat.le_of_ble_eq_true rfl, Nat.le_of_ble_eq_true rfl⟩ (ss_preV F.2.2.2.2.1 F.2.2.2.2.2 hC (ss_rec (C := RX5) (T := TX5) (N := 16) (ci := 5) F.2.2.2.2.1 hC (0) (Nat.le_of_ble_eq_true rfl) rfl rfl) hw) rfl hl.1 rfl (Nat.le_of_ble_eq_true rfl) dX5_greedy_157 ⟨Nat.zero_le _, Nat.zero_le _⟩) hC (fun σ11 H locs hC hw => ?_)
            refine lv_aload_n hx hb dX5_greedy_160 rfl (lv_at hl 0 rfl) ?_
            refine ss_kv (ss_rV (C := RX5) (As := []) (rest := []) F ((mX5_toHeap l D A L wr cI cZ cS σ11 ) _) gX5_greedy_X5_toHeap rfl ⟨rfl, rfl⟩ ⟨rfl, dvX5_toHeap⟩ ⟨Nat.le_of_ble_eq_true rfl, Nat.le_of_ble_eq_true rfl⟩ (ss_preV F.2.2.2.2.1 F.2.2.2.2.2 hC (ss_rec (C := RX5) (T := TX5) (N := 16) (ci := 5) F.2.2.2.2.1 hC (0) (Nat.le_of_ble_eq_true rfl) rfl rfl) hw) rfl hl.1 rfl (Nat.le_of_ble_eq_true rfl) dX5_greedy_161 ⟨Nat.zero_le _, Nat.zero_le _⟩) hC (fun σ12 H locs hC hw => ?_)
            refine lv_iinc (v := x4 + 1) (lv' := [(4, .int (x4 + 1)), (0, .ref (L (0))), (1, .int (x1)), (2, .int (x2)), (3, .int (x3)), (5, .int (x5_10))]) hx hb dX5_greedy_164 hl (k := 4) rfl rfl (by decide) rfl (fun ls hl => ?_)
            refine lv_goto (tgt := 69) hx hb dX5_greedy_167 (by decide) ?_
            exact ih (x4 + 1) σ12 _ _ _ hC (lv_sub hl [1, 2, 3, 4, 0] rfl) hw hk170

set_option maxHeartbeats 4000000 in
set_option maxRecDepth 100000 in
theorem bX5_greedy {x1 : Int32} {x2 : Int32} {post : Int32 → ss_S → Prop} (F : ss_F p R s m args meth c (ss_EM D A L wr cI cZ cS) cX5_greedy 7 wsX5_greedy RX5 (some .int) rmX5_greedy)  : ∀ (σ : ss_S) (H : Heap) (locs : List Loc) (ls : Array Slot), ss_C (ss_EM D A L wr cI cZ cS) σ s H locs → lv_has ls 7 [(0, .ref (L (0))), (1, .int (x1)), (2, .int (x2))] → wX5_greedy x1 x2 σ post → W p l e R s m args below meth c H locs 0 0 (MQ below (va_Qi post (ss_B (ss_EM D A L wr cI cZ cS)) A) args s 0 0 A) (F0 m 0 ls []) := by
  have hx := F.1.1
  have hb := F.1.2.1
  have u_X5 : ∀ w ∈ u_ws RX5 TX5 16, w ∈ wsX5_greedy := by decide +kernel
  have f_42 : (Cond.fieldLink RX5 42 "SmallSpacesModel" "n" "I").before args s = true := F.1.2.2.2.2 _ (by decide +kernel)
  have f_139 : (Cond.fieldLink RX5 139 "SmallSpacesModel" "greedies" "I").before args s = true := F.1.2.2.2.2 _ (by decide +kernel)
  have f_55 : (Cond.fieldLink RX5 55 "SmallSpacesModel" "heapMany" "I").before args s = true := F.1.2.2.2.2 _ (by decide +kernel)
  intro σ H locs ls hC hl hw
  unfold wX5_greedy at hw
  refine lv_iload_n hx hb dX5_greedy_0 rfl (lv_at hl 1 rfl) ?_
  refine lv_i2l hx hb dX5_greedy_1 rfl ?_
  refine lv_lconst (v := 0) hx hb dX5_greedy_2 (by decide) ?_
  refine lv_aload_n hx hb dX5_greedy_3 rfl (lv_at hl 0 rfl) ?_
  refine ss_get (C := RX5) (T := TX5) (N := 16) (ci := 5) (v := .int (σ 0 1)) F hC (0) u_X5 (Nat.le_of_ble_eq_true rfl) rfl rfl 1 (by decide) f_42 rfl dX5_greedy_4 ?_
  refine lv_i2l hx hb dX5_greedy_7 rfl ?_
  refine ss_ki (ss_rS (As := [.long (Int32.toInt64 x1), .long (0), .long (Int32.toInt64 (σ 0 1))]) (rest := []) F ((mX5_in l D A L wr cI cZ cS σ (Int32.toInt64 x1) 0 (Int32.toInt64 (σ 0 1))) _) gX5_greedy_X5_in rfl ⟨rfl, rfl⟩ dvX5_in ⟨Nat.le_of_ble_eq_true rfl, Nat.le_of_ble_eq_true rfl⟩ (ss_preS F.2.2.2.2.1 F.2.2.2.2.2 hC hw) rfl hl.1 rfl (Nat.le_of_ble_eq_true rfl) dX5_greedy_8 ⟨Nat.zero_le _, Nat.zero_le _⟩) hC (fun r2 σ1 H locs hC hw => ?_)
  refine lv_if_eq (tgt := 26) hx hb dX5_greedy_11 (by decide) (fun hc => ?_) (fun hc => ?_)
  · replace hw := hw.1 hc
    refine lv_bipush (v := -102) hx hb dX5_greedy_26 (by decide) ?_
    exact ss_iret F hC hw dX5_greedy_28
  · replace hw := hw.2 hc
    refine lv_iload_n hx hb dX5_greedy_14 rfl (lv_at hl 2 rfl) ?_
    refine lv_i2l hx hb dX5_greedy_15 rfl ?_
    refine lv_lconst (v := 1) hx hb dX5_greedy_16 (by decide) ?_
    refine lv_ldc2 (v := 12) hx hb F.1.2.2.2.1 (F.1.2.2.2.2 (.constantLong RX5 137 (12)) (by decide +kernel)) dX5_greedy_17 ?_
    refine ss_ki (ss_rS (As := [.long (Int32.toInt64 x2), .long (1), .long (12)]) (rest := []) F ((mX5_in l D A L wr cI cZ cS σ1 (Int32.toInt64 x2) 1 12) _) gX5_greedy_X5_in rfl ⟨rfl, rfl⟩ dvX5_in ⟨Nat.le_of_ble_eq_true rfl, Nat.le_of_ble_eq_true rfl⟩ (ss_preS F.2.2.2.2.1 F.2.2.2.2.2 hC hw) rfl hl.1 rfl (Nat.le_of_ble_eq_true rfl) dX5_greedy_20 ⟨Nat.zero_le _, Nat.zero_le _⟩) hC (fun r4 σ3 H locs hC hw => ?_)
    refine lv_if_ne (tgt := 29) hx hb dX5_greedy_23 (by decide) (fun hc => ?_) (fun hc => ?_)
    · replace hw := hw.1 hc
      refine lv_aload_n hx hb dX5_greedy_29 rfl (lv_at hl 0 rfl) ?_
      refine ss_get (C := RX5) (T := TX5) (N := 16) (ci := 5) (v := .int (σ3 0 4)) F hC (0) u_X5 (Nat.le_of_ble_eq_true rfl) rfl rfl 4 (by decide) f_139 rfl dX5_greedy_30 ?_
      refine lv_bipush (v := 10) hx hb dX5_greedy_33 (by decide) ?_
      refine lv_icmp_ne (tgt := 41) hx hb dX5_greedy_35 (by decide) (fun hc => ?_) (fun hc => ?_)
      · replace hw := hw.1 hc
        refine lv_aload_n hx hb dX5_greedy_41 rfl (lv_at hl 0 rfl) ?_
        refine lv_dup hx hb dX5_greedy_42 rfl ?_
        refine ss_get (C := RX5) (T := TX5) (N := 16) (ci := 5) (v := .int (σ3 0 4)) F hC (0) u_X5 (Nat.le_of_ble_eq_true rfl) rfl rfl 4 (by decide) f_139 rfl dX5_greedy_43 ?_
        refine lv_iconst (v := 1) hx hb dX5_greedy_46 (by decide) ?_
        refine lv_iadd hx hb dX5_greedy_47 ?_
        refine ss_put (C := RX5) (T := TX5) (N := 16) (ci := 5) F hC (0) tyX5 tyX5_ok nmX5 u_X5 (Nat.le_of_ble_eq_true rfl) rfl rfl 4 (by decide) f_139 rfl (by decide +kernel) (Nat.le_of_ble_eq_true rfl) rfl dX5_greedy_48 (fun H locs hC => ?_)
        refine lv_aload_n hx hb dX5_greedy_51 rfl (lv_at hl 0 rfl) ?_
        refine lv_iconst (v := 0) hx hb dX5_greedy_52 (by decide) ?_
        refine ss_put (C := RX5) (T := TX5) (N := 16) (ci := 5) F hC (0) tyX5 tyX5_ok nmX5 u_X5 (Nat.le_of_ble_eq_true rfl) rfl rfl 13 (by decide) f_55 rfl (by decide +kernel) (Nat.le_of_ble_eq_true rfl) rfl dX5_greedy_53 (fun H locs hC => ?_)
        refine lv_aload_n hx hb dX5_greedy_56 rfl (lv_at hl 0 rfl) ?_
        refine lv_aload_n hx hb dX5_greedy_57 rfl (lv_at hl 0 rfl) ?_
        refine ss_get (C := RX5) (T := TX5) (N := 16) (ci := 5) (v := .int ((u2 (u2 σ3 0 4 ((σ3 0 4) + 1)) 0 13 0) 0 1)) F hC (0) u_X5 (Nat.le_of_ble_eq_true rfl) rfl rfl 1 (by decide) f_42 rfl dX5_greedy_58 ?_
        refine lv_iload_n hx hb dX5_greedy_61 rfl (lv_at hl 1 rfl) ?_
        refine ss_ki (ss_rV (C := RX5) (As := [.int ((u2 (u2 σ3 0 4 ((σ3 0 4) + 1)) 0 13 0) 0 1), .int (x1)]) (rest := []) F ((mX5_gauss l D A L wr cI cZ cS (u2 (u2 σ3 0 4 ((σ3 0 4) + 1)) 0 13 0) ((u2 (u2 σ3 0 4 ((σ3 0 4) + 1)) 0 13 0) 0 1) x1) _) gX5_greedy_X5_gauss rfl ⟨rfl, rfl⟩ ⟨rfl, dvX5_gauss⟩ ⟨Nat.le_of_ble_eq_true rfl, Nat.le_of_ble_eq_true rfl⟩ (ss_preV F.2.2.2.2.1 F.2.2.2.2.2 hC (ss_rec (C := RX5) (T := TX5) (N := 16) (ci := 5) F.2.2.2.2.1 hC (0) (Nat.le_of_ble_eq_true rfl) rfl rfl) hw) rfl hl.1 rfl (Nat.le_of_ble_eq_true rfl) dX5_greedy_62 ⟨Nat.zero_le _, Nat.zero_le _⟩) hC (fun r6 σ5 H locs hC hw => ?_)
        refine lv_istore_n (lv' := [(3, .int (r6)), (0, .ref (L (0))), (1, .int (x1)), (2, .int (x2))]) hx hb dX5_greedy_65 rfl hl (by decide) rfl (fun ls hl => ?_)
        refine lv_iconst (v := 0) hx hb dX5_greedy_66 (by decide) ?_
        refine lv_istore (lv' := [(4, .int (0)), (3, .int (r6)), (0, .ref (L (0))), (1, .int (x1)), (2, .int (x2))]) hx hb dX5_greedy_67 hl (by decide) rfl (fun ls hl => ?_)
        obtain ⟨n_, hw⟩ := hw
        refine tX5_greedy_69 F  _ n_ 0 σ5 _ _ _ hC (lv_sub hl [2, 3, 4, 1, 0] rfl) hw ?_
        · intro x4_13 σ_13 H locs ls hC hl hw
          refine lv_aload_n hx hb dX5_greedy_170 rfl (lv_at hl 0 rfl) ?_
          refine ss_get (C := RX5) (T := TX5) (N := 16) (ci := 5) (v := .int (σ_13 0 13)) F hC (0) u_X5 (Nat.le_of_ble_eq_true rfl) rfl rfl 13 (by decide) f_55 rfl dX5_greedy_171 ?_
          exact ss_iret F hC hw dX5_greedy_174
      · replace hw := hw.2 hc
        refine lv_bipush (v := -103) hx hb dX5_greedy_38 (by decide) ?_
        exact ss_iret F hC hw dX5_greedy_40
    · replace hw := hw.2 hc
      refine lv_bipush (v := -102) hx hb dX5_greedy_26 (by decide) ?_
      exact ss_iret F hC hw dX5_greedy_28

theorem mX5_greedy (l : Launch) (D : va_G) (A : Nat → Prop) (L : Nat → Nat) (wr : va_W) (cI cZ cS : ClassId) (σ : ss_S) (x1 : Int32) (x2 : Int32)  : ss_MI l yX5_greedy wsX5_greedy rmX5_greedy (ss_EM D A L wr cI cZ cS) [.ref (L (0)), .int (x1), .int (x2)] σ (fun post => wX5_greedy x1 x2 σ post) :=
  ss_MI.of (cc := cX5_greedy) (nL := 7) (ret := (some .int)) (own := RX5) (by decide) rfl rfl (Nat.le_of_ble_eq_true rfl) (fun post p e R s m below meth c H locs ls F hC hl hw => bX5_greedy F  σ H locs ls hC hl hw)

set_option maxHeartbeats 4000000 in
set_option maxRecDepth 100000 in
theorem bX5_image {x1 : Int32} {x2 : Int32} {post : Int32 → ss_S → Prop} (F : ss_F p R s m args meth c (ss_EM D A L wr cI cZ cS) cX5_image 4 wsX5_image RX5 (some .int) rmX5_image)  : ∀ (σ : ss_S) (H : Heap) (locs : List Loc) (ls : Array Slot), ss_C (ss_EM D A L wr cI cZ cS) σ s H locs → lv_has ls 4 [(0, .ref (L (0))), (1, .int (x1)), (2, .int (x2))] → wX5_image x1 x2 σ post → W p l e R s m args below meth c H locs 0 0 (MQ below (va_Qi post (ss_B (ss_EM D A L wr cI cZ cS)) A) args s 0 0 A) (F0 m 0 ls []) := by
  have hx := F.1.1
  have hb := F.1.2.1
  have u_X5 : ∀ w ∈ u_ws RX5 TX5 16, w ∈ wsX5_image := by decide +kernel
  have f_42 : (Cond.fieldLink RX5 42 "SmallSpacesModel" "n" "I").before args s = true := F.1.2.2.2.2 _ (by decide +kernel)
  have f_7 : (Cond.fieldLink RX5 7 "SmallSpacesModel" "images" "[I").before args s = true := F.1.2.2.2.2 _ (by decide +kernel)
  intro σ H locs ls hC hl hw
  unfold wX5_image at hw
  refine lv_iload_n hx hb dX5_image_0 rfl (lv_at hl 1 rfl) ?_
  refine lv_i2l hx hb dX5_image_1 rfl ?_
  refine lv_lconst (v := 0) hx hb dX5_image_2 (by decide) ?_
  refine lv_aload_n hx hb dX5_image_3 rfl (lv_at hl 0 rfl) ?_
  refine ss_get (C := RX5) (T := TX5) (N := 16) (ci := 5) (v := .int (σ 0 1)) F hC (0) u_X5 (Nat.le_of_ble_eq_true rfl) rfl rfl 1 (by decide) f_42 rfl dX5_image_4 ?_
  refine lv_iconst (v := 1) hx hb dX5_image_7 (by decide) ?_
  refine lv_isub hx hb dX5_image_8 ?_
  refine lv_i2l hx hb dX5_image_9 rfl ?_
  refine ss_ki (ss_rS (As := [.long (Int32.toInt64 x1), .long (0), .long (Int32.toInt64 ((σ 0 1) - 1))]) (rest := []) F ((mX5_in l D A L wr cI cZ cS σ (Int32.toInt64 x1) 0 (Int32.toInt64 ((σ 0 1) - 1))) _) gX5_image_X5_in rfl ⟨rfl, rfl⟩ dvX5_in ⟨Nat.le_of_ble_eq_true rfl, Nat.le_of_ble_eq_true rfl⟩ (ss_preS F.2.2.2.2.1 F.2.2.2.2.2 hC hw) rfl hl.1 rfl (Nat.le_of_ble_eq_true rfl) dX5_image_10 ⟨Nat.zero_le _, Nat.zero_le _⟩) hC (fun r2 σ1 H locs hC hw => ?_)
  refine lv_if_eq (tgt := 24) hx hb dX5_image_13 (by decide) (fun hc => ?_) (fun hc => ?_)
  · replace hw := hw.1 hc
    refine lv_bipush (v := -101) hx hb dX5_image_24 (by decide) ?_
    exact ss_iret F hC hw dX5_image_26
  · replace hw := hw.2 hc
    refine lv_aload_n hx hb dX5_image_16 rfl (lv_at hl 0 rfl) ?_
    refine lv_iload_n hx hb dX5_image_17 rfl (lv_at hl 2 rfl) ?_
    refine ss_ki (ss_rV (C := RX5) (As := [.int (x2)]) (rest := []) F ((mX5_isVector l D A L wr cI cZ cS σ1 x2) _) gX5_image_X5_isVector rfl ⟨rfl, rfl⟩ ⟨rfl, dvX5_isVector⟩ ⟨Nat.le_of_ble_eq_true rfl, Nat.le_of_ble_eq_true rfl⟩ (ss_preV F.2.2.2.2.1 F.2.2.2.2.2 hC (ss_rec (C := RX5) (T := TX5) (N := 16) (ci := 5) F.2.2.2.2.1 hC (0) (Nat.le_of_ble_eq_true rfl) rfl rfl) hw) rfl hl.1 rfl (Nat.le_of_ble_eq_true rfl) dX5_image_18 ⟨Nat.zero_le _, Nat.zero_le _⟩) hC (fun r4 σ3 H locs hC hw => ?_)
    refine lv_if_ne (tgt := 27) hx hb dX5_image_21 (by decide) (fun hc => ?_) (fun hc => ?_)
    · replace hw := hw.1 hc
      refine lv_aload_n hx hb dX5_image_27 rfl (lv_at hl 0 rfl) ?_
      refine ss_get (C := RX5) (T := TX5) (N := 16) (ci := 5) (v := .ref (L (1))) F hC (0) u_X5 (Nat.le_of_ble_eq_true rfl) rfl rfl 3 (by decide) f_7 rfl dX5_image_28 ?_
      refine lv_iload_n hx hb dX5_image_31 rfl (lv_at hl 1 rfl) ?_
      refine ss_iald F hC (1) 0 (Nat.le_of_ble_eq_true rfl) (fun _ => rfl) rfl hw.1 dX5_image_32 ?_
      replace hw := hw.2
      refine lv_istore_n (lv' := [(3, .int (σ3 1 (Int32.toNatClampNeg x1))), (0, .ref (L (0))), (1, .int (x1)), (2, .int (x2))]) hx hb dX5_image_33 rfl hl (by decide) rfl (fun ls hl => ?_)
      refine lv_aload_n hx hb dX5_image_34 rfl (lv_at hl 1 rfl) ?_
      refine ss_get (C := RX5) (T := TX5) (N := 16) (ci := 5) (v := .ref (L (1))) F hC (0) u_X5 (Nat.le_of_ble_eq_true rfl) rfl rfl 3 (by decide) f_7 rfl dX5_image_35 ?_
      refine lv_iload_n hx hb dX5_image_38 rfl (lv_at hl 2 rfl) ?_
      refine lv_iload_n hx hb dX5_image_39 rfl (lv_at hl 3 rfl) ?_
      refine ss_iast F hC (1) 0 (Nat.le_of_ble_eq_true rfl) (fun _ => rfl) rfl hw.1 dX5_image_40 (fun H locs hC => ?_)
      replace hw := hw.2
      refine lv_iload_n hx hb dX5_image_41 rfl (lv_at hl 0 rfl) ?_
      exact ss_iret F hC hw dX5_image_42
    · replace hw := hw.2 hc
      refine lv_bipush (v := -101) hx hb dX5_image_24 (by decide) ?_
      exact ss_iret F hC hw dX5_image_26

theorem mX5_image (l : Launch) (D : va_G) (A : Nat → Prop) (L : Nat → Nat) (wr : va_W) (cI cZ cS : ClassId) (σ : ss_S) (x1 : Int32) (x2 : Int32)  : ss_MI l yX5_image wsX5_image rmX5_image (ss_EM D A L wr cI cZ cS) [.ref (L (0)), .int (x1), .int (x2)] σ (fun post => wX5_image x1 x2 σ post) :=
  ss_MI.of (cc := cX5_image) (nL := 4) (ret := (some .int)) (own := RX5) (by decide) rfl rfl (Nat.le_of_ble_eq_true rfl) (fun post p e R s m below meth c H locs ls F hC hl hw => bX5_image F  σ H locs ls hC hl hw)

set_option maxHeartbeats 4000000 in
set_option maxRecDepth 100000 in
theorem tX5_mappedOf_4 {x1 : Int32} {post : Int32 → ss_S → Prop} (F : ss_F p R s m args meth c (ss_EM D A L wr cI cZ cS) cX5_mappedOf 4 wsX5_mappedOf RX5 (some .int) rmX5_mappedOf)  (k36 : Int32 → Int32 → ss_S → Prop) : ∀ (n : Nat) (x2 : Int32) (x3 : Int32) (σ : ss_S) (H : Heap) (locs : List Loc) (ls : Array Slot), ss_C (ss_EM D A L wr cI cZ cS) σ s H locs → lv_has ls 4 [(0, .ref (L (0))), (1, .int (x1)), (2, .int (x2)), (3, .int (x3))] → lX5_mappedOf_4 x1 post k36 n x2 x3 σ →
    (∀ (x2 : Int32) (x3 : Int32) (σ : ss_S) (H : Heap) (locs : List Loc) (ls : Array Slot), ss_C (ss_EM D A L wr cI cZ cS) σ s H locs → lv_has ls 4 [(2, .int (x2))] → k36 x2 x3 σ → W p l e R s m args below meth c H locs 0 0 (MQ below (va_Qi post (ss_B (ss_EM D A L wr cI cZ cS)) A) args s 0 0 A) (F0 m 36 ls [])) →
    W p l e R s m args below meth c H locs 0 0 (MQ below (va_Qi post (ss_B (ss_EM D A L wr cI cZ cS)) A) args s 0 0 A) (F0 m 4 ls []) := by
  have hx := F.1.1
  have hb := F.1.2.1
  have u_X5 : ∀ w ∈ u_ws RX5 TX5 16, w ∈ wsX5_mappedOf := by decide +kernel
  have f_42 : (Cond.fieldLink RX5 42 "SmallSpacesModel" "n" "I").before args s = true := F.1.2.2.2.2 _ (by decide +kernel)
  have f_7 : (Cond.fieldLink RX5 7 "SmallSpacesModel" "images" "[I").before args s = true := F.1.2.2.2.2 _ (by decide +kernel)
  intro n
  induction n with
  | zero => intro x2 x3 σ H locs ls hC hl hw; exact hw.elim
  | succ n ih =>
    intro x2 x3 σ H locs ls hC hl hw hk36
    refine lv_iload_n hx hb dX5_mappedOf_4 rfl (lv_at hl 3 rfl) ?_
    refine lv_aload_n hx hb dX5_mappedOf_5 rfl (lv_at hl 0 rfl) ?_
    refine ss_get (C := RX5) (T := TX5) (N := 16) (ci := 5) (v := .int (σ 0 1)) F hC (0) u_X5 (Nat.le_of_ble_eq_true rfl) rfl rfl 1 (by decide) f_42 rfl dX5_mappedOf_6 ?_
    refine lv_icmp_ge (tgt := 36) hx hb dX5_mappedOf_9 (by decide) (fun hc => ?_) (fun hc => ?_)
    · replace hw := hw.1 hc
      exact hk36 x2 x3 σ _ _ _ hC (lv_sub hl [2] rfl) hw
    · replace hw := hw.2 hc
      refine lv_aload_n hx hb dX5_mappedOf_12 rfl (lv_at hl 0 rfl) ?_
      refine lv_iload_n hx hb dX5_mappedOf_13 rfl (lv_at hl 2 rfl) ?_
      refine lv_aload_n hx hb dX5_mappedOf_14 rfl (lv_at hl 0 rfl) ?_
      refine ss_get (C := RX5) (T := TX5) (N := 16) (ci := 5) (v := .ref (L (1))) F hC (0) u_X5 (Nat.le_of_ble_eq_true rfl) rfl rfl 3 (by decide) f_7 rfl dX5_mappedOf_15 ?_
      refine lv_iload_n hx hb dX5_mappedOf_18 rfl (lv_at hl 3 rfl) ?_
      refine ss_iald F hC (1) 0 (Nat.le_of_ble_eq_true rfl) (fun _ => rfl) rfl hw.1 dX5_mappedOf_19 ?_
      replace hw := hw.2
      refine lv_aload_n hx hb dX5_mappedOf_20 rfl (lv_at hl 0 rfl) ?_
      refine lv_iload_n hx hb dX5_mappedOf_21 rfl (lv_at hl 1 rfl) ?_
      refine lv_iload_n hx hb dX5_mappedOf_22 rfl (lv_at hl 3 rfl) ?_
      refine ss_ki (ss_rV (C := RX5) (As := [.int (x1), .int (x3)]) (rest := [.int (σ 1 (Int32.toNatClampNeg x3)), .int (x2), .ref (L (0))]) F ((mX5_figure l D A L wr cI cZ cS σ x1 x3) _) gX5_mappedOf_X5_figure rfl ⟨rfl, rfl⟩ ⟨rfl, dvX5_figure⟩ ⟨Nat.le_of_ble_eq_true rfl, Nat.le_of_ble_eq_true rfl⟩ (ss_preV F.2.2.2.2.1 F.2.2.2.2.2 hC (ss_rec (C := RX5) (T := TX5) (N := 16) (ci := 5) F.2.2.2.2.1 hC (0) (Nat.le_of_ble_eq_true rfl) rfl rfl) hw) rfl hl.1 rfl (Nat.le_of_ble_eq_true rfl) dX5_mappedOf_23 ⟨Nat.zero_le _, Nat.zero_le _⟩) hC (fun r2 σ1 H locs hC hw => ?_)
      refine ss_ki (ss_rV (C := RX5) (As := [.int (x2), .int (σ 1 (Int32.toNatClampNeg x3)), .int (r2)]) (rest := []) F ((mX5_sum l D A L wr cI cZ cS σ1 x2 (σ 1 (Int32.toNatClampNeg x3)) r2) _) gX5_mappedOf_X5_sum rfl ⟨rfl, rfl⟩ ⟨rfl, dvX5_sum⟩ ⟨Nat.le_of_ble_eq_true rfl, Nat.le_of_ble_eq_true rfl⟩ (ss_preV F.2.2.2.2.1 F.2.2.2.2.2 hC (ss_rec (C := RX5) (T := TX5) (N := 16) (ci := 5) F.2.2.2.2.1 hC (0) (Nat.le_of_ble_eq_true rfl) rfl rfl) hw) rfl hl.1 rfl (Nat.le_of_ble_eq_true rfl) dX5_mappedOf_26 ⟨Nat.zero_le _, Nat.zero_le _⟩) hC (fun r4 σ3 H locs hC hw => ?_)
      refine lv_istore_n (lv' := [(2, .int (r4)), (0, .ref (L (0))), (1, .int (x1)), (3, .int (x3))]) hx hb dX5_mappedOf_29 rfl hl (by decide) rfl (fun ls hl => ?_)
      refine lv_iinc (v := x3 + 1) (lv' := [(3, .int (x3 + 1)), (2, .int (r4)), (0, .ref (L (0))), (1, .int (x1))]) hx hb dX5_mappedOf_30 hl (k := 3) rfl rfl (by decide) rfl (fun ls hl => ?_)
      refine lv_goto (tgt := 4) hx hb dX5_mappedOf_33 (by decide) ?_
      exact ih r4 (x3 + 1) σ3 _ _ _ hC (lv_sub hl [2, 3, 1, 0] rfl) hw hk36

set_option maxHeartbeats 4000000 in
set_option maxRecDepth 100000 in
theorem bX5_mappedOf {x1 : Int32} {post : Int32 → ss_S → Prop} (F : ss_F p R s m args meth c (ss_EM D A L wr cI cZ cS) cX5_mappedOf 4 wsX5_mappedOf RX5 (some .int) rmX5_mappedOf)  : ∀ (σ : ss_S) (H : Heap) (locs : List Loc) (ls : Array Slot), ss_C (ss_EM D A L wr cI cZ cS) σ s H locs → lv_has ls 4 [(0, .ref (L (0))), (1, .int (x1))] → wX5_mappedOf x1 σ post → W p l e R s m args below meth c H locs 0 0 (MQ below (va_Qi post (ss_B (ss_EM D A L wr cI cZ cS)) A) args s 0 0 A) (F0 m 0 ls []) := by
  have hx := F.1.1
  have hb := F.1.2.1
  intro σ H locs ls hC hl hw
  unfold wX5_mappedOf at hw
  refine lv_iconst (v := 0) hx hb dX5_mappedOf_0 (by decide) ?_
  refine lv_istore_n (lv' := [(2, .int (0)), (0, .ref (L (0))), (1, .int (x1))]) hx hb dX5_mappedOf_1 rfl hl (by decide) rfl (fun ls hl => ?_)
  refine lv_iconst (v := 0) hx hb dX5_mappedOf_2 (by decide) ?_
  refine lv_istore_n (lv' := [(3, .int (0)), (2, .int (0)), (0, .ref (L (0))), (1, .int (x1))]) hx hb dX5_mappedOf_3 rfl hl (by decide) rfl (fun ls hl => ?_)
  obtain ⟨n_, hw⟩ := hw
  refine tX5_mappedOf_4 F  _ n_ 0 0 σ _ _ _ hC (lv_sub hl [2, 3, 1, 0] rfl) hw ?_
  · intro x2_5 x3_5 σ_5 H locs ls hC hl hw
    refine lv_iload_n hx hb dX5_mappedOf_36 rfl (lv_at hl 0 rfl) ?_
    exact ss_iret F hC hw dX5_mappedOf_37

theorem mX5_mappedOf (l : Launch) (D : va_G) (A : Nat → Prop) (L : Nat → Nat) (wr : va_W) (cI cZ cS : ClassId) (σ : ss_S) (x1 : Int32)  : ss_MI l yX5_mappedOf wsX5_mappedOf rmX5_mappedOf (ss_EM D A L wr cI cZ cS) [.ref (L (0)), .int (x1)] σ (fun post => wX5_mappedOf x1 σ post) :=
  ss_MI.of (cc := cX5_mappedOf) (nL := 4) (ret := (some .int)) (own := RX5) (by decide) rfl rfl (Nat.le_of_ble_eq_true rfl) (fun post p e R s m below meth c H locs ls F hC hl hw => bX5_mappedOf F  σ H locs ls hC hl hw)

set_option maxHeartbeats 4000000 in
set_option maxRecDepth 100000 in
theorem bX5_mapped {x1 : Int32} {post : Int32 → ss_S → Prop} (F : ss_F p R s m args meth c (ss_EM D A L wr cI cZ cS) cX5_mapped 2 wsX5_mapped RX5 (some .int) rmX5_mapped)  : ∀ (σ : ss_S) (H : Heap) (locs : List Loc) (ls : Array Slot), ss_C (ss_EM D A L wr cI cZ cS) σ s H locs → lv_has ls 2 [(0, .ref (L (0))), (1, .int (x1))] → wX5_mapped x1 σ post → W p l e R s m args below meth c H locs 0 0 (MQ below (va_Qi post (ss_B (ss_EM D A L wr cI cZ cS)) A) args s 0 0 A) (F0 m 0 ls []) := by
  have hx := F.1.1
  have hb := F.1.2.1
  intro σ H locs ls hC hl hw
  unfold wX5_mapped at hw
  refine lv_aload_n hx hb dX5_mapped_0 rfl (lv_at hl 0 rfl) ?_
  refine lv_iload_n hx hb dX5_mapped_1 rfl (lv_at hl 1 rfl) ?_
  refine ss_ki (ss_rV (C := RX5) (As := [.int (x1)]) (rest := []) F ((mX5_isVector l D A L wr cI cZ cS σ x1) _) gX5_mapped_X5_isVector rfl ⟨rfl, rfl⟩ ⟨rfl, dvX5_isVector⟩ ⟨Nat.le_of_ble_eq_true rfl, Nat.le_of_ble_eq_true rfl⟩ (ss_preV F.2.2.2.2.1 F.2.2.2.2.2 hC (ss_rec (C := RX5) (T := TX5) (N := 16) (ci := 5) F.2.2.2.2.1 hC (0) (Nat.le_of_ble_eq_true rfl) rfl rfl) hw) rfl hl.1 rfl (Nat.le_of_ble_eq_true rfl) dX5_mapped_2 ⟨Nat.zero_le _, Nat.zero_le _⟩) hC (fun r2 σ1 H locs hC hw => ?_)
  refine lv_if_eq (tgt := 16) hx hb dX5_mapped_5 (by decide) (fun hc => ?_) (fun hc => ?_)
  · replace hw := hw.1 hc
    refine lv_bipush (v := -101) hx hb dX5_mapped_16 (by decide) ?_
    exact ss_iret F hC hw dX5_mapped_18
  · replace hw := hw.2 hc
    refine lv_aload_n hx hb dX5_mapped_8 rfl (lv_at hl 0 rfl) ?_
    refine lv_iload_n hx hb dX5_mapped_9 rfl (lv_at hl 1 rfl) ?_
    refine ss_ki (ss_rV (C := RX5) (As := [.int (x1)]) (rest := []) F ((mX5_mappedOf l D A L wr cI cZ cS σ1 x1) _) gX5_mapped_X5_mappedOf rfl ⟨rfl, rfl⟩ ⟨rfl, dvX5_mappedOf⟩ ⟨Nat.le_of_ble_eq_true rfl, Nat.le_of_ble_eq_true rfl⟩ (ss_preV F.2.2.2.2.1 F.2.2.2.2.2 hC (ss_rec (C := RX5) (T := TX5) (N := 16) (ci := 5) F.2.2.2.2.1 hC (0) (Nat.le_of_ble_eq_true rfl) rfl rfl) hw) rfl hl.1 rfl (Nat.le_of_ble_eq_true rfl) dX5_mapped_10 ⟨Nat.zero_le _, Nat.zero_le _⟩) hC (fun r4 σ3 H locs hC hw => ?_)
    refine lv_goto (tgt := 18) hx hb dX5_mapped_13 (by decide) ?_
    exact ss_iret F hC hw dX5_mapped_18

theorem mX5_mapped (l : Launch) (D : va_G) (A : Nat → Prop) (L : Nat → Nat) (wr : va_W) (cI cZ cS : ClassId) (σ : ss_S) (x1 : Int32)  : ss_MI l yX5_mapped wsX5_mapped rmX5_mapped (ss_EM D A L wr cI cZ cS) [.ref (L (0)), .int (x1)] σ (fun post => wX5_mapped x1 σ post) :=
  ss_MI.of (cc := cX5_mapped) (nL := 2) (ret := (some .int)) (own := RX5) (by decide) rfl rfl (Nat.le_of_ble_eq_true rfl) (fun post p e R s m below meth c H locs ls F hC hl hw => bX5_mapped F  σ H locs ls hC hl hw)

set_option maxHeartbeats 4000000 in
set_option maxRecDepth 100000 in
theorem tX5_step_2  {post : ss_S → Prop} (F : ss_F p R s m args meth c (ss_EM D A L wr cI cZ cS) cX5_step 2 wsX5_step RX5 none rmX5_step)  (k32 : Int32 → ss_S → Prop) : ∀ (n : Nat) (x1 : Int32) (σ : ss_S) (H : Heap) (locs : List Loc) (ls : Array Slot), ss_C (ss_EM D A L wr cI cZ cS) σ s H locs → lv_has ls 2 [(0, .ref (L (0))), (1, .int (x1))] → lX5_step_2 post k32 n x1 σ →
    (∀ (x1 : Int32) (σ : ss_S) (H : Heap) (locs : List Loc) (ls : Array Slot), ss_C (ss_EM D A L wr cI cZ cS) σ s H locs → lv_has ls 2 [(0, .ref (L (0)))] → k32 x1 σ → W p l e R s m args below meth c H locs 0 0 (MQ below (va_Qv post (ss_B (ss_EM D A L wr cI cZ cS)) A) args s 0 0 A) (F0 m 32 ls [])) →
    W p l e R s m args below meth c H locs 0 0 (MQ below (va_Qv post (ss_B (ss_EM D A L wr cI cZ cS)) A) args s 0 0 A) (F0 m 2 ls []) := by
  have hx := F.1.1
  have hb := F.1.2.1
  have u_X5 : ∀ w ∈ u_ws RX5 TX5 16, w ∈ wsX5_step := by decide +kernel
  have f_76 : (Cond.fieldLink RX5 76 "SmallSpacesModel" "worked" "I").before args s = true := F.1.2.2.2.2 _ (by decide +kernel)
  have f_13 : (Cond.fieldLink RX5 13 "SmallSpacesModel" "work" "[I").before args s = true := F.1.2.2.2.2 _ (by decide +kernel)
  intro n
  induction n with
  | zero => intro x1 σ H locs ls hC hl hw; exact hw.elim
  | succ n ih =>
    intro x1 σ H locs ls hC hl hw hk32
    refine lv_iload_n hx hb dX5_step_2 rfl (lv_at hl 1 rfl) ?_
    refine lv_aload_n hx hb dX5_step_3 rfl (lv_at hl 0 rfl) ?_
    refine ss_get (C := RX5) (T := TX5) (N := 16) (ci := 5) (v := .int (σ 0 7)) F hC (0) u_X5 (Nat.le_of_ble_eq_true rfl) rfl rfl 7 (by decide) f_76 rfl dX5_step_4 ?_
    refine lv_icmp_ge (tgt := 32) hx hb dX5_step_7 (by decide) (fun hc => ?_) (fun hc => ?_)
    · replace hw := hw.1 hc
      exact hk32 x1 σ _ _ _ hC (lv_sub hl [0] rfl) hw
    · replace hw := hw.2 hc
      refine lv_aload_n hx hb dX5_step_10 rfl (lv_at hl 0 rfl) ?_
      refine ss_get (C := RX5) (T := TX5) (N := 16) (ci := 5) (v := .ref (L (2))) F hC (0) u_X5 (Nat.le_of_ble_eq_true rfl) rfl rfl 6 (by decide) f_13 rfl dX5_step_11 ?_
      refine lv_iload_n hx hb dX5_step_14 rfl (lv_at hl 1 rfl) ?_
      refine lv_aload_n hx hb dX5_step_15 rfl (lv_at hl 0 rfl) ?_
      refine lv_aload_n hx hb dX5_step_16 rfl (lv_at hl 0 rfl) ?_
      refine ss_get (C := RX5) (T := TX5) (N := 16) (ci := 5) (v := .ref (L (2))) F hC (0) u_X5 (Nat.le_of_ble_eq_true rfl) rfl rfl 6 (by decide) f_13 rfl dX5_step_17 ?_
      refine lv_iload_n hx hb dX5_step_20 rfl (lv_at hl 1 rfl) ?_
      refine ss_iald F hC (2) 0 (Nat.le_of_ble_eq_true rfl) (fun _ => rfl) rfl hw.1 dX5_step_21 ?_
      replace hw := hw.2
      refine ss_ki (ss_rV (C := RX5) (As := [.int (σ 2 (Int32.toNatClampNeg x1))]) (rest := [.int (x1), .ref (L (2))]) F ((mX5_mappedOf l D A L wr cI cZ cS σ (σ 2 (Int32.toNatClampNeg x1))) _) gX5_step_X5_mappedOf rfl ⟨rfl, rfl⟩ ⟨rfl, dvX5_mappedOf⟩ ⟨Nat.le_of_ble_eq_true rfl, Nat.le_of_ble_eq_true rfl⟩ (ss_preV F.2.2.2.2.1 F.2.2.2.2.2 hC (ss_rec (C := RX5) (T := TX5) (N := 16) (ci := 5) F.2.2.2.2.1 hC (0) (Nat.le_of_ble_eq_true rfl) rfl rfl) hw) rfl hl.1 rfl (Nat.le_of_ble_eq_true rfl) dX5_step_22 ⟨Nat.zero_le _, Nat.zero_le _⟩) hC (fun r2 σ1 H locs hC hw => ?_)
      refine ss_iast F hC (2) 0 (Nat.le_of_ble_eq_true rfl) (fun _ => rfl) rfl hw.1 dX5_step_25 (fun H locs hC => ?_)
      replace hw := hw.2
      refine lv_iinc (v := x1 + 1) (lv' := [(1, .int (x1 + 1)), (0, .ref (L (0)))]) hx hb dX5_step_26 hl (k := 1) rfl rfl (by decide) rfl (fun ls hl => ?_)
      refine lv_goto (tgt := 2) hx hb dX5_step_29 (by decide) ?_
      exact ih (x1 + 1) (u2 σ1 2 (Int32.toNatClampNeg x1) r2) _ _ _ hC (lv_sub hl [1, 0] rfl) hw hk32

set_option maxHeartbeats 4000000 in
set_option maxRecDepth 100000 in
theorem bX5_step  {post : ss_S → Prop} (F : ss_F p R s m args meth c (ss_EM D A L wr cI cZ cS) cX5_step 2 wsX5_step RX5 none rmX5_step)  : ∀ (σ : ss_S) (H : Heap) (locs : List Loc) (ls : Array Slot), ss_C (ss_EM D A L wr cI cZ cS) σ s H locs → lv_has ls 2 [(0, .ref (L (0)))] → wX5_step  σ post → W p l e R s m args below meth c H locs 0 0 (MQ below (va_Qv post (ss_B (ss_EM D A L wr cI cZ cS)) A) args s 0 0 A) (F0 m 0 ls []) := by
  have hx := F.1.1
  have hb := F.1.2.1
  intro σ H locs ls hC hl hw
  unfold wX5_step at hw
  refine lv_iconst (v := 0) hx hb dX5_step_0 (by decide) ?_
  refine lv_istore_n (lv' := [(1, .int (0)), (0, .ref (L (0)))]) hx hb dX5_step_1 rfl hl (by decide) rfl (fun ls hl => ?_)
  obtain ⟨n_, hw⟩ := hw
  refine tX5_step_2 F  _ n_ 0 σ _ _ _ hC (lv_sub hl [1, 0] rfl) hw ?_
  · intro x1_3 σ_3 H locs ls hC hl hw
    refine lv_aload_n hx hb dX5_step_32 rfl (lv_at hl 0 rfl) ?_
    refine ss_kv (ss_rV (C := RX5) (As := []) (rest := []) F ((mX5_settle l D A L wr cI cZ cS σ_3 ) _) gX5_step_X5_settle rfl ⟨rfl, rfl⟩ ⟨rfl, dvX5_settle⟩ ⟨Nat.le_of_ble_eq_true rfl, Nat.le_of_ble_eq_true rfl⟩ (ss_preV F.2.2.2.2.1 F.2.2.2.2.2 hC (ss_rec (C := RX5) (T := TX5) (N := 16) (ci := 5) F.2.2.2.2.1 hC (0) (Nat.le_of_ble_eq_true rfl) rfl rfl) hw) rfl hl.1 rfl (Nat.le_of_ble_eq_true rfl) dX5_step_33 ⟨Nat.zero_le _, Nat.zero_le _⟩) hC (fun σ4 H locs hC hw => ?_)
    exact ss_vret F hC hw dX5_step_36

theorem mX5_step (l : Launch) (D : va_G) (A : Nat → Prop) (L : Nat → Nat) (wr : va_W) (cI cZ cS : ClassId) (σ : ss_S)   : ss_MV l yX5_step wsX5_step rmX5_step (ss_EM D A L wr cI cZ cS) [.ref (L (0))] σ (fun post => wX5_step  σ post) :=
  ss_MV.of (cc := cX5_step) (nL := 2) (ret := none) (own := RX5) (by decide) rfl rfl (Nat.le_of_ble_eq_true rfl) (fun post p e R s m below meth c H locs ls F hC hl hw => bX5_step F  σ H locs ls hC hl hw)

set_option maxHeartbeats 4000000 in
set_option maxRecDepth 100000 in
theorem bX5_map {x1 : Int32} {x2 : Int32} {post : Int32 → ss_S → Prop} (F : ss_F p R s m args meth c (ss_EM D A L wr cI cZ cS) cX5_map 3 wsX5_map RX5 (some .int) rmX5_map)  : ∀ (σ : ss_S) (H : Heap) (locs : List Loc) (ls : Array Slot), ss_C (ss_EM D A L wr cI cZ cS) σ s H locs → lv_has ls 3 [(0, .ref (L (0))), (1, .int (x1)), (2, .int (x2))] → wX5_map x1 x2 σ post → W p l e R s m args below meth c H locs 0 0 (MQ below (va_Qi post (ss_B (ss_EM D A L wr cI cZ cS)) A) args s 0 0 A) (F0 m 0 ls []) := by
  have hx := F.1.1
  have hb := F.1.2.1
  have u_X5 : ∀ w ∈ u_ws RX5 TX5 16, w ∈ wsX5_map := by decide +kernel
  have f_76 : (Cond.fieldLink RX5 76 "SmallSpacesModel" "worked" "I").before args s = true := F.1.2.2.2.2 _ (by decide +kernel)
  intro σ H locs ls hC hl hw
  unfold wX5_map at hw
  refine lv_iload_n hx hb dX5_map_0 rfl (lv_at hl 1 rfl) ?_
  refine lv_iload_n hx hb dX5_map_1 rfl (lv_at hl 1 rfl) ?_
  refine lv_iload_n hx hb dX5_map_2 rfl (lv_at hl 2 rfl) ?_
  refine ss_ki (ss_rS (As := [.int (x1), .int (x1), .int (x2)]) (rest := []) F ((mX5_areSlots l D A L wr cI cZ cS σ x1 x1 x2) _) gX5_map_X5_areSlots rfl ⟨rfl, rfl⟩ dvX5_areSlots ⟨Nat.le_of_ble_eq_true rfl, Nat.le_of_ble_eq_true rfl⟩ (ss_preS F.2.2.2.2.1 F.2.2.2.2.2 hC hw) rfl hl.1 rfl (Nat.le_of_ble_eq_true rfl) dX5_map_3 ⟨Nat.zero_le _, Nat.zero_le _⟩) hC (fun r2 σ1 H locs hC hw => ?_)
  refine lv_if_ne (tgt := 12) hx hb dX5_map_6 (by decide) (fun hc => ?_) (fun hc => ?_)
  · replace hw := hw.1 hc
    refine lv_aload_n hx hb dX5_map_12 rfl (lv_at hl 0 rfl) ?_
    refine lv_iconst (v := 0) hx hb dX5_map_13 (by decide) ?_
    refine ss_put (C := RX5) (T := TX5) (N := 16) (ci := 5) F hC (0) tyX5 tyX5_ok nmX5 u_X5 (Nat.le_of_ble_eq_true rfl) rfl rfl 7 (by decide) f_76 rfl (by decide +kernel) (Nat.le_of_ble_eq_true rfl) rfl dX5_map_14 (fun H locs hC => ?_)
    refine lv_aload_n hx hb dX5_map_17 rfl (lv_at hl 0 rfl) ?_
    refine lv_iload_n hx hb dX5_map_18 rfl (lv_at hl 1 rfl) ?_
    refine ss_kv (ss_rV (C := RX5) (As := [.int (x1)]) (rest := []) F ((mX5_load l D A L wr cI cZ cS (u2 σ1 0 7 0) x1) _) gX5_map_X5_load rfl ⟨rfl, rfl⟩ ⟨rfl, dvX5_load⟩ ⟨Nat.le_of_ble_eq_true rfl, Nat.le_of_ble_eq_true rfl⟩ (ss_preV F.2.2.2.2.1 F.2.2.2.2.2 hC (ss_rec (C := RX5) (T := TX5) (N := 16) (ci := 5) F.2.2.2.2.1 hC (0) (Nat.le_of_ble_eq_true rfl) rfl rfl) hw) rfl hl.1 rfl (Nat.le_of_ble_eq_true rfl) dX5_map_19 ⟨Nat.zero_le _, Nat.zero_le _⟩) hC (fun σ3 H locs hC hw => ?_)
    refine lv_aload_n hx hb dX5_map_22 rfl (lv_at hl 0 rfl) ?_
    refine ss_kv (ss_rV (C := RX5) (As := []) (rest := []) F ((mX5_step l D A L wr cI cZ cS σ3 ) _) gX5_map_X5_step rfl ⟨rfl, rfl⟩ ⟨rfl, dvX5_step⟩ ⟨Nat.le_of_ble_eq_true rfl, Nat.le_of_ble_eq_true rfl⟩ (ss_preV F.2.2.2.2.1 F.2.2.2.2.2 hC (ss_rec (C := RX5) (T := TX5) (N := 16) (ci := 5) F.2.2.2.2.1 hC (0) (Nat.le_of_ble_eq_true rfl) rfl rfl) hw) rfl hl.1 rfl (Nat.le_of_ble_eq_true rfl) dX5_map_23 ⟨Nat.zero_le _, Nat.zero_le _⟩) hC (fun σ4 H locs hC hw => ?_)
    refine lv_aload_n hx hb dX5_map_26 rfl (lv_at hl 0 rfl) ?_
    refine lv_iload_n hx hb dX5_map_27 rfl (lv_at hl 2 rfl) ?_
    refine ss_ki (ss_rV (C := RX5) (As := [.int (x2)]) (rest := []) F ((mX5_save l D A L wr cI cZ cS σ4 x2) _) gX5_map_X5_save rfl ⟨rfl, rfl⟩ ⟨rfl, dvX5_save⟩ ⟨Nat.le_of_ble_eq_true rfl, Nat.le_of_ble_eq_true rfl⟩ (ss_preV F.2.2.2.2.1 F.2.2.2.2.2 hC (ss_rec (C := RX5) (T := TX5) (N := 16) (ci := 5) F.2.2.2.2.1 hC (0) (Nat.le_of_ble_eq_true rfl) rfl rfl) hw) rfl hl.1 rfl (Nat.le_of_ble_eq_true rfl) dX5_map_28 ⟨Nat.zero_le _, Nat.zero_le _⟩) hC (fun r6 σ5 H locs hC hw => ?_)
    exact ss_iret F hC hw dX5_map_31
  · replace hw := hw.2 hc
    refine lv_bipush (v := -101) hx hb dX5_map_9 (by decide) ?_
    exact ss_iret F hC hw dX5_map_11

theorem mX5_map (l : Launch) (D : va_G) (A : Nat → Prop) (L : Nat → Nat) (wr : va_W) (cI cZ cS : ClassId) (σ : ss_S) (x1 : Int32) (x2 : Int32)  : ss_MI l yX5_map wsX5_map rmX5_map (ss_EM D A L wr cI cZ cS) [.ref (L (0)), .int (x1), .int (x2)] σ (fun post => wX5_map x1 x2 σ post) :=
  ss_MI.of (cc := cX5_map) (nL := 3) (ret := (some .int)) (own := RX5) (by decide) rfl rfl (Nat.le_of_ble_eq_true rfl) (fun post p e R s m below meth c H locs ls F hC hl hw => bX5_map F  σ H locs ls hC hl hw)

set_option maxHeartbeats 4000000 in
set_option maxRecDepth 100000 in
theorem tX5_kernel_33 {x1 : Int32} {x2 : Int32} {post : Int32 → ss_S → Prop} (F : ss_F p R s m args meth c (ss_EM D A L wr cI cZ cS) cX5_kernel 5 wsX5_kernel RX5 (some .int) rmX5_kernel)  (k68 : Int32 → Int32 → ss_S → Prop) : ∀ (n : Nat) (x3 : Int32) (x4 : Int32) (σ : ss_S) (H : Heap) (locs : List Loc) (ls : Array Slot), ss_C (ss_EM D A L wr cI cZ cS) σ s H locs → lv_has ls 5 [(0, .ref (L (0))), (1, .int (x1)), (2, .int (x2)), (3, .int (x3)), (4, .int (x4))] → lX5_kernel_33 x1 x2 post k68 n x3 x4 σ →
    (∀ (x3 : Int32) (x4 : Int32) (σ : ss_S) (H : Heap) (locs : List Loc) (ls : Array Slot), ss_C (ss_EM D A L wr cI cZ cS) σ s H locs → lv_has ls 5 [(0, .ref (L (0))), (1, .int (x1)), (2, .int (x2)), (3, .int (x3))] → k68 x3 x4 σ → W p l e R s m args below meth c H locs 0 0 (MQ below (va_Qi post (ss_B (ss_EM D A L wr cI cZ cS)) A) args s 0 0 A) (F0 m 68 ls [])) →
    W p l e R s m args below meth c H locs 0 0 (MQ below (va_Qi post (ss_B (ss_EM D A L wr cI cZ cS)) A) args s 0 0 A) (F0 m 33 ls []) := by
  have hx := F.1.1
  have hb := F.1.2.1
  have u_X5 : ∀ w ∈ u_ws RX5 TX5 16, w ∈ wsX5_kernel := by decide +kernel
  have f_42 : (Cond.fieldLink RX5 42 "SmallSpacesModel" "n" "I").before args s = true := F.1.2.2.2.2 _ (by decide +kernel)
  have f_38 : (Cond.fieldLink RX5 38 "SmallSpacesModel" "q" "I").before args s = true := F.1.2.2.2.2 _ (by decide +kernel)
  have f_7 : (Cond.fieldLink RX5 7 "SmallSpacesModel" "images" "[I").before args s = true := F.1.2.2.2.2 _ (by decide +kernel)
  intro n
  induction n with
  | zero => intro x3 x4 σ H locs ls hC hl hw; exact hw.elim
  | succ n ih =>
    intro x3 x4 σ H locs ls hC hl hw hk68
    refine lv_iload hx hb dX5_kernel_33 (lv_at hl 4 rfl) ?_
    refine lv_aload_n hx hb dX5_kernel_35 rfl (lv_at hl 0 rfl) ?_
    refine ss_get (C := RX5) (T := TX5) (N := 16) (ci := 5) (v := .int (σ 0 1)) F hC (0) u_X5 (Nat.le_of_ble_eq_true rfl) rfl rfl 1 (by decide) f_42 rfl dX5_kernel_36 ?_
    refine lv_icmp_ge (tgt := 68) hx hb dX5_kernel_39 (by decide) (fun hc => ?_) (fun hc => ?_)
    · replace hw := hw.1 hc
      exact hk68 x3 x4 σ _ _ _ hC (lv_sub hl [0, 1, 2, 3] rfl) hw
    · replace hw := hw.2 hc
      refine lv_iload_n hx hb dX5_kernel_42 rfl (lv_at hl 3 rfl) ?_
      refine lv_aload_n hx hb dX5_kernel_43 rfl (lv_at hl 0 rfl) ?_
      refine ss_get (C := RX5) (T := TX5) (N := 16) (ci := 5) (v := .int (σ 0 0)) F hC (0) u_X5 (Nat.le_of_ble_eq_true rfl) rfl rfl 0 (by decide) f_38 rfl dX5_kernel_44 ?_
      refine lv_imul hx hb dX5_kernel_47 ?_
      refine lv_aload_n hx hb dX5_kernel_48 rfl (lv_at hl 0 rfl) ?_
      refine lv_aload_n hx hb dX5_kernel_49 rfl (lv_at hl 0 rfl) ?_
      refine ss_get (C := RX5) (T := TX5) (N := 16) (ci := 5) (v := .ref (L (1))) F hC (0) u_X5 (Nat.le_of_ble_eq_true rfl) rfl rfl 3 (by decide) f_7 rfl dX5_kernel_50 ?_
      refine lv_iload hx hb dX5_kernel_53 (lv_at hl 4 rfl) ?_
      refine ss_iald F hC (1) 0 (Nat.le_of_ble_eq_true rfl) (fun _ => rfl) rfl hw.1 dX5_kernel_55 ?_
      replace hw := hw.2
      refine lv_iload_n hx hb dX5_kernel_56 rfl (lv_at hl 2 rfl) ?_
      refine ss_ki (ss_rV (C := RX5) (As := [.int (σ 1 (Int32.toNatClampNeg x4)), .int (x2)]) (rest := [.int (x3 * (σ 0 0))]) F ((mX5_figure l D A L wr cI cZ cS σ (σ 1 (Int32.toNatClampNeg x4)) x2) _) gX5_kernel_X5_figure rfl ⟨rfl, rfl⟩ ⟨rfl, dvX5_figure⟩ ⟨Nat.le_of_ble_eq_true rfl, Nat.le_of_ble_eq_true rfl⟩ (ss_preV F.2.2.2.2.1 F.2.2.2.2.2 hC (ss_rec (C := RX5) (T := TX5) (N := 16) (ci := 5) F.2.2.2.2.1 hC (0) (Nat.le_of_ble_eq_true rfl) rfl rfl) hw) rfl hl.1 rfl (Nat.le_of_ble_eq_true rfl) dX5_kernel_57 ⟨Nat.zero_le _, Nat.zero_le _⟩) hC (fun r4 σ3 H locs hC hw => ?_)
      refine lv_iadd hx hb dX5_kernel_60 ?_
      refine lv_istore_n (lv' := [(3, .int ((x3 * (σ 0 0)) + r4)), (0, .ref (L (0))), (1, .int (x1)), (2, .int (x2)), (4, .int (x4))]) hx hb dX5_kernel_61 rfl hl (by decide) rfl (fun ls hl => ?_)
      refine lv_iinc (v := x4 + 1) (lv' := [(4, .int (x4 + 1)), (3, .int ((x3 * (σ 0 0)) + r4)), (0, .ref (L (0))), (1, .int (x1)), (2, .int (x2))]) hx hb dX5_kernel_62 hl (k := 4) rfl rfl (by decide) rfl (fun ls hl => ?_)
      refine lv_goto (tgt := 33) hx hb dX5_kernel_65 (by decide) ?_
      exact ih ((x3 * (σ 0 0)) + r4) (x4 + 1) σ3 _ _ _ hC (lv_sub hl [2, 3, 4, 1, 0] rfl) hw hk68

set_option maxHeartbeats 4000000 in
set_option maxRecDepth 100000 in
theorem tX5_kernel_20 {x1 : Int32} {post : Int32 → ss_S → Prop} (F : ss_F p R s m args meth c (ss_EM D A L wr cI cZ cS) cX5_kernel 5 wsX5_kernel RX5 (some .int) rmX5_kernel)  (k81 : Int32 → ss_S → Prop) : ∀ (n : Nat) (x2 : Int32) (σ : ss_S) (H : Heap) (locs : List Loc) (ls : Array Slot), ss_C (ss_EM D A L wr cI cZ cS) σ s H locs → lv_has ls 5 [(0, .ref (L (0))), (1, .int (x1)), (2, .int (x2))] → lX5_kernel_20 x1 post k81 n x2 σ →
    (∀ (x2 : Int32) (σ : ss_S) (H : Heap) (locs : List Loc) (ls : Array Slot), ss_C (ss_EM D A L wr cI cZ cS) σ s H locs → lv_has ls 5 [(0, .ref (L (0))), (1, .int (x1))] → k81 x2 σ → W p l e R s m args below meth c H locs 0 0 (MQ below (va_Qi post (ss_B (ss_EM D A L wr cI cZ cS)) A) args s 0 0 A) (F0 m 81 ls [])) →
    W p l e R s m args below meth c H locs 0 0 (MQ below (va_Qi post (ss_B (ss_EM D A L wr cI cZ cS)) A) args s 0 0 A) (F0 m 20 ls []) := by
  have hx := F.1.1
  have hb := F.1.2.1
  have u_X5 : ∀ w ∈ u_ws RX5 TX5 16, w ∈ wsX5_kernel := by decide +kernel
  have f_42 : (Cond.fieldLink RX5 42 "SmallSpacesModel" "n" "I").before args s = true := F.1.2.2.2.2 _ (by decide +kernel)
  have f_13 : (Cond.fieldLink RX5 13 "SmallSpacesModel" "work" "[I").before args s = true := F.1.2.2.2.2 _ (by decide +kernel)
  intro n
  induction n with
  | zero => intro x2 σ H locs ls hC hl hw; exact hw.elim
  | succ n ih =>
    intro x2 σ H locs ls hC hl hw hk81
    refine lv_iload_n hx hb dX5_kernel_20 rfl (lv_at hl 2 rfl) ?_
    refine lv_aload_n hx hb dX5_kernel_21 rfl (lv_at hl 0 rfl) ?_
    refine ss_get (C := RX5) (T := TX5) (N := 16) (ci := 5) (v := .int (σ 0 1)) F hC (0) u_X5 (Nat.le_of_ble_eq_true rfl) rfl rfl 1 (by decide) f_42 rfl dX5_kernel_22 ?_
    refine lv_icmp_ge (tgt := 81) hx hb dX5_kernel_25 (by decide) (fun hc => ?_) (fun hc => ?_)
    · replace hw := hw.1 hc
      exact hk81 x2 σ _ _ _ hC (lv_sub hl [0, 1] rfl) hw
    · replace hw := hw.2 hc
      refine lv_iconst (v := 0) hx hb dX5_kernel_28 (by decide) ?_
      refine lv_istore_n (lv' := [(3, .int (0)), (0, .ref (L (0))), (1, .int (x1)), (2, .int (x2))]) hx hb dX5_kernel_29 rfl hl (by decide) rfl (fun ls hl => ?_)
      refine lv_iconst (v := 0) hx hb dX5_kernel_30 (by decide) ?_
      refine lv_istore (lv' := [(4, .int (0)), (3, .int (0)), (0, .ref (L (0))), (1, .int (x1)), (2, .int (x2))]) hx hb dX5_kernel_31 hl (by decide) rfl (fun ls hl => ?_)
      obtain ⟨n_, hw⟩ := hw
      refine tX5_kernel_33 F  _ n_ 0 0 σ _ _ _ hC (lv_sub hl [2, 3, 4, 1, 0] rfl) hw ?_
      · intro x3_5 x4_5 σ_5 H locs ls hC hl hw
        refine lv_aload_n hx hb dX5_kernel_68 rfl (lv_at hl 0 rfl) ?_
        refine ss_get (C := RX5) (T := TX5) (N := 16) (ci := 5) (v := .ref (L (2))) F hC (0) u_X5 (Nat.le_of_ble_eq_true rfl) rfl rfl 6 (by decide) f_13 rfl dX5_kernel_69 ?_
        refine lv_iload_n hx hb dX5_kernel_72 rfl (lv_at hl 2 rfl) ?_
        refine lv_iload_n hx hb dX5_kernel_73 rfl (lv_at hl 3 rfl) ?_
        refine ss_iast F hC (2) 0 (Nat.le_of_ble_eq_true rfl) (fun _ => rfl) rfl hw.1 dX5_kernel_74 (fun H locs hC => ?_)
        replace hw := hw.2
        refine lv_iinc (v := x2 + 1) (lv' := [(2, .int (x2 + 1)), (0, .ref (L (0))), (1, .int (x1)), (3, .int (x3_5))]) hx hb dX5_kernel_75 hl (k := 2) rfl rfl (by decide) rfl (fun ls hl => ?_)
        refine lv_goto (tgt := 20) hx hb dX5_kernel_78 (by decide) ?_
        exact ih (x2 + 1) (u2 σ_5 2 (Int32.toNatClampNeg x2) x3_5) _ _ _ hC (lv_sub hl [1, 2, 0] rfl) hw hk81

set_option maxHeartbeats 4000000 in
set_option maxRecDepth 100000 in
theorem bX5_kernel {x1 : Int32} {post : Int32 → ss_S → Prop} (F : ss_F p R s m args meth c (ss_EM D A L wr cI cZ cS) cX5_kernel 5 wsX5_kernel RX5 (some .int) rmX5_kernel)  : ∀ (σ : ss_S) (H : Heap) (locs : List Loc) (ls : Array Slot), ss_C (ss_EM D A L wr cI cZ cS) σ s H locs → lv_has ls 5 [(0, .ref (L (0))), (1, .int (x1))] → wX5_kernel x1 σ post → W p l e R s m args below meth c H locs 0 0 (MQ below (va_Qi post (ss_B (ss_EM D A L wr cI cZ cS)) A) args s 0 0 A) (F0 m 0 ls []) := by
  have hx := F.1.1
  have hb := F.1.2.1
  have u_X5 : ∀ w ∈ u_ws RX5 TX5 16, w ∈ wsX5_kernel := by decide +kernel
  have f_42 : (Cond.fieldLink RX5 42 "SmallSpacesModel" "n" "I").before args s = true := F.1.2.2.2.2 _ (by decide +kernel)
  have f_76 : (Cond.fieldLink RX5 76 "SmallSpacesModel" "worked" "I").before args s = true := F.1.2.2.2.2 _ (by decide +kernel)
  intro σ H locs ls hC hl hw
  unfold wX5_kernel at hw
  refine lv_iload_n hx hb dX5_kernel_0 rfl (lv_at hl 1 rfl) ?_
  refine ss_ki (ss_rS (As := [.int (x1)]) (rest := []) F ((mX5_isSlot l D A L wr cI cZ cS σ x1) _) gX5_kernel_X5_isSlot rfl ⟨rfl, rfl⟩ dvX5_isSlot ⟨Nat.le_of_ble_eq_true rfl, Nat.le_of_ble_eq_true rfl⟩ (ss_preS F.2.2.2.2.1 F.2.2.2.2.2 hC hw) rfl hl.1 rfl (Nat.le_of_ble_eq_true rfl) dX5_kernel_1 ⟨Nat.zero_le _, Nat.zero_le _⟩) hC (fun r2 σ1 H locs hC hw => ?_)
  refine lv_if_ne (tgt := 10) hx hb dX5_kernel_4 (by decide) (fun hc => ?_) (fun hc => ?_)
  · replace hw := hw.1 hc
    refine lv_aload_n hx hb dX5_kernel_10 rfl (lv_at hl 0 rfl) ?_
    refine lv_aload_n hx hb dX5_kernel_11 rfl (lv_at hl 0 rfl) ?_
    refine ss_get (C := RX5) (T := TX5) (N := 16) (ci := 5) (v := .int (σ1 0 1)) F hC (0) u_X5 (Nat.le_of_ble_eq_true rfl) rfl rfl 1 (by decide) f_42 rfl dX5_kernel_12 ?_
    refine ss_put (C := RX5) (T := TX5) (N := 16) (ci := 5) F hC (0) tyX5 tyX5_ok nmX5 u_X5 (Nat.le_of_ble_eq_true rfl) rfl rfl 7 (by decide) f_76 rfl (by decide +kernel) (Nat.le_of_ble_eq_true rfl) rfl dX5_kernel_15 (fun H locs hC => ?_)
    refine lv_iconst (v := 0) hx hb dX5_kernel_18 (by decide) ?_
    refine lv_istore_n (lv' := [(2, .int (0)), (0, .ref (L (0))), (1, .int (x1))]) hx hb dX5_kernel_19 rfl hl (by decide) rfl (fun ls hl => ?_)
    obtain ⟨n_, hw⟩ := hw
    refine tX5_kernel_20 F  _ n_ 0 (u2 σ1 0 7 (σ1 0 1)) _ _ _ hC (lv_sub hl [1, 2, 0] rfl) hw ?_
    · intro x2_6 σ_6 H locs ls hC hl hw
      refine lv_aload_n hx hb dX5_kernel_81 rfl (lv_at hl 0 rfl) ?_
      refine ss_kv (ss_rV (C := RX5) (As := []) (rest := []) F ((mX5_settle l D A L wr cI cZ cS σ_6 ) _) gX5_kernel_X5_settle rfl ⟨rfl, rfl⟩ ⟨rfl, dvX5_settle⟩ ⟨Nat.le_of_ble_eq_true rfl, Nat.le_of_ble_eq_true rfl⟩ (ss_preV F.2.2.2.2.1 F.2.2.2.2.2 hC (ss_rec (C := RX5) (T := TX5) (N := 16) (ci := 5) F.2.2.2.2.1 hC (0) (Nat.le_of_ble_eq_true rfl) rfl rfl) hw) rfl hl.1 rfl (Nat.le_of_ble_eq_true rfl) dX5_kernel_82 ⟨Nat.zero_le _, Nat.zero_le _⟩) hC (fun σ7 H locs hC hw => ?_)
      refine lv_aload_n hx hb dX5_kernel_85 rfl (lv_at hl 0 rfl) ?_
      refine ss_kv (ss_rV (C := RX5) (As := []) (rest := []) F ((mX5_turn l D A L wr cI cZ cS σ7 ) _) gX5_kernel_X5_turn rfl ⟨rfl, rfl⟩ ⟨rfl, dvX5_turn⟩ ⟨Nat.le_of_ble_eq_true rfl, Nat.le_of_ble_eq_true rfl⟩ (ss_preV F.2.2.2.2.1 F.2.2.2.2.2 hC (ss_rec (C := RX5) (T := TX5) (N := 16) (ci := 5) F.2.2.2.2.1 hC (0) (Nat.le_of_ble_eq_true rfl) rfl rfl) hw) rfl hl.1 rfl (Nat.le_of_ble_eq_true rfl) dX5_kernel_86 ⟨Nat.zero_le _, Nat.zero_le _⟩) hC (fun σ8 H locs hC hw => ?_)
      refine lv_aload_n hx hb dX5_kernel_89 rfl (lv_at hl 0 rfl) ?_
      refine lv_iload_n hx hb dX5_kernel_90 rfl (lv_at hl 1 rfl) ?_
      refine ss_ki (ss_rV (C := RX5) (As := [.int (x1)]) (rest := []) F ((mX5_save l D A L wr cI cZ cS σ8 x1) _) gX5_kernel_X5_save rfl ⟨rfl, rfl⟩ ⟨rfl, dvX5_save⟩ ⟨Nat.le_of_ble_eq_true rfl, Nat.le_of_ble_eq_true rfl⟩ (ss_preV F.2.2.2.2.1 F.2.2.2.2.2 hC (ss_rec (C := RX5) (T := TX5) (N := 16) (ci := 5) F.2.2.2.2.1 hC (0) (Nat.le_of_ble_eq_true rfl) rfl rfl) hw) rfl hl.1 rfl (Nat.le_of_ble_eq_true rfl) dX5_kernel_91 ⟨Nat.zero_le _, Nat.zero_le _⟩) hC (fun r10 σ9 H locs hC hw => ?_)
      exact ss_iret F hC hw dX5_kernel_94
  · replace hw := hw.2 hc
    refine lv_bipush (v := -101) hx hb dX5_kernel_7 (by decide) ?_
    exact ss_iret F hC hw dX5_kernel_9

theorem mX5_kernel (l : Launch) (D : va_G) (A : Nat → Prop) (L : Nat → Nat) (wr : va_W) (cI cZ cS : ClassId) (σ : ss_S) (x1 : Int32)  : ss_MI l yX5_kernel wsX5_kernel rmX5_kernel (ss_EM D A L wr cI cZ cS) [.ref (L (0)), .int (x1)] σ (fun post => wX5_kernel x1 σ post) :=
  ss_MI.of (cc := cX5_kernel) (nL := 5) (ret := (some .int)) (own := RX5) (by decide) rfl rfl (Nat.le_of_ble_eq_true rfl) (fun post p e R s m below meth c H locs ls F hC hl hw => bX5_kernel F  σ H locs ls hC hl hw)

set_option maxHeartbeats 4000000 in
set_option maxRecDepth 100000 in
theorem tX5_round_77 {x1 : Int32} {x2 : Int32} {post : Int32 → ss_S → Prop} (F : ss_F p R s m args meth c (ss_EM D A L wr cI cZ cS) cX5_round 5 wsX5_round RX5 (some .int) rmX5_round)  (k124 : Int32 → Int32 → ss_S → Prop) : ∀ (n : Nat) (x3 : Int32) (x4 : Int32) (σ : ss_S) (H : Heap) (locs : List Loc) (ls : Array Slot), ss_C (ss_EM D A L wr cI cZ cS) σ s H locs → lv_has ls 5 [(0, .ref (L (0))), (1, .int (x1)), (2, .int (x2)), (3, .int (x3)), (4, .int (x4))] → lX5_round_77 x1 x2 post k124 n x3 x4 σ →
    (∀ (x3 : Int32) (x4 : Int32) (σ : ss_S) (H : Heap) (locs : List Loc) (ls : Array Slot), ss_C (ss_EM D A L wr cI cZ cS) σ s H locs → lv_has ls 5 [(0, .ref (L (0))), (1, .int (x1)), (2, .int (x2)), (3, .int (x3))] → k124 x3 x4 σ → W p l e R s m args below meth c H locs 0 0 (MQ below (va_Qi post (ss_B (ss_EM D A L wr cI cZ cS)) A) args s 0 0 A) (F0 m 124 ls [])) →
    W p l e R s m args below meth c H locs 0 0 (MQ below (va_Qi post (ss_B (ss_EM D A L wr cI cZ cS)) A) args s 0 0 A) (F0 m 77 ls []) := by
  have hx := F.1.1
  have hb := F.1.2.1
  have u_X5 : ∀ w ∈ u_ws RX5 TX5 16, w ∈ wsX5_round := by decide +kernel
  have f_76 : (Cond.fieldLink RX5 76 "SmallSpacesModel" "worked" "I").before args s = true := F.1.2.2.2.2 _ (by decide +kernel)
  have f_13 : (Cond.fieldLink RX5 13 "SmallSpacesModel" "work" "[I").before args s = true := F.1.2.2.2.2 _ (by decide +kernel)
  have f_23 : (Cond.fieldLink RX5 23 "SmallSpacesModel" "rows" "[I").before args s = true := F.1.2.2.2.2 _ (by decide +kernel)
  intro n
  induction n with
  | zero => intro x3 x4 σ H locs ls hC hl hw; exact hw.elim
  | succ n ih =>
    intro x3 x4 σ H locs ls hC hl hw hk124
    refine lv_iload hx hb dX5_round_77 (lv_at hl 4 rfl) ?_
    refine lv_aload_n hx hb dX5_round_79 rfl (lv_at hl 0 rfl) ?_
    refine ss_get (C := RX5) (T := TX5) (N := 16) (ci := 5) (v := .int (σ 0 7)) F hC (0) u_X5 (Nat.le_of_ble_eq_true rfl) rfl rfl 7 (by decide) f_76 rfl dX5_round_80 ?_
    refine lv_icmp_ge (tgt := 124) hx hb dX5_round_83 (by decide) (fun hc => ?_) (fun hc => ?_)
    · replace hw := hw.1 hc
      exact hk124 x3 x4 σ _ _ _ hC (lv_sub hl [0, 1, 2, 3] rfl) hw
    · replace hw := hw.2 hc
      refine lv_iload_n hx hb dX5_round_86 rfl (lv_at hl 3 rfl) ?_
      refine lv_if_eq (tgt := 124) hx hb dX5_round_87 (by decide) (fun hc => ?_) (fun hc => ?_)
      · replace hw := hw.1 hc
        exact hk124 x3 x4 σ _ _ _ hC (lv_sub hl [0, 1, 2, 3] rfl) hw
      · replace hw := hw.2 hc
        refine lv_aload_n hx hb dX5_round_90 rfl (lv_at hl 0 rfl) ?_
        refine ss_get (C := RX5) (T := TX5) (N := 16) (ci := 5) (v := .ref (L (2))) F hC (0) u_X5 (Nat.le_of_ble_eq_true rfl) rfl rfl 6 (by decide) f_13 rfl dX5_round_91 ?_
        refine lv_iload hx hb dX5_round_94 (lv_at hl 4 rfl) ?_
        refine ss_iald F hC (2) 0 (Nat.le_of_ble_eq_true rfl) (fun _ => rfl) rfl hw.1 dX5_round_96 ?_
        replace hw := hw.2
        refine lv_aload_n hx hb dX5_round_97 rfl (lv_at hl 0 rfl) ?_
        refine ss_get (C := RX5) (T := TX5) (N := 16) (ci := 5) (v := .ref (L (5))) F hC (0) u_X5 (Nat.le_of_ble_eq_true rfl) rfl rfl 10 (by decide) f_23 rfl dX5_round_98 ?_
        refine lv_bipush (v := 6) hx hb dX5_round_101 (by decide) ?_
        refine lv_iload_n hx hb dX5_round_103 rfl (lv_at hl 1 rfl) ?_
        refine lv_imul hx hb dX5_round_104 ?_
        refine lv_iload hx hb dX5_round_105 (lv_at hl 4 rfl) ?_
        refine lv_iadd hx hb dX5_round_107 ?_
        refine ss_iald F hC (5) 0 (Nat.le_of_ble_eq_true rfl) (fun _ => rfl) rfl hw.1 dX5_round_108 ?_
        replace hw := hw.2
        refine lv_icmp_ne (tgt := 116) hx hb dX5_round_109 (by decide) (fun hc => ?_) (fun hc => ?_)
        · replace hw := hw.1 hc
          refine lv_iconst (v := 0) hx hb dX5_round_116 (by decide) ?_
          refine lv_istore_n (lv' := [(3, .int (0)), (0, .ref (L (0))), (1, .int (x1)), (2, .int (x2)), (4, .int (x4))]) hx hb dX5_round_117 rfl hl (by decide) rfl (fun ls hl => ?_)
          refine lv_iinc (v := x4 + 1) (lv' := [(4, .int (x4 + 1)), (3, .int (0)), (0, .ref (L (0))), (1, .int (x1)), (2, .int (x2))]) hx hb dX5_round_118 hl (k := 4) rfl rfl (by decide) rfl (fun ls hl => ?_)
          refine lv_goto (tgt := 77) hx hb dX5_round_121 (by decide) ?_
          exact ih 0 (x4 + 1) σ _ _ _ hC (lv_sub hl [2, 3, 4, 1, 0] rfl) hw hk124
        · replace hw := hw.2 hc
          refine lv_iconst (v := 1) hx hb dX5_round_112 (by decide) ?_
          refine lv_goto (tgt := 117) hx hb dX5_round_113 (by decide) ?_
          refine lv_istore_n (lv' := [(3, .int (1)), (0, .ref (L (0))), (1, .int (x1)), (2, .int (x2)), (4, .int (x4))]) hx hb dX5_round_117 rfl hl (by decide) rfl (fun ls hl => ?_)
          refine lv_iinc (v := x4 + 1) (lv' := [(4, .int (x4 + 1)), (3, .int (1)), (0, .ref (L (0))), (1, .int (x1)), (2, .int (x2))]) hx hb dX5_round_118 hl (k := 4) rfl rfl (by decide) rfl (fun ls hl => ?_)
          refine lv_goto (tgt := 77) hx hb dX5_round_121 (by decide) ?_
          exact ih 1 (x4 + 1) σ _ _ _ hC (lv_sub hl [2, 3, 4, 1, 0] rfl) hw hk124

set_option maxHeartbeats 4000000 in
set_option maxRecDepth 100000 in
theorem tX5_round_44 {x1 : Int32} {post : Int32 → ss_S → Prop} (F : ss_F p R s m args meth c (ss_EM D A L wr cI cZ cS) cX5_round 5 wsX5_round RX5 (some .int) rmX5_round)  (k136 : Int32 → ss_S → Prop) : ∀ (n : Nat) (x2 : Int32) (σ : ss_S) (H : Heap) (locs : List Loc) (ls : Array Slot), ss_C (ss_EM D A L wr cI cZ cS) σ s H locs → lv_has ls 5 [(0, .ref (L (0))), (1, .int (x1)), (2, .int (x2))] → lX5_round_44 x1 post k136 n x2 σ →
    (∀ (x2 : Int32) (σ : ss_S) (H : Heap) (locs : List Loc) (ls : Array Slot), ss_C (ss_EM D A L wr cI cZ cS) σ s H locs → lv_has ls 5 [] → k136 x2 σ → W p l e R s m args below meth c H locs 0 0 (MQ below (va_Qi post (ss_B (ss_EM D A L wr cI cZ cS)) A) args s 0 0 A) (F0 m 136 ls [])) →
    W p l e R s m args below meth c H locs 0 0 (MQ below (va_Qi post (ss_B (ss_EM D A L wr cI cZ cS)) A) args s 0 0 A) (F0 m 44 ls []) := by
  have hx := F.1.1
  have hb := F.1.2.1
  have u_X5 : ∀ w ∈ u_ws RX5 TX5 16, w ∈ wsX5_round := by decide +kernel
  have f_76 : (Cond.fieldLink RX5 76 "SmallSpacesModel" "worked" "I").before args s = true := F.1.2.2.2.2 _ (by decide +kernel)
  have f_20 : (Cond.fieldLink RX5 20 "SmallSpacesModel" "dims" "[I").before args s = true := F.1.2.2.2.2 _ (by decide +kernel)
  intro n
  induction n with
  | zero => intro x2 σ H locs ls hC hl hw; exact hw.elim
  | succ n ih =>
    intro x2 σ H locs ls hC hl hw hk136
    refine lv_iload_n hx hb dX5_round_44 rfl (lv_at hl 2 rfl) ?_
    refine lv_sipush (v := 3000) hx hb dX5_round_45 (by decide) ?_
    refine lv_icmp_gt (tgt := 136) hx hb dX5_round_48 (by decide) (fun hc => ?_) (fun hc => ?_)
    · replace hw := hw.1 hc
      exact hk136 x2 σ _ _ _ hC (lv_sub hl [] rfl) hw
    · replace hw := hw.2 hc
      refine lv_aload_n hx hb dX5_round_51 rfl (lv_at hl 0 rfl) ?_
      refine ss_kv (ss_rV (C := RX5) (As := []) (rest := []) F ((mX5_step l D A L wr cI cZ cS σ ) _) gX5_round_X5_step rfl ⟨rfl, rfl⟩ ⟨rfl, dvX5_step⟩ ⟨Nat.le_of_ble_eq_true rfl, Nat.le_of_ble_eq_true rfl⟩ (ss_preV F.2.2.2.2.1 F.2.2.2.2.2 hC (ss_rec (C := RX5) (T := TX5) (N := 16) (ci := 5) F.2.2.2.2.1 hC (0) (Nat.le_of_ble_eq_true rfl) rfl rfl) hw) rfl hl.1 rfl (Nat.le_of_ble_eq_true rfl) dX5_round_52 ⟨Nat.zero_le _, Nat.zero_le _⟩) hC (fun σ4 H locs hC hw => ?_)
      refine lv_aload_n hx hb dX5_round_55 rfl (lv_at hl 0 rfl) ?_
      refine ss_get (C := RX5) (T := TX5) (N := 16) (ci := 5) (v := .int (σ4 0 7)) F hC (0) u_X5 (Nat.le_of_ble_eq_true rfl) rfl rfl 7 (by decide) f_76 rfl dX5_round_56 ?_
      refine lv_aload_n hx hb dX5_round_59 rfl (lv_at hl 0 rfl) ?_
      refine ss_get (C := RX5) (T := TX5) (N := 16) (ci := 5) (v := .ref (L (4))) F hC (0) u_X5 (Nat.le_of_ble_eq_true rfl) rfl rfl 9 (by decide) f_20 rfl dX5_round_60 ?_
      refine lv_iload_n hx hb dX5_round_63 rfl (lv_at hl 1 rfl) ?_
      refine ss_iald F hC (4) 0 (Nat.le_of_ble_eq_true rfl) (fun _ => rfl) rfl hw.1 dX5_round_64 ?_
      replace hw := hw.2
      refine lv_icmp_ne (tgt := 72) hx hb dX5_round_65 (by decide) (fun hc => ?_) (fun hc => ?_)
      · replace hw := hw.1 hc
        refine lv_iconst (v := 0) hx hb dX5_round_72 (by decide) ?_
        refine lv_istore_n (lv' := [(3, .int (0)), (0, .ref (L (0))), (1, .int (x1)), (2, .int (x2))]) hx hb dX5_round_73 rfl hl (by decide) rfl (fun ls hl => ?_)
        refine lv_iconst (v := 0) hx hb dX5_round_74 (by decide) ?_
        refine lv_istore (lv' := [(4, .int (0)), (3, .int (0)), (0, .ref (L (0))), (1, .int (x1)), (2, .int (x2))]) hx hb dX5_round_75 hl (by decide) rfl (fun ls hl => ?_)
        obtain ⟨n_, hw⟩ := hw
        refine tX5_round_77 F  _ n_ 0 0 σ4 _ _ _ hC (lv_sub hl [2, 3, 4, 1, 0] rfl) hw ?_
        · intro x3_5 x4_5 σ_5 H locs ls hC hl hw
          refine lv_iload_n hx hb dX5_round_124 rfl (lv_at hl 3 rfl) ?_
          refine lv_if_eq (tgt := 130) hx hb dX5_round_125 (by decide) (fun hc => ?_) (fun hc => ?_)
          · replace hw := hw.1 hc
            refine lv_iinc (v := x2 + 1) (lv' := [(2, .int (x2 + 1)), (0, .ref (L (0))), (1, .int (x1)), (3, .int (x3_5))]) hx hb dX5_round_130 hl (k := 2) rfl rfl (by decide) rfl (fun ls hl => ?_)
            refine lv_goto (tgt := 44) hx hb dX5_round_133 (by decide) ?_
            exact ih (x2 + 1) σ_5 _ _ _ hC (lv_sub hl [1, 2, 0] rfl) hw hk136
          · replace hw := hw.2 hc
            refine lv_iload_n hx hb dX5_round_128 rfl (lv_at hl 2 rfl) ?_
            exact ss_iret F hC hw dX5_round_129
      · replace hw := hw.2 hc
        refine lv_iconst (v := 1) hx hb dX5_round_68 (by decide) ?_
        refine lv_goto (tgt := 73) hx hb dX5_round_69 (by decide) ?_
        refine lv_istore_n (lv' := [(3, .int (1)), (0, .ref (L (0))), (1, .int (x1)), (2, .int (x2))]) hx hb dX5_round_73 rfl hl (by decide) rfl (fun ls hl => ?_)
        refine lv_iconst (v := 0) hx hb dX5_round_74 (by decide) ?_
        refine lv_istore (lv' := [(4, .int (0)), (3, .int (1)), (0, .ref (L (0))), (1, .int (x1)), (2, .int (x2))]) hx hb dX5_round_75 hl (by decide) rfl (fun ls hl => ?_)
        obtain ⟨n_, hw⟩ := hw
        refine tX5_round_77 F  _ n_ 1 0 σ4 _ _ _ hC (lv_sub hl [2, 3, 4, 1, 0] rfl) hw ?_
        · intro x3_6 x4_6 σ_6 H locs ls hC hl hw
          refine lv_iload_n hx hb dX5_round_124 rfl (lv_at hl 3 rfl) ?_
          refine lv_if_eq (tgt := 130) hx hb dX5_round_125 (by decide) (fun hc => ?_) (fun hc => ?_)
          · replace hw := hw.1 hc
            refine lv_iinc (v := x2 + 1) (lv' := [(2, .int (x2 + 1)), (0, .ref (L (0))), (1, .int (x1)), (3, .int (x3_6))]) hx hb dX5_round_130 hl (k := 2) rfl rfl (by decide) rfl (fun ls hl => ?_)
            refine lv_goto (tgt := 44) hx hb dX5_round_133 (by decide) ?_
            exact ih (x2 + 1) σ_6 _ _ _ hC (lv_sub hl [1, 2, 0] rfl) hw hk136
          · replace hw := hw.2 hc
            refine lv_iload_n hx hb dX5_round_128 rfl (lv_at hl 2 rfl) ?_
            exact ss_iret F hC hw dX5_round_129

set_option maxHeartbeats 4000000 in
set_option maxRecDepth 100000 in
theorem bX5_round {x1 : Int32} {post : Int32 → ss_S → Prop} (F : ss_F p R s m args meth c (ss_EM D A L wr cI cZ cS) cX5_round 5 wsX5_round RX5 (some .int) rmX5_round)  : ∀ (σ : ss_S) (H : Heap) (locs : List Loc) (ls : Array Slot), ss_C (ss_EM D A L wr cI cZ cS) σ s H locs → lv_has ls 5 [(0, .ref (L (0))), (1, .int (x1))] → wX5_round x1 σ post → W p l e R s m args below meth c H locs 0 0 (MQ below (va_Qi post (ss_B (ss_EM D A L wr cI cZ cS)) A) args s 0 0 A) (F0 m 0 ls []) := by
  have hx := F.1.1
  have hb := F.1.2.1
  have u_X5 : ∀ w ∈ u_ws RX5 TX5 16, w ∈ wsX5_round := by decide +kernel
  have f_148 : (Cond.fieldLink RX5 148 "SmallSpacesModel" "rounds" "I").before args s = true := F.1.2.2.2.2 _ (by decide +kernel)
  have f_76 : (Cond.fieldLink RX5 76 "SmallSpacesModel" "worked" "I").before args s = true := F.1.2.2.2.2 _ (by decide +kernel)
  intro σ H locs ls hC hl hw
  unfold wX5_round at hw
  refine lv_iload_n hx hb dX5_round_0 rfl (lv_at hl 1 rfl) ?_
  refine ss_ki (ss_rS (As := [.int (x1)]) (rest := []) F ((mX5_isSlot l D A L wr cI cZ cS σ x1) _) gX5_round_X5_isSlot rfl ⟨rfl, rfl⟩ dvX5_isSlot ⟨Nat.le_of_ble_eq_true rfl, Nat.le_of_ble_eq_true rfl⟩ (ss_preS F.2.2.2.2.1 F.2.2.2.2.2 hC hw) rfl hl.1 rfl (Nat.le_of_ble_eq_true rfl) dX5_round_1 ⟨Nat.zero_le _, Nat.zero_le _⟩) hC (fun r2 σ1 H locs hC hw => ?_)
  refine lv_if_ne (tgt := 10) hx hb dX5_round_4 (by decide) (fun hc => ?_) (fun hc => ?_)
  · replace hw := hw.1 hc
    refine lv_aload_n hx hb dX5_round_10 rfl (lv_at hl 0 rfl) ?_
    refine ss_get (C := RX5) (T := TX5) (N := 16) (ci := 5) (v := .int (σ1 0 5)) F hC (0) u_X5 (Nat.le_of_ble_eq_true rfl) rfl rfl 5 (by decide) f_148 rfl dX5_round_11 ?_
    refine lv_bipush (v := 60) hx hb dX5_round_14 (by decide) ?_
    refine lv_icmp_ne (tgt := 22) hx hb dX5_round_16 (by decide) (fun hc => ?_) (fun hc => ?_)
    · replace hw := hw.1 hc
      refine lv_aload_n hx hb dX5_round_22 rfl (lv_at hl 0 rfl) ?_
      refine lv_dup hx hb dX5_round_23 rfl ?_
      refine ss_get (C := RX5) (T := TX5) (N := 16) (ci := 5) (v := .int (σ1 0 5)) F hC (0) u_X5 (Nat.le_of_ble_eq_true rfl) rfl rfl 5 (by decide) f_148 rfl dX5_round_24 ?_
      refine lv_iconst (v := 1) hx hb dX5_round_27 (by decide) ?_
      refine lv_iadd hx hb dX5_round_28 ?_
      refine ss_put (C := RX5) (T := TX5) (N := 16) (ci := 5) F hC (0) tyX5 tyX5_ok nmX5 u_X5 (Nat.le_of_ble_eq_true rfl) rfl rfl 5 (by decide) f_148 rfl (by decide +kernel) (Nat.le_of_ble_eq_true rfl) rfl dX5_round_29 (fun H locs hC => ?_)
      refine lv_aload_n hx hb dX5_round_32 rfl (lv_at hl 0 rfl) ?_
      refine lv_iconst (v := 0) hx hb dX5_round_33 (by decide) ?_
      refine ss_put (C := RX5) (T := TX5) (N := 16) (ci := 5) F hC (0) tyX5 tyX5_ok nmX5 u_X5 (Nat.le_of_ble_eq_true rfl) rfl rfl 7 (by decide) f_76 rfl (by decide +kernel) (Nat.le_of_ble_eq_true rfl) rfl dX5_round_34 (fun H locs hC => ?_)
      refine lv_aload_n hx hb dX5_round_37 rfl (lv_at hl 0 rfl) ?_
      refine lv_iload_n hx hb dX5_round_38 rfl (lv_at hl 1 rfl) ?_
      refine ss_kv (ss_rV (C := RX5) (As := [.int (x1)]) (rest := []) F ((mX5_load l D A L wr cI cZ cS (u2 (u2 σ1 0 5 ((σ1 0 5) + 1)) 0 7 0) x1) _) gX5_round_X5_load rfl ⟨rfl, rfl⟩ ⟨rfl, dvX5_load⟩ ⟨Nat.le_of_ble_eq_true rfl, Nat.le_of_ble_eq_true rfl⟩ (ss_preV F.2.2.2.2.1 F.2.2.2.2.2 hC (ss_rec (C := RX5) (T := TX5) (N := 16) (ci := 5) F.2.2.2.2.1 hC (0) (Nat.le_of_ble_eq_true rfl) rfl rfl) hw) rfl hl.1 rfl (Nat.le_of_ble_eq_true rfl) dX5_round_39 ⟨Nat.zero_le _, Nat.zero_le _⟩) hC (fun σ3 H locs hC hw => ?_)
      refine lv_iconst (v := 1) hx hb dX5_round_42 (by decide) ?_
      refine lv_istore_n (lv' := [(2, .int (1)), (0, .ref (L (0))), (1, .int (x1))]) hx hb dX5_round_43 rfl hl (by decide) rfl (fun ls hl => ?_)
      obtain ⟨n_, hw⟩ := hw
      refine tX5_round_44 F  _ n_ 1 σ3 _ _ _ hC (lv_sub hl [1, 2, 0] rfl) hw ?_
      · intro x2_7 σ_7 H locs ls hC hl hw
        refine lv_iconst (v := -1) hx hb dX5_round_136 (by decide) ?_
        exact ss_iret F hC hw dX5_round_137
    · replace hw := hw.2 hc
      refine lv_bipush (v := -103) hx hb dX5_round_19 (by decide) ?_
      exact ss_iret F hC hw dX5_round_21
  · replace hw := hw.2 hc
    refine lv_bipush (v := -101) hx hb dX5_round_7 (by decide) ?_
    exact ss_iret F hC hw dX5_round_9

theorem mX5_round (l : Launch) (D : va_G) (A : Nat → Prop) (L : Nat → Nat) (wr : va_W) (cI cZ cS : ClassId) (σ : ss_S) (x1 : Int32)  : ss_MI l yX5_round wsX5_round rmX5_round (ss_EM D A L wr cI cZ cS) [.ref (L (0)), .int (x1)] σ (fun post => wX5_round x1 σ post) :=
  ss_MI.of (cc := cX5_round) (nL := 5) (ret := (some .int)) (own := RX5) (by decide) rfl rfl (Nat.le_of_ble_eq_true rfl) (fun post p e R s m below meth c H locs ls F hC hl hw => bX5_round F  σ H locs ls hC hl hw)

set_option maxHeartbeats 4000000 in
set_option maxRecDepth 100000 in
theorem bX5_told {x1 : Int32} {post : Int32 → ss_S → Prop} (F : ss_F p R s m args meth c (ss_EM D A L wr cI cZ cS) cX5_told 2 wsX5_told RX5 (some .int) rmX5_told)  : ∀ (σ : ss_S) (H : Heap) (locs : List Loc) (ls : Array Slot), ss_C (ss_EM D A L wr cI cZ cS) σ s H locs → lv_has ls 2 [(0, .ref (L (0))), (1, .int (x1))] → wX5_told x1 σ post → W p l e R s m args below meth c H locs 0 0 (MQ below (va_Qi post (ss_B (ss_EM D A L wr cI cZ cS)) A) args s 0 0 A) (F0 m 0 ls []) := by
  have hx := F.1.1
  have hb := F.1.2.1
  have u_X5 : ∀ w ∈ u_ws RX5 TX5 16, w ∈ wsX5_told := by decide +kernel
  have f_38 : (Cond.fieldLink RX5 38 "SmallSpacesModel" "q" "I").before args s = true := F.1.2.2.2.2 _ (by decide +kernel)
  have f_42 : (Cond.fieldLink RX5 42 "SmallSpacesModel" "n" "I").before args s = true := F.1.2.2.2.2 _ (by decide +kernel)
  have f_52 : (Cond.fieldLink RX5 52 "SmallSpacesModel" "vectors" "I").before args s = true := F.1.2.2.2.2 _ (by decide +kernel)
  have f_55 : (Cond.fieldLink RX5 55 "SmallSpacesModel" "heapMany" "I").before args s = true := F.1.2.2.2.2 _ (by decide +kernel)
  have f_139 : (Cond.fieldLink RX5 139 "SmallSpacesModel" "greedies" "I").before args s = true := F.1.2.2.2.2 _ (by decide +kernel)
  have f_148 : (Cond.fieldLink RX5 148 "SmallSpacesModel" "rounds" "I").before args s = true := F.1.2.2.2.2 _ (by decide +kernel)
  intro σ H locs ls hC hl hw
  unfold wX5_told at hw
  refine lv_iload_n hx hb dX5_told_0 rfl (lv_at hl 1 rfl) ?_
  by_cases hs0 : x1 = 0
  · replace hw := hw.1 hs0
    refine lv_tableIn (tgt := 40) hx hb dX5_told_1 (by rw [hs0]; decide) (by rw [hs0]; decide) (by rw [hs0]; rfl) (by decide) ?_
    refine lv_aload_n hx hb dX5_told_40 rfl (lv_at hl 0 rfl) ?_
    refine ss_get (C := RX5) (T := TX5) (N := 16) (ci := 5) (v := .int (σ 0 0)) F hC (0) u_X5 (Nat.le_of_ble_eq_true rfl) rfl rfl 0 (by decide) f_38 rfl dX5_told_41 ?_
    exact ss_iret F hC hw dX5_told_44
  replace hw := hw.2 hs0
  by_cases hs1 : x1 = 1
  · replace hw := hw.1 hs1
    refine lv_tableIn (tgt := 45) hx hb dX5_told_1 (by rw [hs1]; decide) (by rw [hs1]; decide) (by rw [hs1]; rfl) (by decide) ?_
    refine lv_aload_n hx hb dX5_told_45 rfl (lv_at hl 0 rfl) ?_
    refine ss_get (C := RX5) (T := TX5) (N := 16) (ci := 5) (v := .int (σ 0 1)) F hC (0) u_X5 (Nat.le_of_ble_eq_true rfl) rfl rfl 1 (by decide) f_42 rfl dX5_told_46 ?_
    exact ss_iret F hC hw dX5_told_49
  replace hw := hw.2 hs1
  by_cases hs2 : x1 = 2
  · replace hw := hw.1 hs2
    refine lv_tableIn (tgt := 50) hx hb dX5_told_1 (by rw [hs2]; decide) (by rw [hs2]; decide) (by rw [hs2]; rfl) (by decide) ?_
    refine lv_aload_n hx hb dX5_told_50 rfl (lv_at hl 0 rfl) ?_
    refine ss_get (C := RX5) (T := TX5) (N := 16) (ci := 5) (v := .int (σ 0 2)) F hC (0) u_X5 (Nat.le_of_ble_eq_true rfl) rfl rfl 2 (by decide) f_52 rfl dX5_told_51 ?_
    exact ss_iret F hC hw dX5_told_54
  replace hw := hw.2 hs2
  by_cases hs3 : x1 = 3
  · replace hw := hw.1 hs3
    refine lv_tableIn (tgt := 55) hx hb dX5_told_1 (by rw [hs3]; decide) (by rw [hs3]; decide) (by rw [hs3]; rfl) (by decide) ?_
    refine lv_aload_n hx hb dX5_told_55 rfl (lv_at hl 0 rfl) ?_
    refine ss_get (C := RX5) (T := TX5) (N := 16) (ci := 5) (v := .int (σ 0 13)) F hC (0) u_X5 (Nat.le_of_ble_eq_true rfl) rfl rfl 13 (by decide) f_55 rfl dX5_told_56 ?_
    exact ss_iret F hC hw dX5_told_59
  replace hw := hw.2 hs3
  by_cases hs4 : x1 = 4
  · replace hw := hw.1 hs4
    refine lv_tableIn (tgt := 60) hx hb dX5_told_1 (by rw [hs4]; decide) (by rw [hs4]; decide) (by rw [hs4]; rfl) (by decide) ?_
    refine lv_aload_n hx hb dX5_told_60 rfl (lv_at hl 0 rfl) ?_
    refine ss_get (C := RX5) (T := TX5) (N := 16) (ci := 5) (v := .int (σ 0 4)) F hC (0) u_X5 (Nat.le_of_ble_eq_true rfl) rfl rfl 4 (by decide) f_139 rfl dX5_told_61 ?_
    exact ss_iret F hC hw dX5_told_64
  replace hw := hw.2 hs4
  by_cases hs5 : x1 = 5
  · replace hw := hw.1 hs5
    refine lv_tableIn (tgt := 65) hx hb dX5_told_1 (by rw [hs5]; decide) (by rw [hs5]; decide) (by rw [hs5]; rfl) (by decide) ?_
    refine lv_aload_n hx hb dX5_told_65 rfl (lv_at hl 0 rfl) ?_
    refine ss_get (C := RX5) (T := TX5) (N := 16) (ci := 5) (v := .int (σ 0 5)) F hC (0) u_X5 (Nat.le_of_ble_eq_true rfl) rfl rfl 5 (by decide) f_148 rfl dX5_told_66 ?_
    exact ss_iret F hC hw dX5_told_69
  replace hw := hw.2 hs5
  refine lv_tableOut (tgt := 70) hx hb dX5_told_1 (ss_swOut 0 5 (by decide) (by decide) (fun k h1 h2 => by rcases (show k = 0 ∨ k = 1 ∨ k = 2 ∨ k = 3 ∨ k = 4 ∨ k = 5 by omega) with rfl | rfl | rfl | rfl | rfl | rfl <;> assumption)) (by decide) ?_
  refine lv_bipush (v := -102) hx hb dX5_told_70 (by decide) ?_
  exact ss_iret F hC hw dX5_told_72

theorem mX5_told (l : Launch) (D : va_G) (A : Nat → Prop) (L : Nat → Nat) (wr : va_W) (cI cZ cS : ClassId) (σ : ss_S) (x1 : Int32)  : ss_MI l yX5_told wsX5_told rmX5_told (ss_EM D A L wr cI cZ cS) [.ref (L (0)), .int (x1)] σ (fun post => wX5_told x1 σ post) :=
  ss_MI.of (cc := cX5_told) (nL := 2) (ret := (some .int)) (own := RX5) (by decide) rfl rfl (Nat.le_of_ble_eq_true rfl) (fun post p e R s m below meth c H locs ls F hC hl hw => bX5_told F  σ H locs ls hC hl hw)

set_option maxHeartbeats 4000000 in
set_option maxRecDepth 100000 in
theorem tX5_digest_53 {x3 : Int32} {post : Int64 → ss_S → Prop} (F : ss_F p R s m args meth c (ss_EM D A L wr cI cZ cS) cX5_digest 5 wsX5_digest RX5 (some .long) rmX5_digest)  (k90 : Int64 → Int32 → ss_S → Prop) : ∀ (n : Nat) (x1 : Int64) (x4 : Int32) (σ : ss_S) (H : Heap) (locs : List Loc) (ls : Array Slot), ss_C (ss_EM D A L wr cI cZ cS) σ s H locs → lv_has ls 5 [(0, .ref (L (0))), (1, .long (x1)), (3, .int (x3)), (4, .int (x4))] → lX5_digest_53 x3 post k90 n x1 x4 σ →
    (∀ (x1 : Int64) (x4 : Int32) (σ : ss_S) (H : Heap) (locs : List Loc) (ls : Array Slot), ss_C (ss_EM D A L wr cI cZ cS) σ s H locs → lv_has ls 5 [(0, .ref (L (0))), (1, .long (x1)), (3, .int (x3))] → k90 x1 x4 σ → W p l e R s m args below meth c H locs 0 0 (MQ below (va_Ql post (ss_B (ss_EM D A L wr cI cZ cS)) A) args s 0 0 A) (F0 m 90 ls [])) →
    W p l e R s m args below meth c H locs 0 0 (MQ below (va_Ql post (ss_B (ss_EM D A L wr cI cZ cS)) A) args s 0 0 A) (F0 m 53 ls []) := by
  have hx := F.1.1
  have hb := F.1.2.1
  have u_X5 : ∀ w ∈ u_ws RX5 TX5 16, w ∈ wsX5_digest := by decide +kernel
  have f_20 : (Cond.fieldLink RX5 20 "SmallSpacesModel" "dims" "[I").before args s = true := F.1.2.2.2.2 _ (by decide +kernel)
  have f_23 : (Cond.fieldLink RX5 23 "SmallSpacesModel" "rows" "[I").before args s = true := F.1.2.2.2.2 _ (by decide +kernel)
  intro n
  induction n with
  | zero => intro x1 x4 σ H locs ls hC hl hw; exact hw.elim
  | succ n ih =>
    intro x1 x4 σ H locs ls hC hl hw hk90
    refine lv_iload hx hb dX5_digest_53 (lv_at hl 3 rfl) ?_
    refine lv_aload_n hx hb dX5_digest_55 rfl (lv_at hl 0 rfl) ?_
    refine ss_get (C := RX5) (T := TX5) (N := 16) (ci := 5) (v := .ref (L (4))) F hC (0) u_X5 (Nat.le_of_ble_eq_true rfl) rfl rfl 9 (by decide) f_20 rfl dX5_digest_56 ?_
    refine lv_iload_n hx hb dX5_digest_59 rfl (lv_at hl 2 rfl) ?_
    refine ss_iald F hC (4) 0 (Nat.le_of_ble_eq_true rfl) (fun _ => rfl) rfl hw.1 dX5_digest_60 ?_
    replace hw := hw.2
    refine lv_icmp_ge (tgt := 90) hx hb dX5_digest_61 (by decide) (fun hc => ?_) (fun hc => ?_)
    · replace hw := hw.1 hc
      exact hk90 x1 x4 σ _ _ _ hC (lv_sub hl [0, 1, 2] rfl) hw
    · replace hw := hw.2 hc
      refine lv_ldc2 (v := 31) hx hb F.1.2.2.2.1 (F.1.2.2.2.2 (.constantLong RX5 153 (31)) (by decide +kernel)) dX5_digest_64 ?_
      refine lv_lload_n hx hb dX5_digest_67 rfl (lv_at hl 1 rfl) ?_
      refine lv_lmul hx hb dX5_digest_68 ?_
      refine lv_aload_n hx hb dX5_digest_69 rfl (lv_at hl 0 rfl) ?_
      refine ss_get (C := RX5) (T := TX5) (N := 16) (ci := 5) (v := .ref (L (5))) F hC (0) u_X5 (Nat.le_of_ble_eq_true rfl) rfl rfl 10 (by decide) f_23 rfl dX5_digest_70 ?_
      refine lv_bipush (v := 6) hx hb dX5_digest_73 (by decide) ?_
      refine lv_iload_n hx hb dX5_digest_75 rfl (lv_at hl 2 rfl) ?_
      refine lv_imul hx hb dX5_digest_76 ?_
      refine lv_iload hx hb dX5_digest_77 (lv_at hl 3 rfl) ?_
      refine lv_iadd hx hb dX5_digest_79 ?_
      refine ss_iald F hC (5) 0 (Nat.le_of_ble_eq_true rfl) (fun _ => rfl) rfl hw.1 dX5_digest_80 ?_
      replace hw := hw.2
      refine lv_i2l hx hb dX5_digest_81 rfl ?_
      refine lv_ladd hx hb dX5_digest_82 ?_
      refine lv_lstore_n (lv' := [(1, .long ((31 * x1) + (Int32.toInt64 (σ 5 (Int32.toNatClampNeg ((6 * x3) + x4)))))), (0, .ref (L (0))), (3, .int (x3)), (4, .int (x4))]) hx hb dX5_digest_83 rfl hl (by decide) rfl (fun ls hl => ?_)
      refine lv_iinc (v := x4 + 1) (lv' := [(4, .int (x4 + 1)), (1, .long ((31 * x1) + (Int32.toInt64 (σ 5 (Int32.toNatClampNeg ((6 * x3) + x4)))))), (0, .ref (L (0))), (3, .int (x3))]) hx hb dX5_digest_84 hl (k := 3) rfl rfl (by decide) rfl (fun ls hl => ?_)
      refine lv_goto (tgt := 53) hx hb dX5_digest_87 (by decide) ?_
      exact ih ((31 * x1) + (Int32.toInt64 (σ 5 (Int32.toNatClampNeg ((6 * x3) + x4))))) (x4 + 1) σ _ _ _ hC (lv_sub hl [2, 1, 3, 0] rfl) hw hk90

set_option maxHeartbeats 4000000 in
set_option maxRecDepth 100000 in
theorem tX5_digest_30  {post : Int64 → ss_S → Prop} (F : ss_F p R s m args meth c (ss_EM D A L wr cI cZ cS) cX5_digest 5 wsX5_digest RX5 (some .long) rmX5_digest)  (k96 : Int64 → Int32 → ss_S → Prop) : ∀ (n : Nat) (x1 : Int64) (x3 : Int32) (σ : ss_S) (H : Heap) (locs : List Loc) (ls : Array Slot), ss_C (ss_EM D A L wr cI cZ cS) σ s H locs → lv_has ls 5 [(0, .ref (L (0))), (1, .long (x1)), (3, .int (x3))] → lX5_digest_30 post k96 n x1 x3 σ →
    (∀ (x1 : Int64) (x3 : Int32) (σ : ss_S) (H : Heap) (locs : List Loc) (ls : Array Slot), ss_C (ss_EM D A L wr cI cZ cS) σ s H locs → lv_has ls 5 [(0, .ref (L (0))), (1, .long (x1))] → k96 x1 x3 σ → W p l e R s m args below meth c H locs 0 0 (MQ below (va_Ql post (ss_B (ss_EM D A L wr cI cZ cS)) A) args s 0 0 A) (F0 m 96 ls [])) →
    W p l e R s m args below meth c H locs 0 0 (MQ below (va_Ql post (ss_B (ss_EM D A L wr cI cZ cS)) A) args s 0 0 A) (F0 m 30 ls []) := by
  have hx := F.1.1
  have hb := F.1.2.1
  have u_X5 : ∀ w ∈ u_ws RX5 TX5 16, w ∈ wsX5_digest := by decide +kernel
  have f_20 : (Cond.fieldLink RX5 20 "SmallSpacesModel" "dims" "[I").before args s = true := F.1.2.2.2.2 _ (by decide +kernel)
  intro n
  induction n with
  | zero => intro x1 x3 σ H locs ls hC hl hw; exact hw.elim
  | succ n ih =>
    intro x1 x3 σ H locs ls hC hl hw hk96
    refine lv_iload_n hx hb dX5_digest_30 rfl (lv_at hl 2 rfl) ?_
    refine lv_bipush (v := 12) hx hb dX5_digest_31 (by decide) ?_
    refine lv_icmp_ge (tgt := 96) hx hb dX5_digest_33 (by decide) (fun hc => ?_) (fun hc => ?_)
    · replace hw := hw.1 hc
      exact hk96 x1 x3 σ _ _ _ hC (lv_sub hl [0, 1] rfl) hw
    · replace hw := hw.2 hc
      refine lv_ldc2 (v := 31) hx hb F.1.2.2.2.1 (F.1.2.2.2.2 (.constantLong RX5 153 (31)) (by decide +kernel)) dX5_digest_36 ?_
      refine lv_lload_n hx hb dX5_digest_39 rfl (lv_at hl 1 rfl) ?_
      refine lv_lmul hx hb dX5_digest_40 ?_
      refine lv_aload_n hx hb dX5_digest_41 rfl (lv_at hl 0 rfl) ?_
      refine ss_get (C := RX5) (T := TX5) (N := 16) (ci := 5) (v := .ref (L (4))) F hC (0) u_X5 (Nat.le_of_ble_eq_true rfl) rfl rfl 9 (by decide) f_20 rfl dX5_digest_42 ?_
      refine lv_iload_n hx hb dX5_digest_45 rfl (lv_at hl 2 rfl) ?_
      refine ss_iald F hC (4) 0 (Nat.le_of_ble_eq_true rfl) (fun _ => rfl) rfl hw.1 dX5_digest_46 ?_
      replace hw := hw.2
      refine lv_i2l hx hb dX5_digest_47 rfl ?_
      refine lv_ladd hx hb dX5_digest_48 ?_
      refine lv_lstore_n (lv' := [(1, .long ((31 * x1) + (Int32.toInt64 (σ 4 (Int32.toNatClampNeg x3))))), (0, .ref (L (0))), (3, .int (x3))]) hx hb dX5_digest_49 rfl hl (by decide) rfl (fun ls hl => ?_)
      refine lv_iconst (v := 0) hx hb dX5_digest_50 (by decide) ?_
      refine lv_istore (lv' := [(4, .int (0)), (1, .long ((31 * x1) + (Int32.toInt64 (σ 4 (Int32.toNatClampNeg x3))))), (0, .ref (L (0))), (3, .int (x3))]) hx hb dX5_digest_51 hl (by decide) rfl (fun ls hl => ?_)
      obtain ⟨n_, hw⟩ := hw
      refine tX5_digest_53 F  _ n_ ((31 * x1) + (Int32.toInt64 (σ 4 (Int32.toNatClampNeg x3)))) 0 σ _ _ _ hC (lv_sub hl [2, 1, 3, 0] rfl) hw ?_
      · intro x1_1 x4_1 σ_1 H locs ls hC hl hw
        refine lv_iinc (v := x3 + 1) (lv' := [(3, .int (x3 + 1)), (0, .ref (L (0))), (1, .long (x1_1))]) hx hb dX5_digest_90 hl (k := 2) rfl rfl (by decide) rfl (fun ls hl => ?_)
        refine lv_goto (tgt := 30) hx hb dX5_digest_93 (by decide) ?_
        exact ih x1_1 (x3 + 1) σ_1 _ _ _ hC (lv_sub hl [1, 2, 0] rfl) hw hk96

set_option maxHeartbeats 4000000 in
set_option maxRecDepth 100000 in
theorem tX5_digest_123 {x3 : Int32} {post : Int64 → ss_S → Prop} (F : ss_F p R s m args meth c (ss_EM D A L wr cI cZ cS) cX5_digest 5 wsX5_digest RX5 (some .long) rmX5_digest)  (k160 : Int64 → Int32 → ss_S → Prop) : ∀ (n : Nat) (x1 : Int64) (x4 : Int32) (σ : ss_S) (H : Heap) (locs : List Loc) (ls : Array Slot), ss_C (ss_EM D A L wr cI cZ cS) σ s H locs → lv_has ls 5 [(0, .ref (L (0))), (1, .long (x1)), (3, .int (x3)), (4, .int (x4))] → lX5_digest_123 x3 post k160 n x1 x4 σ →
    (∀ (x1 : Int64) (x4 : Int32) (σ : ss_S) (H : Heap) (locs : List Loc) (ls : Array Slot), ss_C (ss_EM D A L wr cI cZ cS) σ s H locs → lv_has ls 5 [(0, .ref (L (0))), (1, .long (x1)), (3, .int (x3))] → k160 x1 x4 σ → W p l e R s m args below meth c H locs 0 0 (MQ below (va_Ql post (ss_B (ss_EM D A L wr cI cZ cS)) A) args s 0 0 A) (F0 m 160 ls [])) →
    W p l e R s m args below meth c H locs 0 0 (MQ below (va_Ql post (ss_B (ss_EM D A L wr cI cZ cS)) A) args s 0 0 A) (F0 m 123 ls []) := by
  have hx := F.1.1
  have hb := F.1.2.1
  have u_X5 : ∀ w ∈ u_ws RX5 TX5 16, w ∈ wsX5_digest := by decide +kernel
  have f_32 : (Cond.fieldLink RX5 32 "SmallSpacesModel" "heapDims" "[I").before args s = true := F.1.2.2.2.2 _ (by decide +kernel)
  have f_35 : (Cond.fieldLink RX5 35 "SmallSpacesModel" "heapRows" "[I").before args s = true := F.1.2.2.2.2 _ (by decide +kernel)
  intro n
  induction n with
  | zero => intro x1 x4 σ H locs ls hC hl hw; exact hw.elim
  | succ n ih =>
    intro x1 x4 σ H locs ls hC hl hw hk160
    refine lv_iload hx hb dX5_digest_123 (lv_at hl 3 rfl) ?_
    refine lv_aload_n hx hb dX5_digest_125 rfl (lv_at hl 0 rfl) ?_
    refine ss_get (C := RX5) (T := TX5) (N := 16) (ci := 5) (v := .ref (L (8))) F hC (0) u_X5 (Nat.le_of_ble_eq_true rfl) rfl rfl 14 (by decide) f_32 rfl dX5_digest_126 ?_
    refine lv_iload_n hx hb dX5_digest_129 rfl (lv_at hl 2 rfl) ?_
    refine ss_iald F hC (8) 0 (Nat.le_of_ble_eq_true rfl) (fun _ => rfl) rfl hw.1 dX5_digest_130 ?_
    replace hw := hw.2
    refine lv_icmp_ge (tgt := 160) hx hb dX5_digest_131 (by decide) (fun hc => ?_) (fun hc => ?_)
    · replace hw := hw.1 hc
      exact hk160 x1 x4 σ _ _ _ hC (lv_sub hl [0, 1, 2] rfl) hw
    · replace hw := hw.2 hc
      refine lv_ldc2 (v := 31) hx hb F.1.2.2.2.1 (F.1.2.2.2.2 (.constantLong RX5 153 (31)) (by decide +kernel)) dX5_digest_134 ?_
      refine lv_lload_n hx hb dX5_digest_137 rfl (lv_at hl 1 rfl) ?_
      refine lv_lmul hx hb dX5_digest_138 ?_
      refine lv_aload_n hx hb dX5_digest_139 rfl (lv_at hl 0 rfl) ?_
      refine ss_get (C := RX5) (T := TX5) (N := 16) (ci := 5) (v := .ref (L (9))) F hC (0) u_X5 (Nat.le_of_ble_eq_true rfl) rfl rfl 15 (by decide) f_35 rfl dX5_digest_140 ?_
      refine lv_bipush (v := 6) hx hb dX5_digest_143 (by decide) ?_
      refine lv_iload_n hx hb dX5_digest_145 rfl (lv_at hl 2 rfl) ?_
      refine lv_imul hx hb dX5_digest_146 ?_
      refine lv_iload hx hb dX5_digest_147 (lv_at hl 3 rfl) ?_
      refine lv_iadd hx hb dX5_digest_149 ?_
      refine ss_iald F hC (9) 0 (Nat.le_of_ble_eq_true rfl) (fun _ => rfl) rfl hw.1 dX5_digest_150 ?_
      replace hw := hw.2
      refine lv_i2l hx hb dX5_digest_151 rfl ?_
      refine lv_ladd hx hb dX5_digest_152 ?_
      refine lv_lstore_n (lv' := [(1, .long ((31 * x1) + (Int32.toInt64 (σ 9 (Int32.toNatClampNeg ((6 * x3) + x4)))))), (0, .ref (L (0))), (3, .int (x3)), (4, .int (x4))]) hx hb dX5_digest_153 rfl hl (by decide) rfl (fun ls hl => ?_)
      refine lv_iinc (v := x4 + 1) (lv' := [(4, .int (x4 + 1)), (1, .long ((31 * x1) + (Int32.toInt64 (σ 9 (Int32.toNatClampNeg ((6 * x3) + x4)))))), (0, .ref (L (0))), (3, .int (x3))]) hx hb dX5_digest_154 hl (k := 3) rfl rfl (by decide) rfl (fun ls hl => ?_)
      refine lv_goto (tgt := 123) hx hb dX5_digest_157 (by decide) ?_
      exact ih ((31 * x1) + (Int32.toInt64 (σ 9 (Int32.toNatClampNeg ((6 * x3) + x4))))) (x4 + 1) σ _ _ _ hC (lv_sub hl [2, 1, 3, 0] rfl) hw hk160

set_option maxHeartbeats 4000000 in
set_option maxRecDepth 100000 in
theorem tX5_digest_98  {post : Int64 → ss_S → Prop} (F : ss_F p R s m args meth c (ss_EM D A L wr cI cZ cS) cX5_digest 5 wsX5_digest RX5 (some .long) rmX5_digest)  (k166 : Int64 → Int32 → ss_S → Prop) : ∀ (n : Nat) (x1 : Int64) (x3 : Int32) (σ : ss_S) (H : Heap) (locs : List Loc) (ls : Array Slot), ss_C (ss_EM D A L wr cI cZ cS) σ s H locs → lv_has ls 5 [(0, .ref (L (0))), (1, .long (x1)), (3, .int (x3))] → lX5_digest_98 post k166 n x1 x3 σ →
    (∀ (x1 : Int64) (x3 : Int32) (σ : ss_S) (H : Heap) (locs : List Loc) (ls : Array Slot), ss_C (ss_EM D A L wr cI cZ cS) σ s H locs → lv_has ls 5 [(0, .ref (L (0))), (1, .long (x1))] → k166 x1 x3 σ → W p l e R s m args below meth c H locs 0 0 (MQ below (va_Ql post (ss_B (ss_EM D A L wr cI cZ cS)) A) args s 0 0 A) (F0 m 166 ls [])) →
    W p l e R s m args below meth c H locs 0 0 (MQ below (va_Ql post (ss_B (ss_EM D A L wr cI cZ cS)) A) args s 0 0 A) (F0 m 98 ls []) := by
  have hx := F.1.1
  have hb := F.1.2.1
  have u_X5 : ∀ w ∈ u_ws RX5 TX5 16, w ∈ wsX5_digest := by decide +kernel
  have f_55 : (Cond.fieldLink RX5 55 "SmallSpacesModel" "heapMany" "I").before args s = true := F.1.2.2.2.2 _ (by decide +kernel)
  have f_32 : (Cond.fieldLink RX5 32 "SmallSpacesModel" "heapDims" "[I").before args s = true := F.1.2.2.2.2 _ (by decide +kernel)
  intro n
  induction n with
  | zero => intro x1 x3 σ H locs ls hC hl hw; exact hw.elim
  | succ n ih =>
    intro x1 x3 σ H locs ls hC hl hw hk166
    refine lv_iload_n hx hb dX5_digest_98 rfl (lv_at hl 2 rfl) ?_
    refine lv_aload_n hx hb dX5_digest_99 rfl (lv_at hl 0 rfl) ?_
    refine ss_get (C := RX5) (T := TX5) (N := 16) (ci := 5) (v := .int (σ 0 13)) F hC (0) u_X5 (Nat.le_of_ble_eq_true rfl) rfl rfl 13 (by decide) f_55 rfl dX5_digest_100 ?_
    refine lv_icmp_ge (tgt := 166) hx hb dX5_digest_103 (by decide) (fun hc => ?_) (fun hc => ?_)
    · replace hw := hw.1 hc
      exact hk166 x1 x3 σ _ _ _ hC (lv_sub hl [0, 1] rfl) hw
    · replace hw := hw.2 hc
      refine lv_ldc2 (v := 31) hx hb F.1.2.2.2.1 (F.1.2.2.2.2 (.constantLong RX5 153 (31)) (by decide +kernel)) dX5_digest_106 ?_
      refine lv_lload_n hx hb dX5_digest_109 rfl (lv_at hl 1 rfl) ?_
      refine lv_lmul hx hb dX5_digest_110 ?_
      refine lv_aload_n hx hb dX5_digest_111 rfl (lv_at hl 0 rfl) ?_
      refine ss_get (C := RX5) (T := TX5) (N := 16) (ci := 5) (v := .ref (L (8))) F hC (0) u_X5 (Nat.le_of_ble_eq_true rfl) rfl rfl 14 (by decide) f_32 rfl dX5_digest_112 ?_
      refine lv_iload_n hx hb dX5_digest_115 rfl (lv_at hl 2 rfl) ?_
      refine ss_iald F hC (8) 0 (Nat.le_of_ble_eq_true rfl) (fun _ => rfl) rfl hw.1 dX5_digest_116 ?_
      replace hw := hw.2
      refine lv_i2l hx hb dX5_digest_117 rfl ?_
      refine lv_ladd hx hb dX5_digest_118 ?_
      refine lv_lstore_n (lv' := [(1, .long ((31 * x1) + (Int32.toInt64 (σ 8 (Int32.toNatClampNeg x3))))), (0, .ref (L (0))), (3, .int (x3))]) hx hb dX5_digest_119 rfl hl (by decide) rfl (fun ls hl => ?_)
      refine lv_iconst (v := 0) hx hb dX5_digest_120 (by decide) ?_
      refine lv_istore (lv' := [(4, .int (0)), (1, .long ((31 * x1) + (Int32.toInt64 (σ 8 (Int32.toNatClampNeg x3))))), (0, .ref (L (0))), (3, .int (x3))]) hx hb dX5_digest_121 hl (by decide) rfl (fun ls hl => ?_)
      obtain ⟨n_, hw⟩ := hw
      refine tX5_digest_123 F  _ n_ ((31 * x1) + (Int32.toInt64 (σ 8 (Int32.toNatClampNeg x3)))) 0 σ _ _ _ hC (lv_sub hl [2, 1, 3, 0] rfl) hw ?_
      · intro x1_3 x4_3 σ_3 H locs ls hC hl hw
        refine lv_iinc (v := x3 + 1) (lv' := [(3, .int (x3 + 1)), (0, .ref (L (0))), (1, .long (x1_3))]) hx hb dX5_digest_160 hl (k := 2) rfl rfl (by decide) rfl (fun ls hl => ?_)
        refine lv_goto (tgt := 98) hx hb dX5_digest_163 (by decide) ?_
        exact ih x1_3 (x3 + 1) σ_3 _ _ _ hC (lv_sub hl [1, 2, 0] rfl) hw hk166

set_option maxHeartbeats 4000000 in
set_option maxRecDepth 100000 in
theorem tX5_digest_168  {post : Int64 → ss_S → Prop} (F : ss_F p R s m args meth c (ss_EM D A L wr cI cZ cS) cX5_digest 5 wsX5_digest RX5 (some .long) rmX5_digest)  (k196 : Int64 → Int32 → ss_S → Prop) : ∀ (n : Nat) (x1 : Int64) (x3 : Int32) (σ : ss_S) (H : Heap) (locs : List Loc) (ls : Array Slot), ss_C (ss_EM D A L wr cI cZ cS) σ s H locs → lv_has ls 5 [(0, .ref (L (0))), (1, .long (x1)), (3, .int (x3))] → lX5_digest_168 post k196 n x1 x3 σ →
    (∀ (x1 : Int64) (x3 : Int32) (σ : ss_S) (H : Heap) (locs : List Loc) (ls : Array Slot), ss_C (ss_EM D A L wr cI cZ cS) σ s H locs → lv_has ls 5 [(0, .ref (L (0))), (1, .long (x1))] → k196 x1 x3 σ → W p l e R s m args below meth c H locs 0 0 (MQ below (va_Ql post (ss_B (ss_EM D A L wr cI cZ cS)) A) args s 0 0 A) (F0 m 196 ls [])) →
    W p l e R s m args below meth c H locs 0 0 (MQ below (va_Ql post (ss_B (ss_EM D A L wr cI cZ cS)) A) args s 0 0 A) (F0 m 168 ls []) := by
  have hx := F.1.1
  have hb := F.1.2.1
  have u_X5 : ∀ w ∈ u_ws RX5 TX5 16, w ∈ wsX5_digest := by decide +kernel
  have f_42 : (Cond.fieldLink RX5 42 "SmallSpacesModel" "n" "I").before args s = true := F.1.2.2.2.2 _ (by decide +kernel)
  have f_7 : (Cond.fieldLink RX5 7 "SmallSpacesModel" "images" "[I").before args s = true := F.1.2.2.2.2 _ (by decide +kernel)
  intro n
  induction n with
  | zero => intro x1 x3 σ H locs ls hC hl hw; exact hw.elim
  | succ n ih =>
    intro x1 x3 σ H locs ls hC hl hw hk196
    refine lv_iload_n hx hb dX5_digest_168 rfl (lv_at hl 2 rfl) ?_
    refine lv_aload_n hx hb dX5_digest_169 rfl (lv_at hl 0 rfl) ?_
    refine ss_get (C := RX5) (T := TX5) (N := 16) (ci := 5) (v := .int (σ 0 1)) F hC (0) u_X5 (Nat.le_of_ble_eq_true rfl) rfl rfl 1 (by decide) f_42 rfl dX5_digest_170 ?_
    refine lv_icmp_ge (tgt := 196) hx hb dX5_digest_173 (by decide) (fun hc => ?_) (fun hc => ?_)
    · replace hw := hw.1 hc
      exact hk196 x1 x3 σ _ _ _ hC (lv_sub hl [0, 1] rfl) hw
    · replace hw := hw.2 hc
      refine lv_ldc2 (v := 31) hx hb F.1.2.2.2.1 (F.1.2.2.2.2 (.constantLong RX5 153 (31)) (by decide +kernel)) dX5_digest_176 ?_
      refine lv_lload_n hx hb dX5_digest_179 rfl (lv_at hl 1 rfl) ?_
      refine lv_lmul hx hb dX5_digest_180 ?_
      refine lv_aload_n hx hb dX5_digest_181 rfl (lv_at hl 0 rfl) ?_
      refine ss_get (C := RX5) (T := TX5) (N := 16) (ci := 5) (v := .ref (L (1))) F hC (0) u_X5 (Nat.le_of_ble_eq_true rfl) rfl rfl 3 (by decide) f_7 rfl dX5_digest_182 ?_
      refine lv_iload_n hx hb dX5_digest_185 rfl (lv_at hl 2 rfl) ?_
      refine ss_iald F hC (1) 0 (Nat.le_of_ble_eq_true rfl) (fun _ => rfl) rfl hw.1 dX5_digest_186 ?_
      replace hw := hw.2
      refine lv_i2l hx hb dX5_digest_187 rfl ?_
      refine lv_ladd hx hb dX5_digest_188 ?_
      refine lv_lstore_n (lv' := [(1, .long ((31 * x1) + (Int32.toInt64 (σ 1 (Int32.toNatClampNeg x3))))), (0, .ref (L (0))), (3, .int (x3))]) hx hb dX5_digest_189 rfl hl (by decide) rfl (fun ls hl => ?_)
      refine lv_iinc (v := x3 + 1) (lv' := [(3, .int (x3 + 1)), (1, .long ((31 * x1) + (Int32.toInt64 (σ 1 (Int32.toNatClampNeg x3))))), (0, .ref (L (0)))]) hx hb dX5_digest_190 hl (k := 2) rfl rfl (by decide) rfl (fun ls hl => ?_)
      refine lv_goto (tgt := 168) hx hb dX5_digest_193 (by decide) ?_
      exact ih ((31 * x1) + (Int32.toInt64 (σ 1 (Int32.toNatClampNeg x3)))) (x3 + 1) σ _ _ _ hC (lv_sub hl [2, 1, 0] rfl) hw hk196

set_option maxHeartbeats 4000000 in
set_option maxRecDepth 100000 in
theorem bX5_digest  {post : Int64 → ss_S → Prop} (F : ss_F p R s m args meth c (ss_EM D A L wr cI cZ cS) cX5_digest 5 wsX5_digest RX5 (some .long) rmX5_digest)  : ∀ (σ : ss_S) (H : Heap) (locs : List Loc) (ls : Array Slot), ss_C (ss_EM D A L wr cI cZ cS) σ s H locs → lv_has ls 5 [(0, .ref (L (0)))] → wX5_digest  σ post → W p l e R s m args below meth c H locs 0 0 (MQ below (va_Ql post (ss_B (ss_EM D A L wr cI cZ cS)) A) args s 0 0 A) (F0 m 0 ls []) := by
  have hx := F.1.1
  have hb := F.1.2.1
  have u_X5 : ∀ w ∈ u_ws RX5 TX5 16, w ∈ wsX5_digest := by decide +kernel
  have f_38 : (Cond.fieldLink RX5 38 "SmallSpacesModel" "q" "I").before args s = true := F.1.2.2.2.2 _ (by decide +kernel)
  have f_42 : (Cond.fieldLink RX5 42 "SmallSpacesModel" "n" "I").before args s = true := F.1.2.2.2.2 _ (by decide +kernel)
  have f_139 : (Cond.fieldLink RX5 139 "SmallSpacesModel" "greedies" "I").before args s = true := F.1.2.2.2.2 _ (by decide +kernel)
  have f_148 : (Cond.fieldLink RX5 148 "SmallSpacesModel" "rounds" "I").before args s = true := F.1.2.2.2.2 _ (by decide +kernel)
  intro σ H locs ls hC hl hw
  unfold wX5_digest at hw
  refine lv_ldc2 (v := 167) hx hb F.1.2.2.2.1 (F.1.2.2.2.2 (.constantLong RX5 151 (167)) (by decide +kernel)) dX5_digest_0 ?_
  refine lv_lstore_n (lv' := [(1, .long (167)), (0, .ref (L (0)))]) hx hb dX5_digest_3 rfl hl (by decide) rfl (fun ls hl => ?_)
  refine lv_ldc2 (v := 31) hx hb F.1.2.2.2.1 (F.1.2.2.2.2 (.constantLong RX5 153 (31)) (by decide +kernel)) dX5_digest_4 ?_
  refine lv_lload_n hx hb dX5_digest_7 rfl (lv_at hl 0 rfl) ?_
  refine lv_lmul hx hb dX5_digest_8 ?_
  refine lv_aload_n hx hb dX5_digest_9 rfl (lv_at hl 1 rfl) ?_
  refine ss_get (C := RX5) (T := TX5) (N := 16) (ci := 5) (v := .int (σ 0 0)) F hC (0) u_X5 (Nat.le_of_ble_eq_true rfl) rfl rfl 0 (by decide) f_38 rfl dX5_digest_10 ?_
  refine lv_i2l hx hb dX5_digest_13 rfl ?_
  refine lv_ladd hx hb dX5_digest_14 ?_
  refine lv_lstore_n (lv' := [(1, .long ((31 * 167) + (Int32.toInt64 (σ 0 0)))), (0, .ref (L (0)))]) hx hb dX5_digest_15 rfl hl (by decide) rfl (fun ls hl => ?_)
  refine lv_ldc2 (v := 31) hx hb F.1.2.2.2.1 (F.1.2.2.2.2 (.constantLong RX5 153 (31)) (by decide +kernel)) dX5_digest_16 ?_
  refine lv_lload_n hx hb dX5_digest_19 rfl (lv_at hl 0 rfl) ?_
  refine lv_lmul hx hb dX5_digest_20 ?_
  refine lv_aload_n hx hb dX5_digest_21 rfl (lv_at hl 1 rfl) ?_
  refine ss_get (C := RX5) (T := TX5) (N := 16) (ci := 5) (v := .int (σ 0 1)) F hC (0) u_X5 (Nat.le_of_ble_eq_true rfl) rfl rfl 1 (by decide) f_42 rfl dX5_digest_22 ?_
  refine lv_i2l hx hb dX5_digest_25 rfl ?_
  refine lv_ladd hx hb dX5_digest_26 ?_
  refine lv_lstore_n (lv' := [(1, .long ((31 * ((31 * 167) + (Int32.toInt64 (σ 0 0)))) + (Int32.toInt64 (σ 0 1)))), (0, .ref (L (0)))]) hx hb dX5_digest_27 rfl hl (by decide) rfl (fun ls hl => ?_)
  refine lv_iconst (v := 0) hx hb dX5_digest_28 (by decide) ?_
  refine lv_istore_n (lv' := [(3, .int (0)), (1, .long ((31 * ((31 * 167) + (Int32.toInt64 (σ 0 0)))) + (Int32.toInt64 (σ 0 1)))), (0, .ref (L (0)))]) hx hb dX5_digest_29 rfl hl (by decide) rfl (fun ls hl => ?_)
  obtain ⟨n_, hw⟩ := hw
  refine tX5_digest_30 F  _ n_ ((31 * ((31 * 167) + (Int32.toInt64 (σ 0 0)))) + (Int32.toInt64 (σ 0 1))) 0 σ _ _ _ hC (lv_sub hl [2, 1, 0] rfl) hw ?_
  · intro x1_2 x3_2 σ_2 H locs ls hC hl hw
    refine lv_iconst (v := 0) hx hb dX5_digest_96 (by decide) ?_
    refine lv_istore_n (lv' := [(3, .int (0)), (0, .ref (L (0))), (1, .long (x1_2))]) hx hb dX5_digest_97 rfl hl (by decide) rfl (fun ls hl => ?_)
    obtain ⟨n_, hw⟩ := hw
    refine tX5_digest_98 F  _ n_ x1_2 0 σ_2 _ _ _ hC (lv_sub hl [1, 2, 0] rfl) hw ?_
    · intro x1_4 x3_4 σ_4 H locs ls hC hl hw
      refine lv_iconst (v := 0) hx hb dX5_digest_166 (by decide) ?_
      refine lv_istore_n (lv' := [(3, .int (0)), (0, .ref (L (0))), (1, .long (x1_4))]) hx hb dX5_digest_167 rfl hl (by decide) rfl (fun ls hl => ?_)
      obtain ⟨n_, hw⟩ := hw
      refine tX5_digest_168 F  _ n_ x1_4 0 σ_4 _ _ _ hC (lv_sub hl [1, 2, 0] rfl) hw ?_
      · intro x1_5 x3_5 σ_5 H locs ls hC hl hw
        refine lv_ldc2 (v := 31) hx hb F.1.2.2.2.1 (F.1.2.2.2.2 (.constantLong RX5 153 (31)) (by decide +kernel)) dX5_digest_196 ?_
        refine lv_lload_n hx hb dX5_digest_199 rfl (lv_at hl 1 rfl) ?_
        refine lv_lmul hx hb dX5_digest_200 ?_
        refine lv_aload_n hx hb dX5_digest_201 rfl (lv_at hl 0 rfl) ?_
        refine ss_get (C := RX5) (T := TX5) (N := 16) (ci := 5) (v := .int (σ_5 0 4)) F hC (0) u_X5 (Nat.le_of_ble_eq_true rfl) rfl rfl 4 (by decide) f_139 rfl dX5_digest_202 ?_
        refine lv_i2l hx hb dX5_digest_205 rfl ?_
        refine lv_ladd hx hb dX5_digest_206 ?_
        refine lv_lstore_n (lv' := [(1, .long ((31 * x1_5) + (Int32.toInt64 (σ_5 0 4)))), (0, .ref (L (0)))]) hx hb dX5_digest_207 rfl hl (by decide) rfl (fun ls hl => ?_)
        refine lv_ldc2 (v := 31) hx hb F.1.2.2.2.1 (F.1.2.2.2.2 (.constantLong RX5 153 (31)) (by decide +kernel)) dX5_digest_208 ?_
        refine lv_lload_n hx hb dX5_digest_211 rfl (lv_at hl 0 rfl) ?_
        refine lv_lmul hx hb dX5_digest_212 ?_
        refine lv_aload_n hx hb dX5_digest_213 rfl (lv_at hl 1 rfl) ?_
        refine ss_get (C := RX5) (T := TX5) (N := 16) (ci := 5) (v := .int (σ_5 0 5)) F hC (0) u_X5 (Nat.le_of_ble_eq_true rfl) rfl rfl 5 (by decide) f_148 rfl dX5_digest_214 ?_
        refine lv_i2l hx hb dX5_digest_217 rfl ?_
        refine lv_ladd hx hb dX5_digest_218 ?_
        exact ss_lret F hC hw dX5_digest_219

theorem mX5_digest (l : Launch) (D : va_G) (A : Nat → Prop) (L : Nat → Nat) (wr : va_W) (cI cZ cS : ClassId) (σ : ss_S)   : ss_ML l yX5_digest wsX5_digest rmX5_digest (ss_EM D A L wr cI cZ cS) [.ref (L (0))] σ (fun post => wX5_digest  σ post) :=
  ss_ML.of (cc := cX5_digest) (nL := 5) (ret := (some .long)) (own := RX5) (by decide) rfl rfl (Nat.le_of_ble_eq_true rfl) (fun post p e R s m below meth c H locs ls F hC hl hw => bX5_digest F  σ H locs ls hC hl hw)
end
