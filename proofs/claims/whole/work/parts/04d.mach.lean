section
variable {p : Program} {l : Launch} {e : Env} {R : Room} {s : State} {m : MethodId} {args : Array Value} {below : List Frame} {meth : Method} {c : Code} {D : va_G} {A : Nat → Prop} {L : Nat → Nat} {wr : va_W} {cI cZ cS : ClassId}
set_option maxHeartbeats 4000000 in
set_option maxRecDepth 100000 in
theorem bX4_mostPlaces {x0 : Int32} {post : Int32 → ss_S → Prop} (F : ss_F p R s m args meth c (ss_EC D A L wr cI cZ cS) cX4_mostPlaces 1 wsX4_mostPlaces RX4 (some .int) rmX4_mostPlaces)  : ∀ (σ : ss_S) (H : Heap) (locs : List Loc) (ls : Array Slot), ss_C (ss_EC D A L wr cI cZ cS) σ s H locs → lv_has ls 1 [(0, .int (x0))] → wX4_mostPlaces x0 σ post → W p l e R s m args below meth c H locs 0 0 (MQ below (va_Qi post (ss_B (ss_EC D A L wr cI cZ cS)) A) args s 0 0 A) (F0 m 0 ls []) := by
  have hx := F.1.1
  have hb := F.1.2.1
  intro σ H locs ls hC hl hw
  unfold wX4_mostPlaces at hw
  refine lv_iload_n hx hb dX4_mostPlaces_0 rfl (lv_at hl 0 rfl) ?_
  by_cases hs2 : x0 = 2
  · replace hw := hw.1 hs2
    refine lv_tableIn (tgt := 32) hx hb dX4_mostPlaces_1 (by rw [hs2]; decide) (by rw [hs2]; decide) (by rw [hs2]; rfl) (by decide) ?_
    refine lv_bipush (v := 6) hx hb dX4_mostPlaces_32 (by decide) ?_
    exact ss_iret F hC hw dX4_mostPlaces_34
  replace hw := hw.2 hs2
  by_cases hs3 : x0 = 3
  · replace hw := hw.1 hs3
    refine lv_tableIn (tgt := 35) hx hb dX4_mostPlaces_1 (by rw [hs3]; decide) (by rw [hs3]; decide) (by rw [hs3]; rfl) (by decide) ?_
    refine lv_iconst (v := 5) hx hb dX4_mostPlaces_35 (by decide) ?_
    exact ss_iret F hC hw dX4_mostPlaces_36
  replace hw := hw.2 hs3
  by_cases hs4 : x0 = 4
  · replace hw := hw.1 hs4
    refine lv_tableIn (tgt := 39) hx hb dX4_mostPlaces_1 (by rw [hs4]; decide) (by rw [hs4]; decide) (by rw [hs4]; rfl) (by decide) ?_
    refine lv_iconst (v := 0) hx hb dX4_mostPlaces_39 (by decide) ?_
    exact ss_iret F hC hw dX4_mostPlaces_40
  replace hw := hw.2 hs4
  by_cases hs5 : x0 = 5
  · replace hw := hw.1 hs5
    refine lv_tableIn (tgt := 37) hx hb dX4_mostPlaces_1 (by rw [hs5]; decide) (by rw [hs5]; decide) (by rw [hs5]; rfl) (by decide) ?_
    refine lv_iconst (v := 4) hx hb dX4_mostPlaces_37 (by decide) ?_
    exact ss_iret F hC hw dX4_mostPlaces_38
  replace hw := hw.2 hs5
  refine lv_tableOut (tgt := 39) hx hb dX4_mostPlaces_1 (ss_swOut 2 5 (by decide) (by decide) (fun k h1 h2 => by rcases (show k = 2 ∨ k = 3 ∨ k = 4 ∨ k = 5 by omega) with rfl | rfl | rfl | rfl <;> assumption)) (by decide) ?_
  refine lv_iconst (v := 0) hx hb dX4_mostPlaces_39 (by decide) ?_
  exact ss_iret F hC hw dX4_mostPlaces_40

theorem mX4_mostPlaces (l : Launch) (D : va_G) (A : Nat → Prop) (L : Nat → Nat) (wr : va_W) (cI cZ cS : ClassId) (σ : ss_S) (x0 : Int32)  : ss_MI l yX4_mostPlaces wsX4_mostPlaces rmX4_mostPlaces (ss_EC D A L wr cI cZ cS) [.int (x0)] σ (fun post => wX4_mostPlaces x0 σ post) :=
  ss_MI.of (cc := cX4_mostPlaces) (nL := 1) (ret := (some .int)) (own := RX4) (by decide) rfl rfl (Nat.le_of_ble_eq_true rfl) (fun post p e R s m below meth c H locs ls F hC hl hw => bX4_mostPlaces F  σ H locs ls hC hl hw)

set_option maxHeartbeats 4000000 in
set_option maxRecDepth 100000 in
theorem tX4_field_27  {post : Int32 → ss_S → Prop} (F : ss_F p R s m args meth c (ss_EC D A L wr cI cZ cS) cX4_field 4 wsX4_field RX4 (some .int) rmX4_field)  (k48 : Int32 → ss_S → Prop) : ∀ (n : Nat) (x3 : Int32) (σ : ss_S) (H : Heap) (locs : List Loc) (ls : Array Slot), ss_C (ss_EC D A L wr cI cZ cS) σ s H locs → lv_has ls 4 [(0, .ref (L (0))), (3, .int (x3))] → lX4_field_27 post k48 n x3 σ →
    (∀ (x3 : Int32) (σ : ss_S) (H : Heap) (locs : List Loc) (ls : Array Slot), ss_C (ss_EC D A L wr cI cZ cS) σ s H locs → lv_has ls 4 [(0, .ref (L (0)))] → k48 x3 σ → W p l e R s m args below meth c H locs 0 0 (MQ below (va_Qi post (ss_B (ss_EC D A L wr cI cZ cS)) A) args s 0 0 A) (F0 m 48 ls [])) →
    W p l e R s m args below meth c H locs 0 0 (MQ below (va_Qi post (ss_B (ss_EC D A L wr cI cZ cS)) A) args s 0 0 A) (F0 m 27 ls []) := by
  have hx := F.1.1
  have hb := F.1.2.1
  have u_X4 : ∀ w ∈ u_ws RX4 TX4 9, w ∈ wsX4_field := by decide +kernel
  have f_18 : (Cond.fieldLink RX4 18 "SmallSpaces" "slots" "[LSmallSpaces$Space;").before args s = true := F.1.2.2.2.2 _ (by decide +kernel)
  intro n
  induction n with
  | zero => intro x3 σ H locs ls hC hl hw; exact hw.elim
  | succ n ih =>
    intro x3 σ H locs ls hC hl hw hk48
    refine lv_iload_n hx hb dX4_field_27 rfl (lv_at hl 1 rfl) ?_
    refine lv_bipush (v := 12) hx hb dX4_field_28 (by decide) ?_
    refine lv_icmp_ge (tgt := 48) hx hb dX4_field_30 (by decide) (fun hc => ?_) (fun hc => ?_)
    · replace hw := hw.1 hc
      exact hk48 x3 σ _ _ _ hC (lv_sub hl [0] rfl) hw
    · replace hw := hw.2 hc
      refine lv_aload_n hx hb dX4_field_33 rfl (lv_at hl 0 rfl) ?_
      refine ss_get (C := RX4) (T := TX4) (N := 9) (ci := 4) (v := .ref (L (2))) F hC (0) u_X4 (Nat.le_of_ble_eq_true rfl) rfl rfl 1 (by decide) f_18 rfl dX4_field_34 ?_
      refine lv_iload_n hx hb dX4_field_37 rfl (lv_at hl 1 rfl) ?_
      have hv4 := hw.1
      replace hw := hw.2
      refine ss_aald (v := L (9 + 3 * (Int32.toNatClampNeg x3))) F hC 2 2 (Nat.le_of_ble_eq_true rfl) rfl rfl hv4 rfl dX4_field_38 ?_
      refine ss_kv (ss_rVN (C := RX3) (host := RX4) (As := []) (rest := []) F ((mX3_becomeZero l D A L wr cI cZ cS σ (9 + 3 * (Int32.toNatClampNeg x3)) (isSp_slot hv4)) _) gX4_field_X3_becomeZero_n58 rfl ⟨rfl, rfl⟩ dvX3_becomeZero (by decide +kernel) ⟨by decide +kernel, by decide +kernel, by decide +kernel⟩ ⟨Nat.le_of_ble_eq_true rfl, Nat.le_of_ble_eq_true rfl⟩ (ss_preV F.2.2.2.2.1 F.2.2.2.2.2 hC (ss_rec (C := RX3) (T := TX3) (N := 4) (ci := 3) F.2.2.2.2.1 hC (9 + 3 * (Int32.toNatClampNeg x3)) (isSp_slot hv4).lt (ceC_sp (L := L) (cI := cI) (cS := cS) (isSp_slot hv4) _) rfl) hw) rfl hl.1 rfl (Nat.le_of_ble_eq_true rfl) dX4_field_39 ⟨Nat.zero_le _, Nat.zero_le _⟩) hC (fun σ5 H locs hC hw => ?_)
      refine lv_iinc (v := x3 + 1) (lv' := [(3, .int (x3 + 1)), (0, .ref (L (0)))]) hx hb dX4_field_42 hl (k := 1) rfl rfl (by decide) rfl (fun ls hl => ?_)
      refine lv_goto (tgt := 27) hx hb dX4_field_45 (by decide) ?_
      exact ih (x3 + 1) σ5 _ _ _ hC (lv_sub hl [1, 0] rfl) hw hk48

set_option maxHeartbeats 4000000 in
set_option maxRecDepth 100000 in
theorem bX4_field {x1 : Int32} {x2 : Int32} {post : Int32 → ss_S → Prop} (F : ss_F p R s m args meth c (ss_EC D A L wr cI cZ cS) cX4_field 4 wsX4_field RX4 (some .int) rmX4_field)  : ∀ (σ : ss_S) (H : Heap) (locs : List Loc) (ls : Array Slot), ss_C (ss_EC D A L wr cI cZ cS) σ s H locs → lv_has ls 4 [(0, .ref (L (0))), (1, .int (x1)), (2, .int (x2))] → wX4_field x1 x2 σ post → W p l e R s m args below meth c H locs 0 0 (MQ below (va_Qi post (ss_B (ss_EC D A L wr cI cZ cS)) A) args s 0 0 A) (F0 m 0 ls []) := by
  have hx := F.1.1
  have hb := F.1.2.1
  have u_X4 : ∀ w ∈ u_ws RX4 TX4 9, w ∈ wsX4_field := by decide +kernel
  have f_10 : (Cond.fieldLink RX4 10 "SmallSpaces" "frame" "LSmallSpaces$Frame;").before args s = true := F.1.2.2.2.2 _ (by decide +kernel)
  have f_28 : (Cond.fieldLink RX4 28 "SmallSpaces" "heap" "LSmallSpaces$Heap;").before args s = true := F.1.2.2.2.2 _ (by decide +kernel)
  have u_X1 : ∀ w ∈ u_ws RX1 TX1 3, w ∈ wsX4_field := by decide +kernel
  have f_35 : (Cond.fieldLink RX4 35 "SmallSpaces" "linear" "LSmallSpaces$Linear;").before args s = true := F.1.2.2.2.2 _ (by decide +kernel)
  have u_X0 : ∀ w ∈ u_ws RX0 TX0 3, w ∈ wsX4_field := by decide +kernel
  intro σ H locs ls hC hl hw
  unfold wX4_field at hw
  refine lv_iload_n hx hb dX4_field_0 rfl (lv_at hl 2 rfl) ?_
  refine lv_iconst (v := 1) hx hb dX4_field_1 (by decide) ?_
  refine lv_icmp_lt (tgt := 13) hx hb dX4_field_2 (by decide) (fun hc => ?_) (fun hc => ?_)
  · replace hw := hw.1 hc
    refine lv_bipush (v := -102) hx hb dX4_field_13 (by decide) ?_
    exact ss_iret F hC hw dX4_field_15
  · replace hw := hw.2 hc
    refine lv_iload_n hx hb dX4_field_5 rfl (lv_at hl 2 rfl) ?_
    refine lv_iload_n hx hb dX4_field_6 rfl (lv_at hl 1 rfl) ?_
    refine ss_ki (ss_rS (As := [.int (x1)]) (rest := [.int (x2)]) F ((mX4_mostPlaces l D A L wr cI cZ cS σ x1) _) gX4_field_X4_mostPlaces rfl ⟨rfl, rfl⟩ dvX4_mostPlaces ⟨Nat.le_of_ble_eq_true rfl, Nat.le_of_ble_eq_true rfl⟩ (ss_preS F.2.2.2.2.1 F.2.2.2.2.2 hC hw) rfl hl.1 rfl (Nat.le_of_ble_eq_true rfl) dX4_field_7 ⟨Nat.zero_le _, Nat.zero_le _⟩) hC (fun r2 σ1 H locs hC hw => ?_)
    refine lv_icmp_le (tgt := 16) hx hb dX4_field_10 (by decide) (fun hc => ?_) (fun hc => ?_)
    · replace hw := hw.1 hc
      refine lv_aload_n hx hb dX4_field_16 rfl (lv_at hl 0 rfl) ?_
      refine ss_get (C := RX4) (T := TX4) (N := 9) (ci := 4) (v := .ref (L (1))) F hC (0) u_X4 (Nat.le_of_ble_eq_true rfl) rfl rfl 0 (by decide) f_10 rfl dX4_field_17 ?_
      refine lv_iload_n hx hb dX4_field_20 rfl (lv_at hl 1 rfl) ?_
      refine lv_iload_n hx hb dX4_field_21 rfl (lv_at hl 2 rfl) ?_
      refine ss_kv (ss_rVN (C := RX0) (host := RX4) (As := [.int (x1), .int (x2)]) (rest := []) F ((mX0_become l D A L wr cI cZ cS σ1 x1 x2) _) gX4_field_X0_become_n54 rfl ⟨rfl, rfl⟩ dvX0_become (by decide +kernel) ⟨by decide +kernel, by decide +kernel, by decide +kernel⟩ ⟨Nat.le_of_ble_eq_true rfl, Nat.le_of_ble_eq_true rfl⟩ (ss_preV F.2.2.2.2.1 F.2.2.2.2.2 hC (ss_rec (C := RX0) (T := TX0) (N := 3) (ci := 0) F.2.2.2.2.1 hC (1) (Nat.le_of_ble_eq_true rfl) rfl rfl) hw) rfl hl.1 rfl (Nat.le_of_ble_eq_true rfl) dX4_field_22 ⟨Nat.zero_le _, Nat.zero_le _⟩) hC (fun σ3 H locs hC hw => ?_)
      refine lv_iconst (v := 0) hx hb dX4_field_25 (by decide) ?_
      refine lv_istore_n (lv' := [(3, .int (0)), (0, .ref (L (0))), (1, .int (x1)), (2, .int (x2))]) hx hb dX4_field_26 rfl hl (by decide) rfl (fun ls hl => ?_)
      obtain ⟨n_, hw⟩ := hw
      refine tX4_field_27 F  _ n_ 0 σ3 _ _ _ hC (lv_sub hl [1, 0] rfl) hw ?_
      · intro x3_6 σ_6 H locs ls hC hl hw
        refine lv_aload_n hx hb dX4_field_48 rfl (lv_at hl 0 rfl) ?_
        refine ss_get (C := RX4) (T := TX4) (N := 9) (ci := 4) (v := .ref (L (3))) F hC (0) u_X4 (Nat.le_of_ble_eq_true rfl) rfl rfl 2 (by decide) f_28 rfl dX4_field_49 ?_
        refine lv_iconst (v := 0) hx hb dX4_field_52 (by decide) ?_
        refine ss_putN (C := RX1) (T := TX1) (N := 3) (ci := 1) (host := RX4) F hC (3) tyX1 tyX1_ok nmX1 u_X1 (Nat.le_of_ble_eq_true rfl) rfl rfl 2 (by decide) (by decide +kernel) rfl (by decide +kernel) (Nat.le_of_ble_eq_true rfl) rfl dX4_field_53 (fun H locs hC => ?_)
        refine lv_aload_n hx hb dX4_field_56 rfl (lv_at hl 0 rfl) ?_
        refine ss_get (C := RX4) (T := TX4) (N := 9) (ci := 4) (v := .ref (L (5))) F hC (0) u_X4 (Nat.le_of_ble_eq_true rfl) rfl rfl 3 (by decide) f_35 rfl dX4_field_57 ?_
        refine ss_kv (ss_rVN (C := RX2) (host := RX4) (As := []) (rest := []) F ((mX2_becomeIdentity l D A L wr cI cZ cS (u2 σ_6 3 2 0) ) _) gX4_field_X2_becomeIdentity_n65 rfl ⟨rfl, rfl⟩ dvX2_becomeIdentity (by decide +kernel) ⟨by decide +kernel, by decide +kernel, by decide +kernel⟩ ⟨Nat.le_of_ble_eq_true rfl, Nat.le_of_ble_eq_true rfl⟩ (ss_preV F.2.2.2.2.1 F.2.2.2.2.2 hC (ss_rec (C := RX2) (T := TX2) (N := 3) (ci := 2) F.2.2.2.2.1 hC (5) (Nat.le_of_ble_eq_true rfl) rfl rfl) hw) rfl hl.1 rfl (Nat.le_of_ble_eq_true rfl) dX4_field_60 ⟨Nat.zero_le _, Nat.zero_le _⟩) hC (fun σ7 H locs hC hw => ?_)
        refine lv_aload_n hx hb dX4_field_63 rfl (lv_at hl 0 rfl) ?_
        refine ss_get (C := RX4) (T := TX4) (N := 9) (ci := 4) (v := .ref (L (1))) F hC (0) u_X4 (Nat.le_of_ble_eq_true rfl) rfl rfl 0 (by decide) f_10 rfl dX4_field_64 ?_
        refine ss_getN (C := RX0) (T := TX0) (N := 3) (ci := 0) (host := RX4) (v := .int (σ7 1 2)) F hC (1) u_X0 (Nat.le_of_ble_eq_true rfl) rfl rfl 2 (by decide) (by decide +kernel) rfl dX4_field_67 ?_
        exact ss_iret F hC hw dX4_field_70
    · replace hw := hw.2 hc
      refine lv_bipush (v := -102) hx hb dX4_field_13 (by decide) ?_
      exact ss_iret F hC hw dX4_field_15

theorem mX4_field (l : Launch) (D : va_G) (A : Nat → Prop) (L : Nat → Nat) (wr : va_W) (cI cZ cS : ClassId) (σ : ss_S) (x1 : Int32) (x2 : Int32)  : ss_MI l yX4_field wsX4_field rmX4_field (ss_EC D A L wr cI cZ cS) [.ref (L (0)), .int (x1), .int (x2)] σ (fun post => wX4_field x1 x2 σ post) :=
  ss_MI.of (cc := cX4_field) (nL := 4) (ret := (some .int)) (own := RX4) (by decide) rfl rfl (Nat.le_of_ble_eq_true rfl) (fun post p e R s m below meth c H locs ls F hC hl hw => bX4_field F  σ H locs ls hC hl hw)

set_option maxHeartbeats 4000000 in
set_option maxRecDepth 100000 in
theorem bX4_plus {x1 : Int32} {x2 : Int32} {x3 : Int32} {post : Int32 → ss_S → Prop} (F : ss_F p R s m args meth c (ss_EC D A L wr cI cZ cS) cX4_plus 4 wsX4_plus RX4 (some .int) rmX4_plus)  : ∀ (σ : ss_S) (H : Heap) (locs : List Loc) (ls : Array Slot), ss_C (ss_EC D A L wr cI cZ cS) σ s H locs → lv_has ls 4 [(0, .ref (L (0))), (1, .int (x1)), (2, .int (x2)), (3, .int (x3))] → wX4_plus x1 x2 x3 σ post → W p l e R s m args below meth c H locs 0 0 (MQ below (va_Qi post (ss_B (ss_EC D A L wr cI cZ cS)) A) args s 0 0 A) (F0 m 0 ls []) := by
  have hx := F.1.1
  have hb := F.1.2.1
  have u_X4 : ∀ w ∈ u_ws RX4 TX4 9, w ∈ wsX4_plus := by decide +kernel
  have f_10 : (Cond.fieldLink RX4 10 "SmallSpaces" "frame" "LSmallSpaces$Frame;").before args s = true := F.1.2.2.2.2 _ (by decide +kernel)
  have u_X0 : ∀ w ∈ u_ws RX0 TX0 3, w ∈ wsX4_plus := by decide +kernel
  intro σ H locs ls hC hl hw
  unfold wX4_plus at hw
  refine lv_aload_n hx hb dX4_plus_0 rfl (lv_at hl 0 rfl) ?_
  refine ss_get (C := RX4) (T := TX4) (N := 9) (ci := 4) (v := .ref (L (1))) F hC (0) u_X4 (Nat.le_of_ble_eq_true rfl) rfl rfl 0 (by decide) f_10 rfl dX4_plus_1 ?_
  refine lv_iload_n hx hb dX4_plus_4 rfl (lv_at hl 1 rfl) ?_
  refine ss_ki (ss_rVN (C := RX0) (host := RX4) (As := [.int (x1)]) (rest := []) F ((mX0_isVector l D A L wr cI cZ cS σ x1) _) gX4_plus_X0_isVector_n71 rfl ⟨rfl, rfl⟩ dvX0_isVector (by decide +kernel) ⟨by decide +kernel, by decide +kernel, by decide +kernel⟩ ⟨Nat.le_of_ble_eq_true rfl, Nat.le_of_ble_eq_true rfl⟩ (ss_preV F.2.2.2.2.1 F.2.2.2.2.2 hC (ss_rec (C := RX0) (T := TX0) (N := 3) (ci := 0) F.2.2.2.2.1 hC (1) (Nat.le_of_ble_eq_true rfl) rfl rfl) hw) rfl hl.1 rfl (Nat.le_of_ble_eq_true rfl) dX4_plus_5 ⟨Nat.zero_le _, Nat.zero_le _⟩) hC (fun r2 σ1 H locs hC hw => ?_)
  refine lv_if_eq (tgt := 22) hx hb dX4_plus_8 (by decide) (fun hc => ?_) (fun hc => ?_)
  · replace hw := hw.1 hc
    refine lv_bipush (v := -101) hx hb dX4_plus_22 (by decide) ?_
    exact ss_iret F hC hw dX4_plus_24
  · replace hw := hw.2 hc
    refine lv_aload_n hx hb dX4_plus_11 rfl (lv_at hl 0 rfl) ?_
    refine ss_get (C := RX4) (T := TX4) (N := 9) (ci := 4) (v := .ref (L (1))) F hC (0) u_X4 (Nat.le_of_ble_eq_true rfl) rfl rfl 0 (by decide) f_10 rfl dX4_plus_12 ?_
    refine lv_iload_n hx hb dX4_plus_15 rfl (lv_at hl 2 rfl) ?_
    refine ss_ki (ss_rVN (C := RX0) (host := RX4) (As := [.int (x2)]) (rest := []) F ((mX0_isVector l D A L wr cI cZ cS σ1 x2) _) gX4_plus_X0_isVector_n71 rfl ⟨rfl, rfl⟩ dvX0_isVector (by decide +kernel) ⟨by decide +kernel, by decide +kernel, by decide +kernel⟩ ⟨Nat.le_of_ble_eq_true rfl, Nat.le_of_ble_eq_true rfl⟩ (ss_preV F.2.2.2.2.1 F.2.2.2.2.2 hC (ss_rec (C := RX0) (T := TX0) (N := 3) (ci := 0) F.2.2.2.2.1 hC (1) (Nat.le_of_ble_eq_true rfl) rfl rfl) hw) rfl hl.1 rfl (Nat.le_of_ble_eq_true rfl) dX4_plus_16 ⟨Nat.zero_le _, Nat.zero_le _⟩) hC (fun r4 σ3 H locs hC hw => ?_)
    refine lv_if_ne (tgt := 25) hx hb dX4_plus_19 (by decide) (fun hc => ?_) (fun hc => ?_)
    · replace hw := hw.1 hc
      refine lv_iload_n hx hb dX4_plus_25 rfl (lv_at hl 3 rfl) ?_
      refine lv_if_lt (tgt := 40) hx hb dX4_plus_26 (by decide) (fun hc => ?_) (fun hc => ?_)
      · replace hw := hw.1 hc
        refine lv_bipush (v := -102) hx hb dX4_plus_40 (by decide) ?_
        exact ss_iret F hC hw dX4_plus_42
      · replace hw := hw.2 hc
        refine lv_iload_n hx hb dX4_plus_29 rfl (lv_at hl 3 rfl) ?_
        refine lv_aload_n hx hb dX4_plus_30 rfl (lv_at hl 0 rfl) ?_
        refine ss_get (C := RX4) (T := TX4) (N := 9) (ci := 4) (v := .ref (L (1))) F hC (0) u_X4 (Nat.le_of_ble_eq_true rfl) rfl rfl 0 (by decide) f_10 rfl dX4_plus_31 ?_
        refine ss_getN (C := RX0) (T := TX0) (N := 3) (ci := 0) (host := RX4) (v := .int (σ3 1 0)) F hC (1) u_X0 (Nat.le_of_ble_eq_true rfl) rfl rfl 0 (by decide) (by decide +kernel) rfl dX4_plus_34 ?_
        refine lv_icmp_lt (tgt := 43) hx hb dX4_plus_37 (by decide) (fun hc => ?_) (fun hc => ?_)
        · replace hw := hw.1 hc
          refine lv_aload_n hx hb dX4_plus_43 rfl (lv_at hl 0 rfl) ?_
          refine ss_get (C := RX4) (T := TX4) (N := 9) (ci := 4) (v := .ref (L (1))) F hC (0) u_X4 (Nat.le_of_ble_eq_true rfl) rfl rfl 0 (by decide) f_10 rfl dX4_plus_44 ?_
          refine lv_iload_n hx hb dX4_plus_47 rfl (lv_at hl 1 rfl) ?_
          refine lv_iload_n hx hb dX4_plus_48 rfl (lv_at hl 2 rfl) ?_
          refine lv_iload_n hx hb dX4_plus_49 rfl (lv_at hl 3 rfl) ?_
          refine ss_ki (ss_rVN (C := RX0) (host := RX4) (As := [.int (x1), .int (x2), .int (x3)]) (rest := []) F ((mX0_sum l D A L wr cI cZ cS σ3 x1 x2 x3) _) gX4_plus_X0_sum_n78 rfl ⟨rfl, rfl⟩ dvX0_sum (by decide +kernel) ⟨by decide +kernel, by decide +kernel, by decide +kernel⟩ ⟨Nat.le_of_ble_eq_true rfl, Nat.le_of_ble_eq_true rfl⟩ (ss_preV F.2.2.2.2.1 F.2.2.2.2.2 hC (ss_rec (C := RX0) (T := TX0) (N := 3) (ci := 0) F.2.2.2.2.1 hC (1) (Nat.le_of_ble_eq_true rfl) rfl rfl) hw) rfl hl.1 rfl (Nat.le_of_ble_eq_true rfl) dX4_plus_50 ⟨Nat.zero_le _, Nat.zero_le _⟩) hC (fun r6 σ5 H locs hC hw => ?_)
          exact ss_iret F hC hw dX4_plus_53
        · replace hw := hw.2 hc
          refine lv_bipush (v := -102) hx hb dX4_plus_40 (by decide) ?_
          exact ss_iret F hC hw dX4_plus_42
    · replace hw := hw.2 hc
      refine lv_bipush (v := -101) hx hb dX4_plus_22 (by decide) ?_
      exact ss_iret F hC hw dX4_plus_24

theorem mX4_plus (l : Launch) (D : va_G) (A : Nat → Prop) (L : Nat → Nat) (wr : va_W) (cI cZ cS : ClassId) (σ : ss_S) (x1 : Int32) (x2 : Int32) (x3 : Int32)  : ss_MI l yX4_plus wsX4_plus rmX4_plus (ss_EC D A L wr cI cZ cS) [.ref (L (0)), .int (x1), .int (x2), .int (x3)] σ (fun post => wX4_plus x1 x2 x3 σ post) :=
  ss_MI.of (cc := cX4_plus) (nL := 4) (ret := (some .int)) (own := RX4) (by decide) rfl rfl (Nat.le_of_ble_eq_true rfl) (fun post p e R s m below meth c H locs ls F hC hl hw => bX4_plus F  σ H locs ls hC hl hw)

set_option maxHeartbeats 4000000 in
set_option maxRecDepth 100000 in
theorem bX4_times {x1 : Int32} {x2 : Int32} {post : Int32 → ss_S → Prop} (F : ss_F p R s m args meth c (ss_EC D A L wr cI cZ cS) cX4_times 3 wsX4_times RX4 (some .int) rmX4_times)  : ∀ (σ : ss_S) (H : Heap) (locs : List Loc) (ls : Array Slot), ss_C (ss_EC D A L wr cI cZ cS) σ s H locs → lv_has ls 3 [(0, .ref (L (0))), (1, .int (x1)), (2, .int (x2))] → wX4_times x1 x2 σ post → W p l e R s m args below meth c H locs 0 0 (MQ below (va_Qi post (ss_B (ss_EC D A L wr cI cZ cS)) A) args s 0 0 A) (F0 m 0 ls []) := by
  have hx := F.1.1
  have hb := F.1.2.1
  have u_X4 : ∀ w ∈ u_ws RX4 TX4 9, w ∈ wsX4_times := by decide +kernel
  have f_10 : (Cond.fieldLink RX4 10 "SmallSpaces" "frame" "LSmallSpaces$Frame;").before args s = true := F.1.2.2.2.2 _ (by decide +kernel)
  intro σ H locs ls hC hl hw
  unfold wX4_times at hw
  refine lv_aload_n hx hb dX4_times_0 rfl (lv_at hl 0 rfl) ?_
  refine ss_get (C := RX4) (T := TX4) (N := 9) (ci := 4) (v := .ref (L (1))) F hC (0) u_X4 (Nat.le_of_ble_eq_true rfl) rfl rfl 0 (by decide) f_10 rfl dX4_times_1 ?_
  refine lv_iload_n hx hb dX4_times_4 rfl (lv_at hl 1 rfl) ?_
  refine ss_ki (ss_rVN (C := RX0) (host := RX4) (As := [.int (x1)]) (rest := []) F ((mX0_isVector l D A L wr cI cZ cS σ x1) _) gX4_times_X0_isVector_n71 rfl ⟨rfl, rfl⟩ dvX0_isVector (by decide +kernel) ⟨by decide +kernel, by decide +kernel, by decide +kernel⟩ ⟨Nat.le_of_ble_eq_true rfl, Nat.le_of_ble_eq_true rfl⟩ (ss_preV F.2.2.2.2.1 F.2.2.2.2.2 hC (ss_rec (C := RX0) (T := TX0) (N := 3) (ci := 0) F.2.2.2.2.1 hC (1) (Nat.le_of_ble_eq_true rfl) rfl rfl) hw) rfl hl.1 rfl (Nat.le_of_ble_eq_true rfl) dX4_times_5 ⟨Nat.zero_le _, Nat.zero_le _⟩) hC (fun r2 σ1 H locs hC hw => ?_)
  refine lv_if_eq (tgt := 22) hx hb dX4_times_8 (by decide) (fun hc => ?_) (fun hc => ?_)
  · replace hw := hw.1 hc
    refine lv_bipush (v := -101) hx hb dX4_times_22 (by decide) ?_
    exact ss_iret F hC hw dX4_times_24
  · replace hw := hw.2 hc
    refine lv_aload_n hx hb dX4_times_11 rfl (lv_at hl 0 rfl) ?_
    refine ss_get (C := RX4) (T := TX4) (N := 9) (ci := 4) (v := .ref (L (1))) F hC (0) u_X4 (Nat.le_of_ble_eq_true rfl) rfl rfl 0 (by decide) f_10 rfl dX4_times_12 ?_
    refine lv_iload_n hx hb dX4_times_15 rfl (lv_at hl 2 rfl) ?_
    refine ss_ki (ss_rVN (C := RX0) (host := RX4) (As := [.int (x2)]) (rest := []) F ((mX0_isVector l D A L wr cI cZ cS σ1 x2) _) gX4_times_X0_isVector_n71 rfl ⟨rfl, rfl⟩ dvX0_isVector (by decide +kernel) ⟨by decide +kernel, by decide +kernel, by decide +kernel⟩ ⟨Nat.le_of_ble_eq_true rfl, Nat.le_of_ble_eq_true rfl⟩ (ss_preV F.2.2.2.2.1 F.2.2.2.2.2 hC (ss_rec (C := RX0) (T := TX0) (N := 3) (ci := 0) F.2.2.2.2.1 hC (1) (Nat.le_of_ble_eq_true rfl) rfl rfl) hw) rfl hl.1 rfl (Nat.le_of_ble_eq_true rfl) dX4_times_16 ⟨Nat.zero_le _, Nat.zero_le _⟩) hC (fun r4 σ3 H locs hC hw => ?_)
    refine lv_if_ne (tgt := 25) hx hb dX4_times_19 (by decide) (fun hc => ?_) (fun hc => ?_)
    · replace hw := hw.1 hc
      refine lv_aload_n hx hb dX4_times_25 rfl (lv_at hl 0 rfl) ?_
      refine ss_get (C := RX4) (T := TX4) (N := 9) (ci := 4) (v := .ref (L (1))) F hC (0) u_X4 (Nat.le_of_ble_eq_true rfl) rfl rfl 0 (by decide) f_10 rfl dX4_times_26 ?_
      refine lv_iload_n hx hb dX4_times_29 rfl (lv_at hl 1 rfl) ?_
      refine lv_iload_n hx hb dX4_times_30 rfl (lv_at hl 2 rfl) ?_
      refine ss_ki (ss_rVN (C := RX0) (host := RX4) (As := [.int (x1), .int (x2)]) (rest := []) F ((mX0_product l D A L wr cI cZ cS σ3 x1 x2) _) gX4_times_X0_product_n82 rfl ⟨rfl, rfl⟩ dvX0_product (by decide +kernel) ⟨by decide +kernel, by decide +kernel, by decide +kernel⟩ ⟨Nat.le_of_ble_eq_true rfl, Nat.le_of_ble_eq_true rfl⟩ (ss_preV F.2.2.2.2.1 F.2.2.2.2.2 hC (ss_rec (C := RX0) (T := TX0) (N := 3) (ci := 0) F.2.2.2.2.1 hC (1) (Nat.le_of_ble_eq_true rfl) rfl rfl) hw) rfl hl.1 rfl (Nat.le_of_ble_eq_true rfl) dX4_times_31 ⟨Nat.zero_le _, Nat.zero_le _⟩) hC (fun r6 σ5 H locs hC hw => ?_)
      exact ss_iret F hC hw dX4_times_34
    · replace hw := hw.2 hc
      refine lv_bipush (v := -101) hx hb dX4_times_22 (by decide) ?_
      exact ss_iret F hC hw dX4_times_24

theorem mX4_times (l : Launch) (D : va_G) (A : Nat → Prop) (L : Nat → Nat) (wr : va_W) (cI cZ cS : ClassId) (σ : ss_S) (x1 : Int32) (x2 : Int32)  : ss_MI l yX4_times wsX4_times rmX4_times (ss_EC D A L wr cI cZ cS) [.ref (L (0)), .int (x1), .int (x2)] σ (fun post => wX4_times x1 x2 σ post) :=
  ss_MI.of (cc := cX4_times) (nL := 3) (ret := (some .int)) (own := RX4) (by decide) rfl rfl (Nat.le_of_ble_eq_true rfl) (fun post p e R s m below meth c H locs ls F hC hl hw => bX4_times F  σ H locs ls hC hl hw)

set_option maxHeartbeats 4000000 in
set_option maxRecDepth 100000 in
theorem bX4_isSlot {x0 : Int32} {post : Int32 → ss_S → Prop} (F : ss_F p R s m args meth c (ss_EC D A L wr cI cZ cS) cX4_isSlot 1 wsX4_isSlot RX4 (some .boolean) rmX4_isSlot)  : ∀ (σ : ss_S) (H : Heap) (locs : List Loc) (ls : Array Slot), ss_C (ss_EC D A L wr cI cZ cS) σ s H locs → lv_has ls 1 [(0, .int (x0))] → wX4_isSlot x0 σ post → W p l e R s m args below meth c H locs 0 0 (MQ below (va_Qi post (ss_B (ss_EC D A L wr cI cZ cS)) A) args s 0 0 A) (F0 m 0 ls []) := by
  have hx := F.1.1
  have hb := F.1.2.1
  intro σ H locs ls hC hl hw
  unfold wX4_isSlot at hw
  refine lv_iload_n hx hb dX4_isSlot_0 rfl (lv_at hl 0 rfl) ?_
  refine lv_if_lt (tgt := 14) hx hb dX4_isSlot_1 (by decide) (fun hc => ?_) (fun hc => ?_)
  · replace hw := hw.1 hc
    refine lv_iconst (v := 0) hx hb dX4_isSlot_14 (by decide) ?_
    exact ss_zret F hC rfl hw dX4_isSlot_15
  · replace hw := hw.2 hc
    refine lv_iload_n hx hb dX4_isSlot_4 rfl (lv_at hl 0 rfl) ?_
    refine lv_bipush (v := 12) hx hb dX4_isSlot_5 (by decide) ?_
    refine lv_icmp_ge (tgt := 14) hx hb dX4_isSlot_7 (by decide) (fun hc => ?_) (fun hc => ?_)
    · replace hw := hw.1 hc
      refine lv_iconst (v := 0) hx hb dX4_isSlot_14 (by decide) ?_
      exact ss_zret F hC rfl hw dX4_isSlot_15
    · replace hw := hw.2 hc
      refine lv_iconst (v := 1) hx hb dX4_isSlot_10 (by decide) ?_
      refine lv_goto (tgt := 15) hx hb dX4_isSlot_11 (by decide) ?_
      exact ss_zret F hC rfl hw dX4_isSlot_15

theorem mX4_isSlot (l : Launch) (D : va_G) (A : Nat → Prop) (L : Nat → Nat) (wr : va_W) (cI cZ cS : ClassId) (σ : ss_S) (x0 : Int32)  : ss_MI l yX4_isSlot wsX4_isSlot rmX4_isSlot (ss_EC D A L wr cI cZ cS) [.int (x0)] σ (fun post => wX4_isSlot x0 σ post) :=
  ss_MI.of (cc := cX4_isSlot) (nL := 1) (ret := (some .boolean)) (own := RX4) (by decide) rfl rfl (Nat.le_of_ble_eq_true rfl) (fun post p e R s m below meth c H locs ls F hC hl hw => bX4_isSlot F  σ H locs ls hC hl hw)

set_option maxHeartbeats 4000000 in
set_option maxRecDepth 100000 in
theorem bX4_add {x1 : Int32} {x2 : Int32} {post : Int32 → ss_S → Prop} (F : ss_F p R s m args meth c (ss_EC D A L wr cI cZ cS) cX4_add 3 wsX4_add RX4 (some .int) rmX4_add)  : ∀ (σ : ss_S) (H : Heap) (locs : List Loc) (ls : Array Slot), ss_C (ss_EC D A L wr cI cZ cS) σ s H locs → lv_has ls 3 [(0, .ref (L (0))), (1, .int (x1)), (2, .int (x2))] → wX4_add x1 x2 σ post → W p l e R s m args below meth c H locs 0 0 (MQ below (va_Qi post (ss_B (ss_EC D A L wr cI cZ cS)) A) args s 0 0 A) (F0 m 0 ls []) := by
  have hx := F.1.1
  have hb := F.1.2.1
  have u_X4 : ∀ w ∈ u_ws RX4 TX4 9, w ∈ wsX4_add := by decide +kernel
  have f_10 : (Cond.fieldLink RX4 10 "SmallSpaces" "frame" "LSmallSpaces$Frame;").before args s = true := F.1.2.2.2.2 _ (by decide +kernel)
  have f_46 : (Cond.fieldLink RX4 46 "SmallSpaces" "figures" "[I").before args s = true := F.1.2.2.2.2 _ (by decide +kernel)
  have f_18 : (Cond.fieldLink RX4 18 "SmallSpaces" "slots" "[LSmallSpaces$Space;").before args s = true := F.1.2.2.2.2 _ (by decide +kernel)
  intro σ H locs ls hC hl hw
  unfold wX4_add at hw
  refine lv_iload_n hx hb dX4_add_0 rfl (lv_at hl 1 rfl) ?_
  refine ss_ki (ss_rS (As := [.int (x1)]) (rest := []) F ((mX4_isSlot l D A L wr cI cZ cS σ x1) _) gX4_add_X4_isSlot rfl ⟨rfl, rfl⟩ dvX4_isSlot ⟨Nat.le_of_ble_eq_true rfl, Nat.le_of_ble_eq_true rfl⟩ (ss_preS F.2.2.2.2.1 F.2.2.2.2.2 hC hw) rfl hl.1 rfl (Nat.le_of_ble_eq_true rfl) dX4_add_1 ⟨Nat.zero_le _, Nat.zero_le _⟩) hC (fun r2 σ1 H locs hC hw => ?_)
  refine lv_if_eq (tgt := 18) hx hb dX4_add_4 (by decide) (fun hc => ?_) (fun hc => ?_)
  · replace hw := hw.1 hc
    refine lv_bipush (v := -101) hx hb dX4_add_18 (by decide) ?_
    exact ss_iret F hC hw dX4_add_20
  · replace hw := hw.2 hc
    refine lv_aload_n hx hb dX4_add_7 rfl (lv_at hl 0 rfl) ?_
    refine ss_get (C := RX4) (T := TX4) (N := 9) (ci := 4) (v := .ref (L (1))) F hC (0) u_X4 (Nat.le_of_ble_eq_true rfl) rfl rfl 0 (by decide) f_10 rfl dX4_add_8 ?_
    refine lv_iload_n hx hb dX4_add_11 rfl (lv_at hl 2 rfl) ?_
    refine ss_ki (ss_rVN (C := RX0) (host := RX4) (As := [.int (x2)]) (rest := []) F ((mX0_isVector l D A L wr cI cZ cS σ1 x2) _) gX4_add_X0_isVector_n71 rfl ⟨rfl, rfl⟩ dvX0_isVector (by decide +kernel) ⟨by decide +kernel, by decide +kernel, by decide +kernel⟩ ⟨Nat.le_of_ble_eq_true rfl, Nat.le_of_ble_eq_true rfl⟩ (ss_preV F.2.2.2.2.1 F.2.2.2.2.2 hC (ss_rec (C := RX0) (T := TX0) (N := 3) (ci := 0) F.2.2.2.2.1 hC (1) (Nat.le_of_ble_eq_true rfl) rfl rfl) hw) rfl hl.1 rfl (Nat.le_of_ble_eq_true rfl) dX4_add_12 ⟨Nat.zero_le _, Nat.zero_le _⟩) hC (fun r4 σ3 H locs hC hw => ?_)
    refine lv_if_ne (tgt := 21) hx hb dX4_add_15 (by decide) (fun hc => ?_) (fun hc => ?_)
    · replace hw := hw.1 hc
      refine lv_aload_n hx hb dX4_add_21 rfl (lv_at hl 0 rfl) ?_
      refine ss_get (C := RX4) (T := TX4) (N := 9) (ci := 4) (v := .ref (L (1))) F hC (0) u_X4 (Nat.le_of_ble_eq_true rfl) rfl rfl 0 (by decide) f_10 rfl dX4_add_22 ?_
      refine lv_iload_n hx hb dX4_add_25 rfl (lv_at hl 2 rfl) ?_
      refine lv_aload_n hx hb dX4_add_26 rfl (lv_at hl 0 rfl) ?_
      refine ss_get (C := RX4) (T := TX4) (N := 9) (ci := 4) (v := .ref (L (6))) F hC (0) u_X4 (Nat.le_of_ble_eq_true rfl) rfl rfl 6 (by decide) f_46 rfl dX4_add_27 ?_
      refine lv_iconst (v := 0) hx hb dX4_add_30 (by decide) ?_
      refine ss_kv (ss_rVN (C := RX0) (host := RX4) (As := [.int (x2), .ref (L (6)), .int (0)]) (rest := []) F ((mX0_spell l D A L wr cI cZ cS σ3 x2 6 0 isAr_6) _) gX4_add_X0_spell_n89 rfl ⟨rfl, rfl⟩ dvX0_spell (by decide +kernel) ⟨by decide +kernel, by decide +kernel, by decide +kernel⟩ ⟨Nat.le_of_ble_eq_true rfl, Nat.le_of_ble_eq_true rfl⟩ (ss_preV F.2.2.2.2.1 F.2.2.2.2.2 hC (ss_rec (C := RX0) (T := TX0) (N := 3) (ci := 0) F.2.2.2.2.1 hC (1) (Nat.le_of_ble_eq_true rfl) rfl rfl) hw) rfl hl.1 rfl (Nat.le_of_ble_eq_true rfl) dX4_add_31 ⟨Nat.zero_le _, Nat.zero_le _⟩) hC (fun σ5 H locs hC hw => ?_)
      refine lv_aload_n hx hb dX4_add_34 rfl (lv_at hl 0 rfl) ?_
      refine ss_get (C := RX4) (T := TX4) (N := 9) (ci := 4) (v := .ref (L (2))) F hC (0) u_X4 (Nat.le_of_ble_eq_true rfl) rfl rfl 1 (by decide) f_18 rfl dX4_add_35 ?_
      refine lv_iload_n hx hb dX4_add_38 rfl (lv_at hl 1 rfl) ?_
      have hv6 := hw.1
      replace hw := hw.2
      refine ss_aald (v := L (9 + 3 * (Int32.toNatClampNeg x1))) F hC 2 2 (Nat.le_of_ble_eq_true rfl) rfl rfl hv6 rfl dX4_add_39 ?_
      refine lv_aload_n hx hb dX4_add_40 rfl (lv_at hl 0 rfl) ?_
      refine ss_get (C := RX4) (T := TX4) (N := 9) (ci := 4) (v := .ref (L (6))) F hC (0) u_X4 (Nat.le_of_ble_eq_true rfl) rfl rfl 6 (by decide) f_46 rfl dX4_add_41 ?_
      refine lv_iconst (v := 0) hx hb dX4_add_44 (by decide) ?_
      refine ss_kv (ss_rVN (C := RX3) (host := RX4) (As := [.ref (L (6)), .int (0)]) (rest := []) F ((mX3_joinVector l D A L wr cI cZ cS σ5 (9 + 3 * (Int32.toNatClampNeg x1)) 6 0 (isSp_slot hv6) isAr_6) _) gX4_add_X3_joinVector_n93 rfl ⟨rfl, rfl⟩ dvX3_joinVector (by decide +kernel) ⟨by decide +kernel, by decide +kernel, by decide +kernel⟩ ⟨Nat.le_of_ble_eq_true rfl, Nat.le_of_ble_eq_true rfl⟩ (ss_preV F.2.2.2.2.1 F.2.2.2.2.2 hC (ss_rec (C := RX3) (T := TX3) (N := 4) (ci := 3) F.2.2.2.2.1 hC (9 + 3 * (Int32.toNatClampNeg x1)) (isSp_slot hv6).lt (ceC_sp (L := L) (cI := cI) (cS := cS) (isSp_slot hv6) _) rfl) hw) rfl hl.1 rfl (Nat.le_of_ble_eq_true rfl) dX4_add_45 ⟨Nat.zero_le _, Nat.zero_le _⟩) hC (fun σ7 H locs hC hw => ?_)
      refine lv_aload_n hx hb dX4_add_48 rfl (lv_at hl 0 rfl) ?_
      refine ss_get (C := RX4) (T := TX4) (N := 9) (ci := 4) (v := .ref (L (2))) F hC (0) u_X4 (Nat.le_of_ble_eq_true rfl) rfl rfl 1 (by decide) f_18 rfl dX4_add_49 ?_
      refine lv_iload_n hx hb dX4_add_52 rfl (lv_at hl 1 rfl) ?_
      have hv8 := hw.1
      replace hw := hw.2
      refine ss_aald (v := L (9 + 3 * (Int32.toNatClampNeg x1))) F hC 2 2 (Nat.le_of_ble_eq_true rfl) rfl rfl hv8 rfl dX4_add_53 ?_
      refine ss_ki (ss_rVN (C := RX3) (host := RX4) (As := []) (rest := []) F ((mX3_rank l D A L wr cI cZ cS σ7 (9 + 3 * (Int32.toNatClampNeg x1)) (isSp_slot hv8)) _) gX4_add_X3_rank_n97 rfl ⟨rfl, rfl⟩ dvX3_rank (by decide +kernel) ⟨by decide +kernel, by decide +kernel, by decide +kernel⟩ ⟨Nat.le_of_ble_eq_true rfl, Nat.le_of_ble_eq_true rfl⟩ (ss_preV F.2.2.2.2.1 F.2.2.2.2.2 hC (ss_rec (C := RX3) (T := TX3) (N := 4) (ci := 3) F.2.2.2.2.1 hC (9 + 3 * (Int32.toNatClampNeg x1)) (isSp_slot hv8).lt (ceC_sp (L := L) (cI := cI) (cS := cS) (isSp_slot hv8) _) rfl) hw) rfl hl.1 rfl (Nat.le_of_ble_eq_true rfl) dX4_add_54 ⟨Nat.zero_le _, Nat.zero_le _⟩) hC (fun r10 σ9 H locs hC hw => ?_)
      exact ss_iret F hC hw dX4_add_57
    · replace hw := hw.2 hc
      refine lv_bipush (v := -101) hx hb dX4_add_18 (by decide) ?_
      exact ss_iret F hC hw dX4_add_20

theorem mX4_add (l : Launch) (D : va_G) (A : Nat → Prop) (L : Nat → Nat) (wr : va_W) (cI cZ cS : ClassId) (σ : ss_S) (x1 : Int32) (x2 : Int32)  : ss_MI l yX4_add wsX4_add rmX4_add (ss_EC D A L wr cI cZ cS) [.ref (L (0)), .int (x1), .int (x2)] σ (fun post => wX4_add x1 x2 σ post) :=
  ss_MI.of (cc := cX4_add) (nL := 3) (ret := (some .int)) (own := RX4) (by decide) rfl rfl (Nat.le_of_ble_eq_true rfl) (fun post p e R s m below meth c H locs ls F hC hl hw => bX4_add F  σ H locs ls hC hl hw)

set_option maxHeartbeats 4000000 in
set_option maxRecDepth 100000 in
theorem bX4_clear {x1 : Int32} {post : Int32 → ss_S → Prop} (F : ss_F p R s m args meth c (ss_EC D A L wr cI cZ cS) cX4_clear 3 wsX4_clear RX4 (some .int) rmX4_clear)  : ∀ (σ : ss_S) (H : Heap) (locs : List Loc) (ls : Array Slot), ss_C (ss_EC D A L wr cI cZ cS) σ s H locs → lv_has ls 3 [(0, .ref (L (0))), (1, .int (x1))] → wX4_clear x1 σ post → W p l e R s m args below meth c H locs 0 0 (MQ below (va_Qi post (ss_B (ss_EC D A L wr cI cZ cS)) A) args s 0 0 A) (F0 m 0 ls []) := by
  have hx := F.1.1
  have hb := F.1.2.1
  have u_X4 : ∀ w ∈ u_ws RX4 TX4 9, w ∈ wsX4_clear := by decide +kernel
  have f_18 : (Cond.fieldLink RX4 18 "SmallSpaces" "slots" "[LSmallSpaces$Space;").before args s = true := F.1.2.2.2.2 _ (by decide +kernel)
  intro σ H locs ls hC hl hw
  unfold wX4_clear at hw
  refine lv_iload_n hx hb dX4_clear_0 rfl (lv_at hl 1 rfl) ?_
  refine ss_ki (ss_rS (As := [.int (x1)]) (rest := []) F ((mX4_isSlot l D A L wr cI cZ cS σ x1) _) gX4_clear_X4_isSlot rfl ⟨rfl, rfl⟩ dvX4_isSlot ⟨Nat.le_of_ble_eq_true rfl, Nat.le_of_ble_eq_true rfl⟩ (ss_preS F.2.2.2.2.1 F.2.2.2.2.2 hC hw) rfl hl.1 rfl (Nat.le_of_ble_eq_true rfl) dX4_clear_1 ⟨Nat.zero_le _, Nat.zero_le _⟩) hC (fun r2 σ1 H locs hC hw => ?_)
  refine lv_if_ne (tgt := 10) hx hb dX4_clear_4 (by decide) (fun hc => ?_) (fun hc => ?_)
  · replace hw := hw.1 hc
    refine lv_aload_n hx hb dX4_clear_10 rfl (lv_at hl 0 rfl) ?_
    refine ss_get (C := RX4) (T := TX4) (N := 9) (ci := 4) (v := .ref (L (2))) F hC (0) u_X4 (Nat.le_of_ble_eq_true rfl) rfl rfl 1 (by decide) f_18 rfl dX4_clear_11 ?_
    refine lv_iload_n hx hb dX4_clear_14 rfl (lv_at hl 1 rfl) ?_
    have hv3 := hw.1
    replace hw := hw.2
    refine ss_aald (v := L (9 + 3 * (Int32.toNatClampNeg x1))) F hC 2 2 (Nat.le_of_ble_eq_true rfl) rfl rfl hv3 rfl dX4_clear_15 ?_
    refine ss_ki (ss_rVN (C := RX3) (host := RX4) (As := []) (rest := []) F ((mX3_rank l D A L wr cI cZ cS σ1 (9 + 3 * (Int32.toNatClampNeg x1)) (isSp_slot hv3)) _) gX4_clear_X3_rank_n97 rfl ⟨rfl, rfl⟩ dvX3_rank (by decide +kernel) ⟨by decide +kernel, by decide +kernel, by decide +kernel⟩ ⟨Nat.le_of_ble_eq_true rfl, Nat.le_of_ble_eq_true rfl⟩ (ss_preV F.2.2.2.2.1 F.2.2.2.2.2 hC (ss_rec (C := RX3) (T := TX3) (N := 4) (ci := 3) F.2.2.2.2.1 hC (9 + 3 * (Int32.toNatClampNeg x1)) (isSp_slot hv3).lt (ceC_sp (L := L) (cI := cI) (cS := cS) (isSp_slot hv3) _) rfl) hw) rfl hl.1 rfl (Nat.le_of_ble_eq_true rfl) dX4_clear_16 ⟨Nat.zero_le _, Nat.zero_le _⟩) hC (fun r5 σ4 H locs hC hw => ?_)
    refine lv_istore_n (lv' := [(2, .int (r5)), (0, .ref (L (0))), (1, .int (x1))]) hx hb dX4_clear_19 rfl hl (by decide) rfl (fun ls hl => ?_)
    refine lv_aload_n hx hb dX4_clear_20 rfl (lv_at hl 1 rfl) ?_
    refine ss_get (C := RX4) (T := TX4) (N := 9) (ci := 4) (v := .ref (L (2))) F hC (0) u_X4 (Nat.le_of_ble_eq_true rfl) rfl rfl 1 (by decide) f_18 rfl dX4_clear_21 ?_
    refine lv_iload_n hx hb dX4_clear_24 rfl (lv_at hl 2 rfl) ?_
    have hv6 := hw.1
    replace hw := hw.2
    refine ss_aald (v := L (9 + 3 * (Int32.toNatClampNeg x1))) F hC 2 2 (Nat.le_of_ble_eq_true rfl) rfl rfl hv6 rfl dX4_clear_25 ?_
    refine ss_kv (ss_rVN (C := RX3) (host := RX4) (As := []) (rest := []) F ((mX3_becomeZero l D A L wr cI cZ cS σ4 (9 + 3 * (Int32.toNatClampNeg x1)) (isSp_slot hv6)) _) gX4_clear_X3_becomeZero_n58 rfl ⟨rfl, rfl⟩ dvX3_becomeZero (by decide +kernel) ⟨by decide +kernel, by decide +kernel, by decide +kernel⟩ ⟨Nat.le_of_ble_eq_true rfl, Nat.le_of_ble_eq_true rfl⟩ (ss_preV F.2.2.2.2.1 F.2.2.2.2.2 hC (ss_rec (C := RX3) (T := TX3) (N := 4) (ci := 3) F.2.2.2.2.1 hC (9 + 3 * (Int32.toNatClampNeg x1)) (isSp_slot hv6).lt (ceC_sp (L := L) (cI := cI) (cS := cS) (isSp_slot hv6) _) rfl) hw) rfl hl.1 rfl (Nat.le_of_ble_eq_true rfl) dX4_clear_26 ⟨Nat.zero_le _, Nat.zero_le _⟩) hC (fun σ7 H locs hC hw => ?_)
    refine lv_iload_n hx hb dX4_clear_29 rfl (lv_at hl 0 rfl) ?_
    exact ss_iret F hC hw dX4_clear_30
  · replace hw := hw.2 hc
    refine lv_bipush (v := -101) hx hb dX4_clear_7 (by decide) ?_
    exact ss_iret F hC hw dX4_clear_9

theorem mX4_clear (l : Launch) (D : va_G) (A : Nat → Prop) (L : Nat → Nat) (wr : va_W) (cI cZ cS : ClassId) (σ : ss_S) (x1 : Int32)  : ss_MI l yX4_clear wsX4_clear rmX4_clear (ss_EC D A L wr cI cZ cS) [.ref (L (0)), .int (x1)] σ (fun post => wX4_clear x1 σ post) :=
  ss_MI.of (cc := cX4_clear) (nL := 3) (ret := (some .int)) (own := RX4) (by decide) rfl rfl (Nat.le_of_ble_eq_true rfl) (fun post p e R s m below meth c H locs ls F hC hl hw => bX4_clear F  σ H locs ls hC hl hw)

set_option maxHeartbeats 4000000 in
set_option maxRecDepth 100000 in
theorem bX4_dim {x1 : Int32} {post : Int32 → ss_S → Prop} (F : ss_F p R s m args meth c (ss_EC D A L wr cI cZ cS) cX4_dim 2 wsX4_dim RX4 (some .int) rmX4_dim)  : ∀ (σ : ss_S) (H : Heap) (locs : List Loc) (ls : Array Slot), ss_C (ss_EC D A L wr cI cZ cS) σ s H locs → lv_has ls 2 [(0, .ref (L (0))), (1, .int (x1))] → wX4_dim x1 σ post → W p l e R s m args below meth c H locs 0 0 (MQ below (va_Qi post (ss_B (ss_EC D A L wr cI cZ cS)) A) args s 0 0 A) (F0 m 0 ls []) := by
  have hx := F.1.1
  have hb := F.1.2.1
  have u_X4 : ∀ w ∈ u_ws RX4 TX4 9, w ∈ wsX4_dim := by decide +kernel
  have f_18 : (Cond.fieldLink RX4 18 "SmallSpaces" "slots" "[LSmallSpaces$Space;").before args s = true := F.1.2.2.2.2 _ (by decide +kernel)
  intro σ H locs ls hC hl hw
  unfold wX4_dim at hw
  refine lv_iload_n hx hb dX4_dim_0 rfl (lv_at hl 1 rfl) ?_
  refine ss_ki (ss_rS (As := [.int (x1)]) (rest := []) F ((mX4_isSlot l D A L wr cI cZ cS σ x1) _) gX4_dim_X4_isSlot rfl ⟨rfl, rfl⟩ dvX4_isSlot ⟨Nat.le_of_ble_eq_true rfl, Nat.le_of_ble_eq_true rfl⟩ (ss_preS F.2.2.2.2.1 F.2.2.2.2.2 hC hw) rfl hl.1 rfl (Nat.le_of_ble_eq_true rfl) dX4_dim_1 ⟨Nat.zero_le _, Nat.zero_le _⟩) hC (fun r2 σ1 H locs hC hw => ?_)
  refine lv_if_eq (tgt := 19) hx hb dX4_dim_4 (by decide) (fun hc => ?_) (fun hc => ?_)
  · replace hw := hw.1 hc
    refine lv_bipush (v := -101) hx hb dX4_dim_19 (by decide) ?_
    exact ss_iret F hC hw dX4_dim_21
  · replace hw := hw.2 hc
    refine lv_aload_n hx hb dX4_dim_7 rfl (lv_at hl 0 rfl) ?_
    refine ss_get (C := RX4) (T := TX4) (N := 9) (ci := 4) (v := .ref (L (2))) F hC (0) u_X4 (Nat.le_of_ble_eq_true rfl) rfl rfl 1 (by decide) f_18 rfl dX4_dim_8 ?_
    refine lv_iload_n hx hb dX4_dim_11 rfl (lv_at hl 1 rfl) ?_
    have hv3 := hw.1
    replace hw := hw.2
    refine ss_aald (v := L (9 + 3 * (Int32.toNatClampNeg x1))) F hC 2 2 (Nat.le_of_ble_eq_true rfl) rfl rfl hv3 rfl dX4_dim_12 ?_
    refine ss_ki (ss_rVN (C := RX3) (host := RX4) (As := []) (rest := []) F ((mX3_rank l D A L wr cI cZ cS σ1 (9 + 3 * (Int32.toNatClampNeg x1)) (isSp_slot hv3)) _) gX4_dim_X3_rank_n97 rfl ⟨rfl, rfl⟩ dvX3_rank (by decide +kernel) ⟨by decide +kernel, by decide +kernel, by decide +kernel⟩ ⟨Nat.le_of_ble_eq_true rfl, Nat.le_of_ble_eq_true rfl⟩ (ss_preV F.2.2.2.2.1 F.2.2.2.2.2 hC (ss_rec (C := RX3) (T := TX3) (N := 4) (ci := 3) F.2.2.2.2.1 hC (9 + 3 * (Int32.toNatClampNeg x1)) (isSp_slot hv3).lt (ceC_sp (L := L) (cI := cI) (cS := cS) (isSp_slot hv3) _) rfl) hw) rfl hl.1 rfl (Nat.le_of_ble_eq_true rfl) dX4_dim_13 ⟨Nat.zero_le _, Nat.zero_le _⟩) hC (fun r5 σ4 H locs hC hw => ?_)
    refine lv_goto (tgt := 21) hx hb dX4_dim_16 (by decide) ?_
    exact ss_iret F hC hw dX4_dim_21

theorem mX4_dim (l : Launch) (D : va_G) (A : Nat → Prop) (L : Nat → Nat) (wr : va_W) (cI cZ cS : ClassId) (σ : ss_S) (x1 : Int32)  : ss_MI l yX4_dim wsX4_dim rmX4_dim (ss_EC D A L wr cI cZ cS) [.ref (L (0)), .int (x1)] σ (fun post => wX4_dim x1 σ post) :=
  ss_MI.of (cc := cX4_dim) (nL := 2) (ret := (some .int)) (own := RX4) (by decide) rfl rfl (Nat.le_of_ble_eq_true rfl) (fun post p e R s m below meth c H locs ls F hC hl hw => bX4_dim F  σ H locs ls hC hl hw)

set_option maxHeartbeats 4000000 in
set_option maxRecDepth 100000 in
theorem bX4_row {x1 : Int32} {x2 : Int32} {post : Int32 → ss_S → Prop} (F : ss_F p R s m args meth c (ss_EC D A L wr cI cZ cS) cX4_row 3 wsX4_row RX4 (some .int) rmX4_row)  : ∀ (σ : ss_S) (H : Heap) (locs : List Loc) (ls : Array Slot), ss_C (ss_EC D A L wr cI cZ cS) σ s H locs → lv_has ls 3 [(0, .ref (L (0))), (1, .int (x1)), (2, .int (x2))] → wX4_row x1 x2 σ post → W p l e R s m args below meth c H locs 0 0 (MQ below (va_Qi post (ss_B (ss_EC D A L wr cI cZ cS)) A) args s 0 0 A) (F0 m 0 ls []) := by
  have hx := F.1.1
  have hb := F.1.2.1
  have u_X4 : ∀ w ∈ u_ws RX4 TX4 9, w ∈ wsX4_row := by decide +kernel
  have f_18 : (Cond.fieldLink RX4 18 "SmallSpaces" "slots" "[LSmallSpaces$Space;").before args s = true := F.1.2.2.2.2 _ (by decide +kernel)
  intro σ H locs ls hC hl hw
  unfold wX4_row at hw
  refine lv_iload_n hx hb dX4_row_0 rfl (lv_at hl 1 rfl) ?_
  refine ss_ki (ss_rS (As := [.int (x1)]) (rest := []) F ((mX4_isSlot l D A L wr cI cZ cS σ x1) _) gX4_row_X4_isSlot rfl ⟨rfl, rfl⟩ dvX4_isSlot ⟨Nat.le_of_ble_eq_true rfl, Nat.le_of_ble_eq_true rfl⟩ (ss_preS F.2.2.2.2.1 F.2.2.2.2.2 hC hw) rfl hl.1 rfl (Nat.le_of_ble_eq_true rfl) dX4_row_1 ⟨Nat.zero_le _, Nat.zero_le _⟩) hC (fun r2 σ1 H locs hC hw => ?_)
  refine lv_if_eq (tgt := 20) hx hb dX4_row_4 (by decide) (fun hc => ?_) (fun hc => ?_)
  · replace hw := hw.1 hc
    refine lv_bipush (v := -101) hx hb dX4_row_20 (by decide) ?_
    exact ss_iret F hC hw dX4_row_22
  · replace hw := hw.2 hc
    refine lv_aload_n hx hb dX4_row_7 rfl (lv_at hl 0 rfl) ?_
    refine ss_get (C := RX4) (T := TX4) (N := 9) (ci := 4) (v := .ref (L (2))) F hC (0) u_X4 (Nat.le_of_ble_eq_true rfl) rfl rfl 1 (by decide) f_18 rfl dX4_row_8 ?_
    refine lv_iload_n hx hb dX4_row_11 rfl (lv_at hl 1 rfl) ?_
    have hv3 := hw.1
    replace hw := hw.2
    refine ss_aald (v := L (9 + 3 * (Int32.toNatClampNeg x1))) F hC 2 2 (Nat.le_of_ble_eq_true rfl) rfl rfl hv3 rfl dX4_row_12 ?_
    refine lv_iload_n hx hb dX4_row_13 rfl (lv_at hl 2 rfl) ?_
    refine ss_ki (ss_rVN (C := RX3) (host := RX4) (As := [.int (x2)]) (rest := []) F ((mX3_rowNumber l D A L wr cI cZ cS σ1 (9 + 3 * (Int32.toNatClampNeg x1)) x2 (isSp_slot hv3)) _) gX4_row_X3_rowNumber_n101 rfl ⟨rfl, rfl⟩ dvX3_rowNumber (by decide +kernel) ⟨by decide +kernel, by decide +kernel, by decide +kernel⟩ ⟨Nat.le_of_ble_eq_true rfl, Nat.le_of_ble_eq_true rfl⟩ (ss_preV F.2.2.2.2.1 F.2.2.2.2.2 hC (ss_rec (C := RX3) (T := TX3) (N := 4) (ci := 3) F.2.2.2.2.1 hC (9 + 3 * (Int32.toNatClampNeg x1)) (isSp_slot hv3).lt (ceC_sp (L := L) (cI := cI) (cS := cS) (isSp_slot hv3) _) rfl) hw) rfl hl.1 rfl (Nat.le_of_ble_eq_true rfl) dX4_row_14 ⟨Nat.zero_le _, Nat.zero_le _⟩) hC (fun r5 σ4 H locs hC hw => ?_)
    refine lv_goto (tgt := 22) hx hb dX4_row_17 (by decide) ?_
    exact ss_iret F hC hw dX4_row_22

theorem mX4_row (l : Launch) (D : va_G) (A : Nat → Prop) (L : Nat → Nat) (wr : va_W) (cI cZ cS : ClassId) (σ : ss_S) (x1 : Int32) (x2 : Int32)  : ss_MI l yX4_row wsX4_row rmX4_row (ss_EC D A L wr cI cZ cS) [.ref (L (0)), .int (x1), .int (x2)] σ (fun post => wX4_row x1 x2 σ post) :=
  ss_MI.of (cc := cX4_row) (nL := 3) (ret := (some .int)) (own := RX4) (by decide) rfl rfl (Nat.le_of_ble_eq_true rfl) (fun post p e R s m below meth c H locs ls F hC hl hw => bX4_row F  σ H locs ls hC hl hw)

set_option maxHeartbeats 4000000 in
set_option maxRecDepth 100000 in
theorem bX4_settle {s1 : Nat} {x2 : Int32} {post : Int32 → ss_S → Prop} (F : ss_F p R s m args meth c (ss_EC D A L wr cI cZ cS) cX4_settle 3 wsX4_settle RX4 (some .int) rmX4_settle) (h1 : isSp s1) : ∀ (σ : ss_S) (H : Heap) (locs : List Loc) (ls : Array Slot), ss_C (ss_EC D A L wr cI cZ cS) σ s H locs → lv_has ls 3 [(0, .ref (L (0))), (1, .ref (L (s1))), (2, .int (x2))] → wX4_settle s1 x2 σ post → W p l e R s m args below meth c H locs 0 0 (MQ below (va_Qi post (ss_B (ss_EC D A L wr cI cZ cS)) A) args s 0 0 A) (F0 m 0 ls []) := by
  have hx := F.1.1
  have hb := F.1.2.1
  have u_X4 : ∀ w ∈ u_ws RX4 TX4 9, w ∈ wsX4_settle := by decide +kernel
  have f_18 : (Cond.fieldLink RX4 18 "SmallSpaces" "slots" "[LSmallSpaces$Space;").before args s = true := F.1.2.2.2.2 _ (by decide +kernel)
  intro σ H locs ls hC hl hw
  unfold wX4_settle at hw
  refine lv_aload_n hx hb dX4_settle_0 rfl (lv_at hl 0 rfl) ?_
  refine ss_get (C := RX4) (T := TX4) (N := 9) (ci := 4) (v := .ref (L (2))) F hC (0) u_X4 (Nat.le_of_ble_eq_true rfl) rfl rfl 1 (by decide) f_18 rfl dX4_settle_1 ?_
  refine lv_iload_n hx hb dX4_settle_4 rfl (lv_at hl 2 rfl) ?_
  have hv1 := hw.1
  replace hw := hw.2
  refine ss_aald (v := L (9 + 3 * (Int32.toNatClampNeg x2))) F hC 2 2 (Nat.le_of_ble_eq_true rfl) rfl rfl hv1 rfl dX4_settle_5 ?_
  refine lv_aload_n hx hb dX4_settle_6 rfl (lv_at hl 1 rfl) ?_
  refine ss_kv (ss_rVN (C := RX3) (host := RX4) (As := [.ref (L (s1))]) (rest := []) F ((mX3_copyFrom l D A L wr cI cZ cS σ (9 + 3 * (Int32.toNatClampNeg x2)) s1 (isSp_slot hv1) h1) _) gX4_settle_X3_copyFrom_n104 rfl ⟨rfl, rfl⟩ dvX3_copyFrom (by decide +kernel) ⟨by decide +kernel, by decide +kernel, by decide +kernel⟩ ⟨Nat.le_of_ble_eq_true rfl, Nat.le_of_ble_eq_true rfl⟩ (ss_preV F.2.2.2.2.1 F.2.2.2.2.2 hC (ss_rec (C := RX3) (T := TX3) (N := 4) (ci := 3) F.2.2.2.2.1 hC (9 + 3 * (Int32.toNatClampNeg x2)) (isSp_slot hv1).lt (ceC_sp (L := L) (cI := cI) (cS := cS) (isSp_slot hv1) _) rfl) hw) rfl hl.1 rfl (Nat.le_of_ble_eq_true rfl) dX4_settle_7 ⟨Nat.zero_le _, Nat.zero_le _⟩) hC (fun σ2 H locs hC hw => ?_)
  refine lv_aload_n hx hb dX4_settle_10 rfl (lv_at hl 1 rfl) ?_
  refine ss_ki (ss_rVN (C := RX3) (host := RX4) (As := []) (rest := []) F ((mX3_rank l D A L wr cI cZ cS σ2 s1 h1) _) gX4_settle_X3_rank_n97 rfl ⟨rfl, rfl⟩ dvX3_rank (by decide +kernel) ⟨by decide +kernel, by decide +kernel, by decide +kernel⟩ ⟨Nat.le_of_ble_eq_true rfl, Nat.le_of_ble_eq_true rfl⟩ (ss_preV F.2.2.2.2.1 F.2.2.2.2.2 hC (ss_rec (C := RX3) (T := TX3) (N := 4) (ci := 3) F.2.2.2.2.1 hC (s1) h1.lt (ceC_sp (L := L) (cI := cI) (cS := cS) h1 _) rfl) hw) rfl hl.1 rfl (Nat.le_of_ble_eq_true rfl) dX4_settle_11 ⟨Nat.zero_le _, Nat.zero_le _⟩) hC (fun r4 σ3 H locs hC hw => ?_)
  exact ss_iret F hC hw dX4_settle_14

theorem mX4_settle (l : Launch) (D : va_G) (A : Nat → Prop) (L : Nat → Nat) (wr : va_W) (cI cZ cS : ClassId) (σ : ss_S) (s1 : Nat) (x2 : Int32) (h1 : isSp s1) : ss_MI l yX4_settle wsX4_settle rmX4_settle (ss_EC D A L wr cI cZ cS) [.ref (L (0)), .ref (L (s1)), .int (x2)] σ (fun post => wX4_settle s1 x2 σ post) :=
  ss_MI.of (cc := cX4_settle) (nL := 3) (ret := (some .int)) (own := RX4) (by decide) rfl rfl (Nat.le_of_ble_eq_true rfl) (fun post p e R s m below meth c H locs ls F hC hl hw => bX4_settle F h1 σ H locs ls hC hl hw)

set_option maxHeartbeats 4000000 in
set_option maxRecDepth 100000 in
theorem bX4_join {x1 : Int32} {x2 : Int32} {x3 : Int32} {post : Int32 → ss_S → Prop} (F : ss_F p R s m args meth c (ss_EC D A L wr cI cZ cS) cX4_join 4 wsX4_join RX4 (some .int) rmX4_join)  : ∀ (σ : ss_S) (H : Heap) (locs : List Loc) (ls : Array Slot), ss_C (ss_EC D A L wr cI cZ cS) σ s H locs → lv_has ls 4 [(0, .ref (L (0))), (1, .int (x1)), (2, .int (x2)), (3, .int (x3))] → wX4_join x1 x2 x3 σ post → W p l e R s m args below meth c H locs 0 0 (MQ below (va_Qi post (ss_B (ss_EC D A L wr cI cZ cS)) A) args s 0 0 A) (F0 m 0 ls []) := by
  have hx := F.1.1
  have hb := F.1.2.1
  have u_X4 : ∀ w ∈ u_ws RX4 TX4 9, w ∈ wsX4_join := by decide +kernel
  have f_39 : (Cond.fieldLink RX4 39 "SmallSpaces" "made" "LSmallSpaces$Space;").before args s = true := F.1.2.2.2.2 _ (by decide +kernel)
  have f_18 : (Cond.fieldLink RX4 18 "SmallSpaces" "slots" "[LSmallSpaces$Space;").before args s = true := F.1.2.2.2.2 _ (by decide +kernel)
  intro σ H locs ls hC hl hw
  unfold wX4_join at hw
  refine lv_iload_n hx hb dX4_join_0 rfl (lv_at hl 1 rfl) ?_
  refine ss_ki (ss_rS (As := [.int (x1)]) (rest := []) F ((mX4_isSlot l D A L wr cI cZ cS σ x1) _) gX4_join_X4_isSlot rfl ⟨rfl, rfl⟩ dvX4_isSlot ⟨Nat.le_of_ble_eq_true rfl, Nat.le_of_ble_eq_true rfl⟩ (ss_preS F.2.2.2.2.1 F.2.2.2.2.2 hC hw) rfl hl.1 rfl (Nat.le_of_ble_eq_true rfl) dX4_join_1 ⟨Nat.zero_le _, Nat.zero_le _⟩) hC (fun r2 σ1 H locs hC hw => ?_)
  refine lv_if_eq (tgt := 21) hx hb dX4_join_4 (by decide) (fun hc => ?_) (fun hc => ?_)
  · replace hw := hw.1 hc
    refine lv_bipush (v := -101) hx hb dX4_join_21 (by decide) ?_
    exact ss_iret F hC hw dX4_join_23
  · replace hw := hw.2 hc
    refine lv_iload_n hx hb dX4_join_7 rfl (lv_at hl 2 rfl) ?_
    refine ss_ki (ss_rS (As := [.int (x2)]) (rest := []) F ((mX4_isSlot l D A L wr cI cZ cS σ1 x2) _) gX4_join_X4_isSlot rfl ⟨rfl, rfl⟩ dvX4_isSlot ⟨Nat.le_of_ble_eq_true rfl, Nat.le_of_ble_eq_true rfl⟩ (ss_preS F.2.2.2.2.1 F.2.2.2.2.2 hC hw) rfl hl.1 rfl (Nat.le_of_ble_eq_true rfl) dX4_join_8 ⟨Nat.zero_le _, Nat.zero_le _⟩) hC (fun r4 σ3 H locs hC hw => ?_)
    refine lv_if_eq (tgt := 21) hx hb dX4_join_11 (by decide) (fun hc => ?_) (fun hc => ?_)
    · replace hw := hw.1 hc
      refine lv_bipush (v := -101) hx hb dX4_join_21 (by decide) ?_
      exact ss_iret F hC hw dX4_join_23
    · replace hw := hw.2 hc
      refine lv_iload_n hx hb dX4_join_14 rfl (lv_at hl 3 rfl) ?_
      refine ss_ki (ss_rS (As := [.int (x3)]) (rest := []) F ((mX4_isSlot l D A L wr cI cZ cS σ3 x3) _) gX4_join_X4_isSlot rfl ⟨rfl, rfl⟩ dvX4_isSlot ⟨Nat.le_of_ble_eq_true rfl, Nat.le_of_ble_eq_true rfl⟩ (ss_preS F.2.2.2.2.1 F.2.2.2.2.2 hC hw) rfl hl.1 rfl (Nat.le_of_ble_eq_true rfl) dX4_join_15 ⟨Nat.zero_le _, Nat.zero_le _⟩) hC (fun r6 σ5 H locs hC hw => ?_)
      refine lv_if_ne (tgt := 24) hx hb dX4_join_18 (by decide) (fun hc => ?_) (fun hc => ?_)
      · replace hw := hw.1 hc
        refine lv_aload_n hx hb dX4_join_24 rfl (lv_at hl 0 rfl) ?_
        refine ss_get (C := RX4) (T := TX4) (N := 9) (ci := 4) (v := .ref (L (168))) F hC (0) u_X4 (Nat.le_of_ble_eq_true rfl) rfl rfl 4 (by decide) f_39 rfl dX4_join_25 ?_
        refine lv_aload_n hx hb dX4_join_28 rfl (lv_at hl 0 rfl) ?_
        refine ss_get (C := RX4) (T := TX4) (N := 9) (ci := 4) (v := .ref (L (2))) F hC (0) u_X4 (Nat.le_of_ble_eq_true rfl) rfl rfl 1 (by decide) f_18 rfl dX4_join_29 ?_
        refine lv_iload_n hx hb dX4_join_32 rfl (lv_at hl 1 rfl) ?_
        have hv7 := hw.1
        replace hw := hw.2
        refine ss_aald (v := L (9 + 3 * (Int32.toNatClampNeg x1))) F hC 2 2 (Nat.le_of_ble_eq_true rfl) rfl rfl hv7 rfl dX4_join_33 ?_
        refine ss_kv (ss_rVN (C := RX3) (host := RX4) (As := [.ref (L (9 + 3 * (Int32.toNatClampNeg x1)))]) (rest := []) F ((mX3_copyFrom l D A L wr cI cZ cS σ5 168 (9 + 3 * (Int32.toNatClampNeg x1)) isSp_168 (isSp_slot hv7)) _) gX4_join_X3_copyFrom_n104 rfl ⟨rfl, rfl⟩ dvX3_copyFrom (by decide +kernel) ⟨by decide +kernel, by decide +kernel, by decide +kernel⟩ ⟨Nat.le_of_ble_eq_true rfl, Nat.le_of_ble_eq_true rfl⟩ (ss_preV F.2.2.2.2.1 F.2.2.2.2.2 hC (ss_rec (C := RX3) (T := TX3) (N := 4) (ci := 3) F.2.2.2.2.1 hC (168) isSp_168.lt (ceC_sp (L := L) (cI := cI) (cS := cS) isSp_168 _) rfl) hw) rfl hl.1 rfl (Nat.le_of_ble_eq_true rfl) dX4_join_34 ⟨Nat.zero_le _, Nat.zero_le _⟩) hC (fun σ8 H locs hC hw => ?_)
        refine lv_aload_n hx hb dX4_join_37 rfl (lv_at hl 0 rfl) ?_
        refine ss_get (C := RX4) (T := TX4) (N := 9) (ci := 4) (v := .ref (L (168))) F hC (0) u_X4 (Nat.le_of_ble_eq_true rfl) rfl rfl 4 (by decide) f_39 rfl dX4_join_38 ?_
        refine lv_aload_n hx hb dX4_join_41 rfl (lv_at hl 0 rfl) ?_
        refine ss_get (C := RX4) (T := TX4) (N := 9) (ci := 4) (v := .ref (L (2))) F hC (0) u_X4 (Nat.le_of_ble_eq_true rfl) rfl rfl 1 (by decide) f_18 rfl dX4_join_42 ?_
        refine lv_iload_n hx hb dX4_join_45 rfl (lv_at hl 2 rfl) ?_
        have hv9 := hw.1
        replace hw := hw.2
        refine ss_aald (v := L (9 + 3 * (Int32.toNatClampNeg x2))) F hC 2 2 (Nat.le_of_ble_eq_true rfl) rfl rfl hv9 rfl dX4_join_46 ?_
        refine ss_kv (ss_rVN (C := RX3) (host := RX4) (As := [.ref (L (9 + 3 * (Int32.toNatClampNeg x2)))]) (rest := []) F ((mX3_joinSpace l D A L wr cI cZ cS σ8 168 (9 + 3 * (Int32.toNatClampNeg x2)) isSp_168 (isSp_slot hv9)) _) gX4_join_X3_joinSpace_n108 rfl ⟨rfl, rfl⟩ dvX3_joinSpace (by decide +kernel) ⟨by decide +kernel, by decide +kernel, by decide +kernel⟩ ⟨Nat.le_of_ble_eq_true rfl, Nat.le_of_ble_eq_true rfl⟩ (ss_preV F.2.2.2.2.1 F.2.2.2.2.2 hC (ss_rec (C := RX3) (T := TX3) (N := 4) (ci := 3) F.2.2.2.2.1 hC (168) isSp_168.lt (ceC_sp (L := L) (cI := cI) (cS := cS) isSp_168 _) rfl) hw) rfl hl.1 rfl (Nat.le_of_ble_eq_true rfl) dX4_join_47 ⟨Nat.zero_le _, Nat.zero_le _⟩) hC (fun σ10 H locs hC hw => ?_)
        refine lv_aload_n hx hb dX4_join_50 rfl (lv_at hl 0 rfl) ?_
        refine lv_aload_n hx hb dX4_join_51 rfl (lv_at hl 0 rfl) ?_
        refine ss_get (C := RX4) (T := TX4) (N := 9) (ci := 4) (v := .ref (L (168))) F hC (0) u_X4 (Nat.le_of_ble_eq_true rfl) rfl rfl 4 (by decide) f_39 rfl dX4_join_52 ?_
        refine lv_iload_n hx hb dX4_join_55 rfl (lv_at hl 3 rfl) ?_
        refine ss_ki (ss_rV (C := RX4) (As := [.ref (L (168)), .int (x3)]) (rest := []) F ((mX4_settle l D A L wr cI cZ cS σ10 168 x3 isSp_168) _) gX4_join_X4_settle rfl ⟨rfl, rfl⟩ ⟨rfl, dvX4_settle⟩ ⟨Nat.le_of_ble_eq_true rfl, Nat.le_of_ble_eq_true rfl⟩ (ss_preV F.2.2.2.2.1 F.2.2.2.2.2 hC (ss_rec (C := RX4) (T := TX4) (N := 9) (ci := 4) F.2.2.2.2.1 hC (0) (Nat.le_of_ble_eq_true rfl) rfl rfl) hw) rfl hl.1 rfl (Nat.le_of_ble_eq_true rfl) dX4_join_56 ⟨Nat.zero_le _, Nat.zero_le _⟩) hC (fun r12 σ11 H locs hC hw => ?_)
        exact ss_iret F hC hw dX4_join_59
      · replace hw := hw.2 hc
        refine lv_bipush (v := -101) hx hb dX4_join_21 (by decide) ?_
        exact ss_iret F hC hw dX4_join_23

theorem mX4_join (l : Launch) (D : va_G) (A : Nat → Prop) (L : Nat → Nat) (wr : va_W) (cI cZ cS : ClassId) (σ : ss_S) (x1 : Int32) (x2 : Int32) (x3 : Int32)  : ss_MI l yX4_join wsX4_join rmX4_join (ss_EC D A L wr cI cZ cS) [.ref (L (0)), .int (x1), .int (x2), .int (x3)] σ (fun post => wX4_join x1 x2 x3 σ post) :=
  ss_MI.of (cc := cX4_join) (nL := 4) (ret := (some .int)) (own := RX4) (by decide) rfl rfl (Nat.le_of_ble_eq_true rfl) (fun post p e R s m below meth c H locs ls F hC hl hw => bX4_join F  σ H locs ls hC hl hw)

set_option maxHeartbeats 4000000 in
set_option maxRecDepth 100000 in
theorem bX4_meet {x1 : Int32} {x2 : Int32} {x3 : Int32} {post : Int32 → ss_S → Prop} (F : ss_F p R s m args meth c (ss_EC D A L wr cI cZ cS) cX4_meet 4 wsX4_meet RX4 (some .int) rmX4_meet)  : ∀ (σ : ss_S) (H : Heap) (locs : List Loc) (ls : Array Slot), ss_C (ss_EC D A L wr cI cZ cS) σ s H locs → lv_has ls 4 [(0, .ref (L (0))), (1, .int (x1)), (2, .int (x2)), (3, .int (x3))] → wX4_meet x1 x2 x3 σ post → W p l e R s m args below meth c H locs 0 0 (MQ below (va_Qi post (ss_B (ss_EC D A L wr cI cZ cS)) A) args s 0 0 A) (F0 m 0 ls []) := by
  have hx := F.1.1
  have hb := F.1.2.1
  have u_X4 : ∀ w ∈ u_ws RX4 TX4 9, w ∈ wsX4_meet := by decide +kernel
  have f_39 : (Cond.fieldLink RX4 39 "SmallSpaces" "made" "LSmallSpaces$Space;").before args s = true := F.1.2.2.2.2 _ (by decide +kernel)
  have f_18 : (Cond.fieldLink RX4 18 "SmallSpaces" "slots" "[LSmallSpaces$Space;").before args s = true := F.1.2.2.2.2 _ (by decide +kernel)
  have f_43 : (Cond.fieldLink RX4 43 "SmallSpaces" "other" "LSmallSpaces$Space;").before args s = true := F.1.2.2.2.2 _ (by decide +kernel)
  intro σ H locs ls hC hl hw
  unfold wX4_meet at hw
  refine lv_iload_n hx hb dX4_meet_0 rfl (lv_at hl 1 rfl) ?_
  refine ss_ki (ss_rS (As := [.int (x1)]) (rest := []) F ((mX4_isSlot l D A L wr cI cZ cS σ x1) _) gX4_meet_X4_isSlot rfl ⟨rfl, rfl⟩ dvX4_isSlot ⟨Nat.le_of_ble_eq_true rfl, Nat.le_of_ble_eq_true rfl⟩ (ss_preS F.2.2.2.2.1 F.2.2.2.2.2 hC hw) rfl hl.1 rfl (Nat.le_of_ble_eq_true rfl) dX4_meet_1 ⟨Nat.zero_le _, Nat.zero_le _⟩) hC (fun r2 σ1 H locs hC hw => ?_)
  refine lv_if_eq (tgt := 21) hx hb dX4_meet_4 (by decide) (fun hc => ?_) (fun hc => ?_)
  · replace hw := hw.1 hc
    refine lv_bipush (v := -101) hx hb dX4_meet_21 (by decide) ?_
    exact ss_iret F hC hw dX4_meet_23
  · replace hw := hw.2 hc
    refine lv_iload_n hx hb dX4_meet_7 rfl (lv_at hl 2 rfl) ?_
    refine ss_ki (ss_rS (As := [.int (x2)]) (rest := []) F ((mX4_isSlot l D A L wr cI cZ cS σ1 x2) _) gX4_meet_X4_isSlot rfl ⟨rfl, rfl⟩ dvX4_isSlot ⟨Nat.le_of_ble_eq_true rfl, Nat.le_of_ble_eq_true rfl⟩ (ss_preS F.2.2.2.2.1 F.2.2.2.2.2 hC hw) rfl hl.1 rfl (Nat.le_of_ble_eq_true rfl) dX4_meet_8 ⟨Nat.zero_le _, Nat.zero_le _⟩) hC (fun r4 σ3 H locs hC hw => ?_)
    refine lv_if_eq (tgt := 21) hx hb dX4_meet_11 (by decide) (fun hc => ?_) (fun hc => ?_)
    · replace hw := hw.1 hc
      refine lv_bipush (v := -101) hx hb dX4_meet_21 (by decide) ?_
      exact ss_iret F hC hw dX4_meet_23
    · replace hw := hw.2 hc
      refine lv_iload_n hx hb dX4_meet_14 rfl (lv_at hl 3 rfl) ?_
      refine ss_ki (ss_rS (As := [.int (x3)]) (rest := []) F ((mX4_isSlot l D A L wr cI cZ cS σ3 x3) _) gX4_meet_X4_isSlot rfl ⟨rfl, rfl⟩ dvX4_isSlot ⟨Nat.le_of_ble_eq_true rfl, Nat.le_of_ble_eq_true rfl⟩ (ss_preS F.2.2.2.2.1 F.2.2.2.2.2 hC hw) rfl hl.1 rfl (Nat.le_of_ble_eq_true rfl) dX4_meet_15 ⟨Nat.zero_le _, Nat.zero_le _⟩) hC (fun r6 σ5 H locs hC hw => ?_)
      refine lv_if_ne (tgt := 24) hx hb dX4_meet_18 (by decide) (fun hc => ?_) (fun hc => ?_)
      · replace hw := hw.1 hc
        refine lv_aload_n hx hb dX4_meet_24 rfl (lv_at hl 0 rfl) ?_
        refine ss_get (C := RX4) (T := TX4) (N := 9) (ci := 4) (v := .ref (L (168))) F hC (0) u_X4 (Nat.le_of_ble_eq_true rfl) rfl rfl 4 (by decide) f_39 rfl dX4_meet_25 ?_
        refine lv_aload_n hx hb dX4_meet_28 rfl (lv_at hl 0 rfl) ?_
        refine ss_get (C := RX4) (T := TX4) (N := 9) (ci := 4) (v := .ref (L (2))) F hC (0) u_X4 (Nat.le_of_ble_eq_true rfl) rfl rfl 1 (by decide) f_18 rfl dX4_meet_29 ?_
        refine lv_iload_n hx hb dX4_meet_32 rfl (lv_at hl 1 rfl) ?_
        have hv7 := hw.1
        replace hw := hw.2
        refine ss_aald (v := L (9 + 3 * (Int32.toNatClampNeg x1))) F hC 2 2 (Nat.le_of_ble_eq_true rfl) rfl rfl hv7 rfl dX4_meet_33 ?_
        refine ss_kv (ss_rVN (C := RX3) (host := RX4) (As := [.ref (L (9 + 3 * (Int32.toNatClampNeg x1)))]) (rest := []) F ((mX3_becomeDual l D A L wr cI cZ cS σ5 168 (9 + 3 * (Int32.toNatClampNeg x1)) isSp_168 (isSp_slot hv7)) _) gX4_meet_X3_becomeDual_n115 rfl ⟨rfl, rfl⟩ dvX3_becomeDual (by decide +kernel) ⟨by decide +kernel, by decide +kernel, by decide +kernel⟩ ⟨Nat.le_of_ble_eq_true rfl, Nat.le_of_ble_eq_true rfl⟩ (ss_preV F.2.2.2.2.1 F.2.2.2.2.2 hC (ss_rec (C := RX3) (T := TX3) (N := 4) (ci := 3) F.2.2.2.2.1 hC (168) isSp_168.lt (ceC_sp (L := L) (cI := cI) (cS := cS) isSp_168 _) rfl) hw) rfl hl.1 rfl (Nat.le_of_ble_eq_true rfl) dX4_meet_34 ⟨Nat.zero_le _, Nat.zero_le _⟩) hC (fun σ8 H locs hC hw => ?_)
        refine lv_aload_n hx hb dX4_meet_37 rfl (lv_at hl 0 rfl) ?_
        refine ss_get (C := RX4) (T := TX4) (N := 9) (ci := 4) (v := .ref (L (171))) F hC (0) u_X4 (Nat.le_of_ble_eq_true rfl) rfl rfl 5 (by decide) f_43 rfl dX4_meet_38 ?_
        refine lv_aload_n hx hb dX4_meet_41 rfl (lv_at hl 0 rfl) ?_
        refine ss_get (C := RX4) (T := TX4) (N := 9) (ci := 4) (v := .ref (L (2))) F hC (0) u_X4 (Nat.le_of_ble_eq_true rfl) rfl rfl 1 (by decide) f_18 rfl dX4_meet_42 ?_
        refine lv_iload_n hx hb dX4_meet_45 rfl (lv_at hl 2 rfl) ?_
        have hv9 := hw.1
        replace hw := hw.2
        refine ss_aald (v := L (9 + 3 * (Int32.toNatClampNeg x2))) F hC 2 2 (Nat.le_of_ble_eq_true rfl) rfl rfl hv9 rfl dX4_meet_46 ?_
        refine ss_kv (ss_rVN (C := RX3) (host := RX4) (As := [.ref (L (9 + 3 * (Int32.toNatClampNeg x2)))]) (rest := []) F ((mX3_becomeDual l D A L wr cI cZ cS σ8 171 (9 + 3 * (Int32.toNatClampNeg x2)) isSp_171 (isSp_slot hv9)) _) gX4_meet_X3_becomeDual_n115 rfl ⟨rfl, rfl⟩ dvX3_becomeDual (by decide +kernel) ⟨by decide +kernel, by decide +kernel, by decide +kernel⟩ ⟨Nat.le_of_ble_eq_true rfl, Nat.le_of_ble_eq_true rfl⟩ (ss_preV F.2.2.2.2.1 F.2.2.2.2.2 hC (ss_rec (C := RX3) (T := TX3) (N := 4) (ci := 3) F.2.2.2.2.1 hC (171) isSp_171.lt (ceC_sp (L := L) (cI := cI) (cS := cS) isSp_171 _) rfl) hw) rfl hl.1 rfl (Nat.le_of_ble_eq_true rfl) dX4_meet_47 ⟨Nat.zero_le _, Nat.zero_le _⟩) hC (fun σ10 H locs hC hw => ?_)
        refine lv_aload_n hx hb dX4_meet_50 rfl (lv_at hl 0 rfl) ?_
        refine ss_get (C := RX4) (T := TX4) (N := 9) (ci := 4) (v := .ref (L (171))) F hC (0) u_X4 (Nat.le_of_ble_eq_true rfl) rfl rfl 5 (by decide) f_43 rfl dX4_meet_51 ?_
        refine lv_aload_n hx hb dX4_meet_54 rfl (lv_at hl 0 rfl) ?_
        refine ss_get (C := RX4) (T := TX4) (N := 9) (ci := 4) (v := .ref (L (168))) F hC (0) u_X4 (Nat.le_of_ble_eq_true rfl) rfl rfl 4 (by decide) f_39 rfl dX4_meet_55 ?_
        refine ss_kv (ss_rVN (C := RX3) (host := RX4) (As := [.ref (L (168))]) (rest := []) F ((mX3_joinSpace l D A L wr cI cZ cS σ10 171 168 isSp_171 isSp_168) _) gX4_meet_X3_joinSpace_n108 rfl ⟨rfl, rfl⟩ dvX3_joinSpace (by decide +kernel) ⟨by decide +kernel, by decide +kernel, by decide +kernel⟩ ⟨Nat.le_of_ble_eq_true rfl, Nat.le_of_ble_eq_true rfl⟩ (ss_preV F.2.2.2.2.1 F.2.2.2.2.2 hC (ss_rec (C := RX3) (T := TX3) (N := 4) (ci := 3) F.2.2.2.2.1 hC (171) isSp_171.lt (ceC_sp (L := L) (cI := cI) (cS := cS) isSp_171 _) rfl) hw) rfl hl.1 rfl (Nat.le_of_ble_eq_true rfl) dX4_meet_58 ⟨Nat.zero_le _, Nat.zero_le _⟩) hC (fun σ11 H locs hC hw => ?_)
        refine lv_aload_n hx hb dX4_meet_61 rfl (lv_at hl 0 rfl) ?_
        refine ss_get (C := RX4) (T := TX4) (N := 9) (ci := 4) (v := .ref (L (168))) F hC (0) u_X4 (Nat.le_of_ble_eq_true rfl) rfl rfl 4 (by decide) f_39 rfl dX4_meet_62 ?_
        refine lv_aload_n hx hb dX4_meet_65 rfl (lv_at hl 0 rfl) ?_
        refine ss_get (C := RX4) (T := TX4) (N := 9) (ci := 4) (v := .ref (L (171))) F hC (0) u_X4 (Nat.le_of_ble_eq_true rfl) rfl rfl 5 (by decide) f_43 rfl dX4_meet_66 ?_
        refine ss_kv (ss_rVN (C := RX3) (host := RX4) (As := [.ref (L (171))]) (rest := []) F ((mX3_becomeDual l D A L wr cI cZ cS σ11 168 171 isSp_168 isSp_171) _) gX4_meet_X3_becomeDual_n115 rfl ⟨rfl, rfl⟩ dvX3_becomeDual (by decide +kernel) ⟨by decide +kernel, by decide +kernel, by decide +kernel⟩ ⟨Nat.le_of_ble_eq_true rfl, Nat.le_of_ble_eq_true rfl⟩ (ss_preV F.2.2.2.2.1 F.2.2.2.2.2 hC (ss_rec (C := RX3) (T := TX3) (N := 4) (ci := 3) F.2.2.2.2.1 hC (168) isSp_168.lt (ceC_sp (L := L) (cI := cI) (cS := cS) isSp_168 _) rfl) hw) rfl hl.1 rfl (Nat.le_of_ble_eq_true rfl) dX4_meet_69 ⟨Nat.zero_le _, Nat.zero_le _⟩) hC (fun σ12 H locs hC hw => ?_)
        refine lv_aload_n hx hb dX4_meet_72 rfl (lv_at hl 0 rfl) ?_
        refine lv_aload_n hx hb dX4_meet_73 rfl (lv_at hl 0 rfl) ?_
        refine ss_get (C := RX4) (T := TX4) (N := 9) (ci := 4) (v := .ref (L (168))) F hC (0) u_X4 (Nat.le_of_ble_eq_true rfl) rfl rfl 4 (by decide) f_39 rfl dX4_meet_74 ?_
        refine lv_iload_n hx hb dX4_meet_77 rfl (lv_at hl 3 rfl) ?_
        refine ss_ki (ss_rV (C := RX4) (As := [.ref (L (168)), .int (x3)]) (rest := []) F ((mX4_settle l D A L wr cI cZ cS σ12 168 x3 isSp_168) _) gX4_meet_X4_settle rfl ⟨rfl, rfl⟩ ⟨rfl, dvX4_settle⟩ ⟨Nat.le_of_ble_eq_true rfl, Nat.le_of_ble_eq_true rfl⟩ (ss_preV F.2.2.2.2.1 F.2.2.2.2.2 hC (ss_rec (C := RX4) (T := TX4) (N := 9) (ci := 4) F.2.2.2.2.1 hC (0) (Nat.le_of_ble_eq_true rfl) rfl rfl) hw) rfl hl.1 rfl (Nat.le_of_ble_eq_true rfl) dX4_meet_78 ⟨Nat.zero_le _, Nat.zero_le _⟩) hC (fun r14 σ13 H locs hC hw => ?_)
        exact ss_iret F hC hw dX4_meet_81
      · replace hw := hw.2 hc
        refine lv_bipush (v := -101) hx hb dX4_meet_21 (by decide) ?_
        exact ss_iret F hC hw dX4_meet_23

theorem mX4_meet (l : Launch) (D : va_G) (A : Nat → Prop) (L : Nat → Nat) (wr : va_W) (cI cZ cS : ClassId) (σ : ss_S) (x1 : Int32) (x2 : Int32) (x3 : Int32)  : ss_MI l yX4_meet wsX4_meet rmX4_meet (ss_EC D A L wr cI cZ cS) [.ref (L (0)), .int (x1), .int (x2), .int (x3)] σ (fun post => wX4_meet x1 x2 x3 σ post) :=
  ss_MI.of (cc := cX4_meet) (nL := 4) (ret := (some .int)) (own := RX4) (by decide) rfl rfl (Nat.le_of_ble_eq_true rfl) (fun post p e R s m below meth c H locs ls F hC hl hw => bX4_meet F  σ H locs ls hC hl hw)

set_option maxHeartbeats 4000000 in
set_option maxRecDepth 100000 in
theorem bX4_dual {x1 : Int32} {x2 : Int32} {post : Int32 → ss_S → Prop} (F : ss_F p R s m args meth c (ss_EC D A L wr cI cZ cS) cX4_dual 3 wsX4_dual RX4 (some .int) rmX4_dual)  : ∀ (σ : ss_S) (H : Heap) (locs : List Loc) (ls : Array Slot), ss_C (ss_EC D A L wr cI cZ cS) σ s H locs → lv_has ls 3 [(0, .ref (L (0))), (1, .int (x1)), (2, .int (x2))] → wX4_dual x1 x2 σ post → W p l e R s m args below meth c H locs 0 0 (MQ below (va_Qi post (ss_B (ss_EC D A L wr cI cZ cS)) A) args s 0 0 A) (F0 m 0 ls []) := by
  have hx := F.1.1
  have hb := F.1.2.1
  have u_X4 : ∀ w ∈ u_ws RX4 TX4 9, w ∈ wsX4_dual := by decide +kernel
  have f_39 : (Cond.fieldLink RX4 39 "SmallSpaces" "made" "LSmallSpaces$Space;").before args s = true := F.1.2.2.2.2 _ (by decide +kernel)
  have f_18 : (Cond.fieldLink RX4 18 "SmallSpaces" "slots" "[LSmallSpaces$Space;").before args s = true := F.1.2.2.2.2 _ (by decide +kernel)
  intro σ H locs ls hC hl hw
  unfold wX4_dual at hw
  refine lv_iload_n hx hb dX4_dual_0 rfl (lv_at hl 1 rfl) ?_
  refine ss_ki (ss_rS (As := [.int (x1)]) (rest := []) F ((mX4_isSlot l D A L wr cI cZ cS σ x1) _) gX4_dual_X4_isSlot rfl ⟨rfl, rfl⟩ dvX4_isSlot ⟨Nat.le_of_ble_eq_true rfl, Nat.le_of_ble_eq_true rfl⟩ (ss_preS F.2.2.2.2.1 F.2.2.2.2.2 hC hw) rfl hl.1 rfl (Nat.le_of_ble_eq_true rfl) dX4_dual_1 ⟨Nat.zero_le _, Nat.zero_le _⟩) hC (fun r2 σ1 H locs hC hw => ?_)
  refine lv_if_eq (tgt := 14) hx hb dX4_dual_4 (by decide) (fun hc => ?_) (fun hc => ?_)
  · replace hw := hw.1 hc
    refine lv_bipush (v := -101) hx hb dX4_dual_14 (by decide) ?_
    exact ss_iret F hC hw dX4_dual_16
  · replace hw := hw.2 hc
    refine lv_iload_n hx hb dX4_dual_7 rfl (lv_at hl 2 rfl) ?_
    refine ss_ki (ss_rS (As := [.int (x2)]) (rest := []) F ((mX4_isSlot l D A L wr cI cZ cS σ1 x2) _) gX4_dual_X4_isSlot rfl ⟨rfl, rfl⟩ dvX4_isSlot ⟨Nat.le_of_ble_eq_true rfl, Nat.le_of_ble_eq_true rfl⟩ (ss_preS F.2.2.2.2.1 F.2.2.2.2.2 hC hw) rfl hl.1 rfl (Nat.le_of_ble_eq_true rfl) dX4_dual_8 ⟨Nat.zero_le _, Nat.zero_le _⟩) hC (fun r4 σ3 H locs hC hw => ?_)
    refine lv_if_ne (tgt := 17) hx hb dX4_dual_11 (by decide) (fun hc => ?_) (fun hc => ?_)
    · replace hw := hw.1 hc
      refine lv_aload_n hx hb dX4_dual_17 rfl (lv_at hl 0 rfl) ?_
      refine ss_get (C := RX4) (T := TX4) (N := 9) (ci := 4) (v := .ref (L (168))) F hC (0) u_X4 (Nat.le_of_ble_eq_true rfl) rfl rfl 4 (by decide) f_39 rfl dX4_dual_18 ?_
      refine lv_aload_n hx hb dX4_dual_21 rfl (lv_at hl 0 rfl) ?_
      refine ss_get (C := RX4) (T := TX4) (N := 9) (ci := 4) (v := .ref (L (2))) F hC (0) u_X4 (Nat.le_of_ble_eq_true rfl) rfl rfl 1 (by decide) f_18 rfl dX4_dual_22 ?_
      refine lv_iload_n hx hb dX4_dual_25 rfl (lv_at hl 1 rfl) ?_
      have hv5 := hw.1
      replace hw := hw.2
      refine ss_aald (v := L (9 + 3 * (Int32.toNatClampNeg x1))) F hC 2 2 (Nat.le_of_ble_eq_true rfl) rfl rfl hv5 rfl dX4_dual_26 ?_
      refine ss_kv (ss_rVN (C := RX3) (host := RX4) (As := [.ref (L (9 + 3 * (Int32.toNatClampNeg x1)))]) (rest := []) F ((mX3_becomeDual l D A L wr cI cZ cS σ3 168 (9 + 3 * (Int32.toNatClampNeg x1)) isSp_168 (isSp_slot hv5)) _) gX4_dual_X3_becomeDual_n115 rfl ⟨rfl, rfl⟩ dvX3_becomeDual (by decide +kernel) ⟨by decide +kernel, by decide +kernel, by decide +kernel⟩ ⟨Nat.le_of_ble_eq_true rfl, Nat.le_of_ble_eq_true rfl⟩ (ss_preV F.2.2.2.2.1 F.2.2.2.2.2 hC (ss_rec (C := RX3) (T := TX3) (N := 4) (ci := 3) F.2.2.2.2.1 hC (168) isSp_168.lt (ceC_sp (L := L) (cI := cI) (cS := cS) isSp_168 _) rfl) hw) rfl hl.1 rfl (Nat.le_of_ble_eq_true rfl) dX4_dual_27 ⟨Nat.zero_le _, Nat.zero_le _⟩) hC (fun σ6 H locs hC hw => ?_)
      refine lv_aload_n hx hb dX4_dual_30 rfl (lv_at hl 0 rfl) ?_
      refine lv_aload_n hx hb dX4_dual_31 rfl (lv_at hl 0 rfl) ?_
      refine ss_get (C := RX4) (T := TX4) (N := 9) (ci := 4) (v := .ref (L (168))) F hC (0) u_X4 (Nat.le_of_ble_eq_true rfl) rfl rfl 4 (by decide) f_39 rfl dX4_dual_32 ?_
      refine lv_iload_n hx hb dX4_dual_35 rfl (lv_at hl 2 rfl) ?_
      refine ss_ki (ss_rV (C := RX4) (As := [.ref (L (168)), .int (x2)]) (rest := []) F ((mX4_settle l D A L wr cI cZ cS σ6 168 x2 isSp_168) _) gX4_dual_X4_settle rfl ⟨rfl, rfl⟩ ⟨rfl, dvX4_settle⟩ ⟨Nat.le_of_ble_eq_true rfl, Nat.le_of_ble_eq_true rfl⟩ (ss_preV F.2.2.2.2.1 F.2.2.2.2.2 hC (ss_rec (C := RX4) (T := TX4) (N := 9) (ci := 4) F.2.2.2.2.1 hC (0) (Nat.le_of_ble_eq_true rfl) rfl rfl) hw) rfl hl.1 rfl (Nat.le_of_ble_eq_true rfl) dX4_dual_36 ⟨Nat.zero_le _, Nat.zero_le _⟩) hC (fun r8 σ7 H locs hC hw => ?_)
      exact ss_iret F hC hw dX4_dual_39
    · replace hw := hw.2 hc
      refine lv_bipush (v := -101) hx hb dX4_dual_14 (by decide) ?_
      exact ss_iret F hC hw dX4_dual_16

theorem mX4_dual (l : Launch) (D : va_G) (A : Nat → Prop) (L : Nat → Nat) (wr : va_W) (cI cZ cS : ClassId) (σ : ss_S) (x1 : Int32) (x2 : Int32)  : ss_MI l yX4_dual wsX4_dual rmX4_dual (ss_EC D A L wr cI cZ cS) [.ref (L (0)), .int (x1), .int (x2)] σ (fun post => wX4_dual x1 x2 σ post) :=
  ss_MI.of (cc := cX4_dual) (nL := 3) (ret := (some .int)) (own := RX4) (by decide) rfl rfl (Nat.le_of_ble_eq_true rfl) (fun post p e R s m below meth c H locs ls F hC hl hw => bX4_dual F  σ H locs ls hC hl hw)

set_option maxHeartbeats 4000000 in
set_option maxRecDepth 100000 in
theorem bX4_has {x1 : Int32} {x2 : Int32} {post : Int32 → ss_S → Prop} (F : ss_F p R s m args meth c (ss_EC D A L wr cI cZ cS) cX4_has 3 wsX4_has RX4 (some .int) rmX4_has)  : ∀ (σ : ss_S) (H : Heap) (locs : List Loc) (ls : Array Slot), ss_C (ss_EC D A L wr cI cZ cS) σ s H locs → lv_has ls 3 [(0, .ref (L (0))), (1, .int (x1)), (2, .int (x2))] → wX4_has x1 x2 σ post → W p l e R s m args below meth c H locs 0 0 (MQ below (va_Qi post (ss_B (ss_EC D A L wr cI cZ cS)) A) args s 0 0 A) (F0 m 0 ls []) := by
  have hx := F.1.1
  have hb := F.1.2.1
  have u_X4 : ∀ w ∈ u_ws RX4 TX4 9, w ∈ wsX4_has := by decide +kernel
  have f_10 : (Cond.fieldLink RX4 10 "SmallSpaces" "frame" "LSmallSpaces$Frame;").before args s = true := F.1.2.2.2.2 _ (by decide +kernel)
  have f_46 : (Cond.fieldLink RX4 46 "SmallSpaces" "figures" "[I").before args s = true := F.1.2.2.2.2 _ (by decide +kernel)
  have f_18 : (Cond.fieldLink RX4 18 "SmallSpaces" "slots" "[LSmallSpaces$Space;").before args s = true := F.1.2.2.2.2 _ (by decide +kernel)
  intro σ H locs ls hC hl hw
  unfold wX4_has at hw
  refine lv_iload_n hx hb dX4_has_0 rfl (lv_at hl 1 rfl) ?_
  refine ss_ki (ss_rS (As := [.int (x1)]) (rest := []) F ((mX4_isSlot l D A L wr cI cZ cS σ x1) _) gX4_has_X4_isSlot rfl ⟨rfl, rfl⟩ dvX4_isSlot ⟨Nat.le_of_ble_eq_true rfl, Nat.le_of_ble_eq_true rfl⟩ (ss_preS F.2.2.2.2.1 F.2.2.2.2.2 hC hw) rfl hl.1 rfl (Nat.le_of_ble_eq_true rfl) dX4_has_1 ⟨Nat.zero_le _, Nat.zero_le _⟩) hC (fun r2 σ1 H locs hC hw => ?_)
  refine lv_if_eq (tgt := 18) hx hb dX4_has_4 (by decide) (fun hc => ?_) (fun hc => ?_)
  · replace hw := hw.1 hc
    refine lv_bipush (v := -101) hx hb dX4_has_18 (by decide) ?_
    exact ss_iret F hC hw dX4_has_20
  · replace hw := hw.2 hc
    refine lv_aload_n hx hb dX4_has_7 rfl (lv_at hl 0 rfl) ?_
    refine ss_get (C := RX4) (T := TX4) (N := 9) (ci := 4) (v := .ref (L (1))) F hC (0) u_X4 (Nat.le_of_ble_eq_true rfl) rfl rfl 0 (by decide) f_10 rfl dX4_has_8 ?_
    refine lv_iload_n hx hb dX4_has_11 rfl (lv_at hl 2 rfl) ?_
    refine ss_ki (ss_rVN (C := RX0) (host := RX4) (As := [.int (x2)]) (rest := []) F ((mX0_isVector l D A L wr cI cZ cS σ1 x2) _) gX4_has_X0_isVector_n71 rfl ⟨rfl, rfl⟩ dvX0_isVector (by decide +kernel) ⟨by decide +kernel, by decide +kernel, by decide +kernel⟩ ⟨Nat.le_of_ble_eq_true rfl, Nat.le_of_ble_eq_true rfl⟩ (ss_preV F.2.2.2.2.1 F.2.2.2.2.2 hC (ss_rec (C := RX0) (T := TX0) (N := 3) (ci := 0) F.2.2.2.2.1 hC (1) (Nat.le_of_ble_eq_true rfl) rfl rfl) hw) rfl hl.1 rfl (Nat.le_of_ble_eq_true rfl) dX4_has_12 ⟨Nat.zero_le _, Nat.zero_le _⟩) hC (fun r4 σ3 H locs hC hw => ?_)
    refine lv_if_ne (tgt := 21) hx hb dX4_has_15 (by decide) (fun hc => ?_) (fun hc => ?_)
    · replace hw := hw.1 hc
      refine lv_aload_n hx hb dX4_has_21 rfl (lv_at hl 0 rfl) ?_
      refine ss_get (C := RX4) (T := TX4) (N := 9) (ci := 4) (v := .ref (L (1))) F hC (0) u_X4 (Nat.le_of_ble_eq_true rfl) rfl rfl 0 (by decide) f_10 rfl dX4_has_22 ?_
      refine lv_iload_n hx hb dX4_has_25 rfl (lv_at hl 2 rfl) ?_
      refine lv_aload_n hx hb dX4_has_26 rfl (lv_at hl 0 rfl) ?_
      refine ss_get (C := RX4) (T := TX4) (N := 9) (ci := 4) (v := .ref (L (6))) F hC (0) u_X4 (Nat.le_of_ble_eq_true rfl) rfl rfl 6 (by decide) f_46 rfl dX4_has_27 ?_
      refine lv_iconst (v := 0) hx hb dX4_has_30 (by decide) ?_
      refine ss_kv (ss_rVN (C := RX0) (host := RX4) (As := [.int (x2), .ref (L (6)), .int (0)]) (rest := []) F ((mX0_spell l D A L wr cI cZ cS σ3 x2 6 0 isAr_6) _) gX4_has_X0_spell_n89 rfl ⟨rfl, rfl⟩ dvX0_spell (by decide +kernel) ⟨by decide +kernel, by decide +kernel, by decide +kernel⟩ ⟨Nat.le_of_ble_eq_true rfl, Nat.le_of_ble_eq_true rfl⟩ (ss_preV F.2.2.2.2.1 F.2.2.2.2.2 hC (ss_rec (C := RX0) (T := TX0) (N := 3) (ci := 0) F.2.2.2.2.1 hC (1) (Nat.le_of_ble_eq_true rfl) rfl rfl) hw) rfl hl.1 rfl (Nat.le_of_ble_eq_true rfl) dX4_has_31 ⟨Nat.zero_le _, Nat.zero_le _⟩) hC (fun σ5 H locs hC hw => ?_)
      refine lv_aload_n hx hb dX4_has_34 rfl (lv_at hl 0 rfl) ?_
      refine ss_get (C := RX4) (T := TX4) (N := 9) (ci := 4) (v := .ref (L (2))) F hC (0) u_X4 (Nat.le_of_ble_eq_true rfl) rfl rfl 1 (by decide) f_18 rfl dX4_has_35 ?_
      refine lv_iload_n hx hb dX4_has_38 rfl (lv_at hl 1 rfl) ?_
      have hv6 := hw.1
      replace hw := hw.2
      refine ss_aald (v := L (9 + 3 * (Int32.toNatClampNeg x1))) F hC 2 2 (Nat.le_of_ble_eq_true rfl) rfl rfl hv6 rfl dX4_has_39 ?_
      refine lv_aload_n hx hb dX4_has_40 rfl (lv_at hl 0 rfl) ?_
      refine ss_get (C := RX4) (T := TX4) (N := 9) (ci := 4) (v := .ref (L (6))) F hC (0) u_X4 (Nat.le_of_ble_eq_true rfl) rfl rfl 6 (by decide) f_46 rfl dX4_has_41 ?_
      refine lv_iconst (v := 0) hx hb dX4_has_44 (by decide) ?_
      refine ss_ki (ss_rVN (C := RX3) (host := RX4) (As := [.ref (L (6)), .int (0)]) (rest := []) F ((mX3_holds l D A L wr cI cZ cS σ5 (9 + 3 * (Int32.toNatClampNeg x1)) 6 0 (isSp_slot hv6) isAr_6) _) gX4_has_X3_holds_n118 rfl ⟨rfl, rfl⟩ dvX3_holds (by decide +kernel) ⟨by decide +kernel, by decide +kernel, by decide +kernel⟩ ⟨Nat.le_of_ble_eq_true rfl, Nat.le_of_ble_eq_true rfl⟩ (ss_preV F.2.2.2.2.1 F.2.2.2.2.2 hC (ss_rec (C := RX3) (T := TX3) (N := 4) (ci := 3) F.2.2.2.2.1 hC (9 + 3 * (Int32.toNatClampNeg x1)) (isSp_slot hv6).lt (ceC_sp (L := L) (cI := cI) (cS := cS) (isSp_slot hv6) _) rfl) hw) rfl hl.1 rfl (Nat.le_of_ble_eq_true rfl) dX4_has_45 ⟨Nat.zero_le _, Nat.zero_le _⟩) hC (fun r8 σ7 H locs hC hw => ?_)
      refine lv_if_eq (tgt := 55) hx hb dX4_has_48 (by decide) (fun hc => ?_) (fun hc => ?_)
      · replace hw := hw.1 hc
        refine lv_iconst (v := 0) hx hb dX4_has_55 (by decide) ?_
        exact ss_iret F hC hw dX4_has_56
      · replace hw := hw.2 hc
        refine lv_iconst (v := 1) hx hb dX4_has_51 (by decide) ?_
        refine lv_goto (tgt := 56) hx hb dX4_has_52 (by decide) ?_
        exact ss_iret F hC hw dX4_has_56
    · replace hw := hw.2 hc
      refine lv_bipush (v := -101) hx hb dX4_has_18 (by decide) ?_
      exact ss_iret F hC hw dX4_has_20

theorem mX4_has (l : Launch) (D : va_G) (A : Nat → Prop) (L : Nat → Nat) (wr : va_W) (cI cZ cS : ClassId) (σ : ss_S) (x1 : Int32) (x2 : Int32)  : ss_MI l yX4_has wsX4_has rmX4_has (ss_EC D A L wr cI cZ cS) [.ref (L (0)), .int (x1), .int (x2)] σ (fun post => wX4_has x1 x2 σ post) :=
  ss_MI.of (cc := cX4_has) (nL := 3) (ret := (some .int)) (own := RX4) (by decide) rfl rfl (Nat.le_of_ble_eq_true rfl) (fun post p e R s m below meth c H locs ls F hC hl hw => bX4_has F  σ H locs ls hC hl hw)

set_option maxHeartbeats 4000000 in
set_option maxRecDepth 100000 in
theorem bX4_within {x1 : Int32} {x2 : Int32} {post : Int32 → ss_S → Prop} (F : ss_F p R s m args meth c (ss_EC D A L wr cI cZ cS) cX4_within 3 wsX4_within RX4 (some .int) rmX4_within)  : ∀ (σ : ss_S) (H : Heap) (locs : List Loc) (ls : Array Slot), ss_C (ss_EC D A L wr cI cZ cS) σ s H locs → lv_has ls 3 [(0, .ref (L (0))), (1, .int (x1)), (2, .int (x2))] → wX4_within x1 x2 σ post → W p l e R s m args below meth c H locs 0 0 (MQ below (va_Qi post (ss_B (ss_EC D A L wr cI cZ cS)) A) args s 0 0 A) (F0 m 0 ls []) := by
  have hx := F.1.1
  have hb := F.1.2.1
  have u_X4 : ∀ w ∈ u_ws RX4 TX4 9, w ∈ wsX4_within := by decide +kernel
  have f_18 : (Cond.fieldLink RX4 18 "SmallSpaces" "slots" "[LSmallSpaces$Space;").before args s = true := F.1.2.2.2.2 _ (by decide +kernel)
  intro σ H locs ls hC hl hw
  unfold wX4_within at hw
  refine lv_iload_n hx hb dX4_within_0 rfl (lv_at hl 1 rfl) ?_
  refine ss_ki (ss_rS (As := [.int (x1)]) (rest := []) F ((mX4_isSlot l D A L wr cI cZ cS σ x1) _) gX4_within_X4_isSlot rfl ⟨rfl, rfl⟩ dvX4_isSlot ⟨Nat.le_of_ble_eq_true rfl, Nat.le_of_ble_eq_true rfl⟩ (ss_preS F.2.2.2.2.1 F.2.2.2.2.2 hC hw) rfl hl.1 rfl (Nat.le_of_ble_eq_true rfl) dX4_within_1 ⟨Nat.zero_le _, Nat.zero_le _⟩) hC (fun r2 σ1 H locs hC hw => ?_)
  refine lv_if_eq (tgt := 14) hx hb dX4_within_4 (by decide) (fun hc => ?_) (fun hc => ?_)
  · replace hw := hw.1 hc
    refine lv_bipush (v := -101) hx hb dX4_within_14 (by decide) ?_
    exact ss_iret F hC hw dX4_within_16
  · replace hw := hw.2 hc
    refine lv_iload_n hx hb dX4_within_7 rfl (lv_at hl 2 rfl) ?_
    refine ss_ki (ss_rS (As := [.int (x2)]) (rest := []) F ((mX4_isSlot l D A L wr cI cZ cS σ1 x2) _) gX4_within_X4_isSlot rfl ⟨rfl, rfl⟩ dvX4_isSlot ⟨Nat.le_of_ble_eq_true rfl, Nat.le_of_ble_eq_true rfl⟩ (ss_preS F.2.2.2.2.1 F.2.2.2.2.2 hC hw) rfl hl.1 rfl (Nat.le_of_ble_eq_true rfl) dX4_within_8 ⟨Nat.zero_le _, Nat.zero_le _⟩) hC (fun r4 σ3 H locs hC hw => ?_)
    refine lv_if_ne (tgt := 17) hx hb dX4_within_11 (by decide) (fun hc => ?_) (fun hc => ?_)
    · replace hw := hw.1 hc
      refine lv_aload_n hx hb dX4_within_17 rfl (lv_at hl 0 rfl) ?_
      refine ss_get (C := RX4) (T := TX4) (N := 9) (ci := 4) (v := .ref (L (2))) F hC (0) u_X4 (Nat.le_of_ble_eq_true rfl) rfl rfl 1 (by decide) f_18 rfl dX4_within_18 ?_
      refine lv_iload_n hx hb dX4_within_21 rfl (lv_at hl 1 rfl) ?_
      have hv5 := hw.1
      replace hw := hw.2
      refine ss_aald (v := L (9 + 3 * (Int32.toNatClampNeg x1))) F hC 2 2 (Nat.le_of_ble_eq_true rfl) rfl rfl hv5 rfl dX4_within_22 ?_
      refine lv_aload_n hx hb dX4_within_23 rfl (lv_at hl 0 rfl) ?_
      refine ss_get (C := RX4) (T := TX4) (N := 9) (ci := 4) (v := .ref (L (2))) F hC (0) u_X4 (Nat.le_of_ble_eq_true rfl) rfl rfl 1 (by decide) f_18 rfl dX4_within_24 ?_
      refine lv_iload_n hx hb dX4_within_27 rfl (lv_at hl 2 rfl) ?_
      have hv6 := hw.1
      replace hw := hw.2
      refine ss_aald (v := L (9 + 3 * (Int32.toNatClampNeg x2))) F hC 2 2 (Nat.le_of_ble_eq_true rfl) rfl rfl hv6 rfl dX4_within_28 ?_
      refine ss_ki (ss_rVN (C := RX3) (host := RX4) (As := [.ref (L (9 + 3 * (Int32.toNatClampNeg x2)))]) (rest := []) F ((mX3_liesIn l D A L wr cI cZ cS σ3 (9 + 3 * (Int32.toNatClampNeg x1)) (9 + 3 * (Int32.toNatClampNeg x2)) (isSp_slot hv5) (isSp_slot hv6)) _) gX4_within_X3_liesIn_n122 rfl ⟨rfl, rfl⟩ dvX3_liesIn (by decide +kernel) ⟨by decide +kernel, by decide +kernel, by decide +kernel⟩ ⟨Nat.le_of_ble_eq_true rfl, Nat.le_of_ble_eq_true rfl⟩ (ss_preV F.2.2.2.2.1 F.2.2.2.2.2 hC (ss_rec (C := RX3) (T := TX3) (N := 4) (ci := 3) F.2.2.2.2.1 hC (9 + 3 * (Int32.toNatClampNeg x1)) (isSp_slot hv5).lt (ceC_sp (L := L) (cI := cI) (cS := cS) (isSp_slot hv5) _) rfl) hw) rfl hl.1 rfl (Nat.le_of_ble_eq_true rfl) dX4_within_29 ⟨Nat.zero_le _, Nat.zero_le _⟩) hC (fun r8 σ7 H locs hC hw => ?_)
      refine lv_if_eq (tgt := 39) hx hb dX4_within_32 (by decide) (fun hc => ?_) (fun hc => ?_)
      · replace hw := hw.1 hc
        refine lv_iconst (v := 0) hx hb dX4_within_39 (by decide) ?_
        exact ss_iret F hC hw dX4_within_40
      · replace hw := hw.2 hc
        refine lv_iconst (v := 1) hx hb dX4_within_35 (by decide) ?_
        refine lv_goto (tgt := 40) hx hb dX4_within_36 (by decide) ?_
        exact ss_iret F hC hw dX4_within_40
    · replace hw := hw.2 hc
      refine lv_bipush (v := -101) hx hb dX4_within_14 (by decide) ?_
      exact ss_iret F hC hw dX4_within_16

theorem mX4_within (l : Launch) (D : va_G) (A : Nat → Prop) (L : Nat → Nat) (wr : va_W) (cI cZ cS : ClassId) (σ : ss_S) (x1 : Int32) (x2 : Int32)  : ss_MI l yX4_within wsX4_within rmX4_within (ss_EC D A L wr cI cZ cS) [.ref (L (0)), .int (x1), .int (x2)] σ (fun post => wX4_within x1 x2 σ post) :=
  ss_MI.of (cc := cX4_within) (nL := 3) (ret := (some .int)) (own := RX4) (by decide) rfl rfl (Nat.le_of_ble_eq_true rfl) (fun post p e R s m below meth c H locs ls F hC hl hw => bX4_within F  σ H locs ls hC hl hw)

set_option maxHeartbeats 4000000 in
set_option maxRecDepth 100000 in
theorem bX4_apart {x1 : Int32} {x2 : Int32} {post : Int32 → ss_S → Prop} (F : ss_F p R s m args meth c (ss_EC D A L wr cI cZ cS) cX4_apart 3 wsX4_apart RX4 (some .int) rmX4_apart)  : ∀ (σ : ss_S) (H : Heap) (locs : List Loc) (ls : Array Slot), ss_C (ss_EC D A L wr cI cZ cS) σ s H locs → lv_has ls 3 [(0, .ref (L (0))), (1, .int (x1)), (2, .int (x2))] → wX4_apart x1 x2 σ post → W p l e R s m args below meth c H locs 0 0 (MQ below (va_Qi post (ss_B (ss_EC D A L wr cI cZ cS)) A) args s 0 0 A) (F0 m 0 ls []) := by
  have hx := F.1.1
  have hb := F.1.2.1
  have u_X4 : ∀ w ∈ u_ws RX4 TX4 9, w ∈ wsX4_apart := by decide +kernel
  have f_39 : (Cond.fieldLink RX4 39 "SmallSpaces" "made" "LSmallSpaces$Space;").before args s = true := F.1.2.2.2.2 _ (by decide +kernel)
  have f_18 : (Cond.fieldLink RX4 18 "SmallSpaces" "slots" "[LSmallSpaces$Space;").before args s = true := F.1.2.2.2.2 _ (by decide +kernel)
  intro σ H locs ls hC hl hw
  unfold wX4_apart at hw
  refine lv_iload_n hx hb dX4_apart_0 rfl (lv_at hl 1 rfl) ?_
  refine ss_ki (ss_rS (As := [.int (x1)]) (rest := []) F ((mX4_isSlot l D A L wr cI cZ cS σ x1) _) gX4_apart_X4_isSlot rfl ⟨rfl, rfl⟩ dvX4_isSlot ⟨Nat.le_of_ble_eq_true rfl, Nat.le_of_ble_eq_true rfl⟩ (ss_preS F.2.2.2.2.1 F.2.2.2.2.2 hC hw) rfl hl.1 rfl (Nat.le_of_ble_eq_true rfl) dX4_apart_1 ⟨Nat.zero_le _, Nat.zero_le _⟩) hC (fun r2 σ1 H locs hC hw => ?_)
  refine lv_if_eq (tgt := 14) hx hb dX4_apart_4 (by decide) (fun hc => ?_) (fun hc => ?_)
  · replace hw := hw.1 hc
    refine lv_bipush (v := -101) hx hb dX4_apart_14 (by decide) ?_
    exact ss_iret F hC hw dX4_apart_16
  · replace hw := hw.2 hc
    refine lv_iload_n hx hb dX4_apart_7 rfl (lv_at hl 2 rfl) ?_
    refine ss_ki (ss_rS (As := [.int (x2)]) (rest := []) F ((mX4_isSlot l D A L wr cI cZ cS σ1 x2) _) gX4_apart_X4_isSlot rfl ⟨rfl, rfl⟩ dvX4_isSlot ⟨Nat.le_of_ble_eq_true rfl, Nat.le_of_ble_eq_true rfl⟩ (ss_preS F.2.2.2.2.1 F.2.2.2.2.2 hC hw) rfl hl.1 rfl (Nat.le_of_ble_eq_true rfl) dX4_apart_8 ⟨Nat.zero_le _, Nat.zero_le _⟩) hC (fun r4 σ3 H locs hC hw => ?_)
    refine lv_if_ne (tgt := 17) hx hb dX4_apart_11 (by decide) (fun hc => ?_) (fun hc => ?_)
    · replace hw := hw.1 hc
      refine lv_aload_n hx hb dX4_apart_17 rfl (lv_at hl 0 rfl) ?_
      refine ss_get (C := RX4) (T := TX4) (N := 9) (ci := 4) (v := .ref (L (168))) F hC (0) u_X4 (Nat.le_of_ble_eq_true rfl) rfl rfl 4 (by decide) f_39 rfl dX4_apart_18 ?_
      refine lv_aload_n hx hb dX4_apart_21 rfl (lv_at hl 0 rfl) ?_
      refine ss_get (C := RX4) (T := TX4) (N := 9) (ci := 4) (v := .ref (L (2))) F hC (0) u_X4 (Nat.le_of_ble_eq_true rfl) rfl rfl 1 (by decide) f_18 rfl dX4_apart_22 ?_
      refine lv_iload_n hx hb dX4_apart_25 rfl (lv_at hl 1 rfl) ?_
      have hv5 := hw.1
      replace hw := hw.2
      refine ss_aald (v := L (9 + 3 * (Int32.toNatClampNeg x1))) F hC 2 2 (Nat.le_of_ble_eq_true rfl) rfl rfl hv5 rfl dX4_apart_26 ?_
      refine lv_aload_n hx hb dX4_apart_27 rfl (lv_at hl 0 rfl) ?_
      refine ss_get (C := RX4) (T := TX4) (N := 9) (ci := 4) (v := .ref (L (2))) F hC (0) u_X4 (Nat.le_of_ble_eq_true rfl) rfl rfl 1 (by decide) f_18 rfl dX4_apart_28 ?_
      refine lv_iload_n hx hb dX4_apart_31 rfl (lv_at hl 2 rfl) ?_
      have hv6 := hw.1
      replace hw := hw.2
      refine ss_aald (v := L (9 + 3 * (Int32.toNatClampNeg x2))) F hC 2 2 (Nat.le_of_ble_eq_true rfl) rfl rfl hv6 rfl dX4_apart_32 ?_
      refine ss_ki (ss_rVN (C := RX3) (host := RX4) (As := [.ref (L (9 + 3 * (Int32.toNatClampNeg x1))), .ref (L (9 + 3 * (Int32.toNatClampNeg x2)))]) (rest := []) F ((mX3_distance l D A L wr cI cZ cS σ3 168 (9 + 3 * (Int32.toNatClampNeg x1)) (9 + 3 * (Int32.toNatClampNeg x2)) isSp_168 (isSp_slot hv5) (isSp_slot hv6)) _) gX4_apart_X3_distance_n126 rfl ⟨rfl, rfl⟩ dvX3_distance (by decide +kernel) ⟨by decide +kernel, by decide +kernel, by decide +kernel⟩ ⟨Nat.le_of_ble_eq_true rfl, Nat.le_of_ble_eq_true rfl⟩ (ss_preV F.2.2.2.2.1 F.2.2.2.2.2 hC (ss_rec (C := RX3) (T := TX3) (N := 4) (ci := 3) F.2.2.2.2.1 hC (168) isSp_168.lt (ceC_sp (L := L) (cI := cI) (cS := cS) isSp_168 _) rfl) hw) rfl hl.1 rfl (Nat.le_of_ble_eq_true rfl) dX4_apart_33 ⟨Nat.zero_le _, Nat.zero_le _⟩) hC (fun r8 σ7 H locs hC hw => ?_)
      exact ss_iret F hC hw dX4_apart_36
    · replace hw := hw.2 hc
      refine lv_bipush (v := -101) hx hb dX4_apart_14 (by decide) ?_
      exact ss_iret F hC hw dX4_apart_16

theorem mX4_apart (l : Launch) (D : va_G) (A : Nat → Prop) (L : Nat → Nat) (wr : va_W) (cI cZ cS : ClassId) (σ : ss_S) (x1 : Int32) (x2 : Int32)  : ss_MI l yX4_apart wsX4_apart rmX4_apart (ss_EC D A L wr cI cZ cS) [.ref (L (0)), .int (x1), .int (x2)] σ (fun post => wX4_apart x1 x2 σ post) :=
  ss_MI.of (cc := cX4_apart) (nL := 3) (ret := (some .int)) (own := RX4) (by decide) rfl rfl (Nat.le_of_ble_eq_true rfl) (fun post p e R s m below meth c H locs ls F hC hl hw => bX4_apart F  σ H locs ls hC hl hw)

set_option maxHeartbeats 4000000 in
set_option maxRecDepth 100000 in
theorem bX4_number {x1 : Int32} {post : Int32 → ss_S → Prop} (F : ss_F p R s m args meth c (ss_EC D A L wr cI cZ cS) cX4_number 2 wsX4_number RX4 (some .int) rmX4_number)  : ∀ (σ : ss_S) (H : Heap) (locs : List Loc) (ls : Array Slot), ss_C (ss_EC D A L wr cI cZ cS) σ s H locs → lv_has ls 2 [(0, .ref (L (0))), (1, .int (x1))] → wX4_number x1 σ post → W p l e R s m args below meth c H locs 0 0 (MQ below (va_Qi post (ss_B (ss_EC D A L wr cI cZ cS)) A) args s 0 0 A) (F0 m 0 ls []) := by
  have hx := F.1.1
  have hb := F.1.2.1
  have u_X4 : ∀ w ∈ u_ws RX4 TX4 9, w ∈ wsX4_number := by decide +kernel
  have f_18 : (Cond.fieldLink RX4 18 "SmallSpaces" "slots" "[LSmallSpaces$Space;").before args s = true := F.1.2.2.2.2 _ (by decide +kernel)
  intro σ H locs ls hC hl hw
  unfold wX4_number at hw
  refine lv_iload_n hx hb dX4_number_0 rfl (lv_at hl 1 rfl) ?_
  refine ss_ki (ss_rS (As := [.int (x1)]) (rest := []) F ((mX4_isSlot l D A L wr cI cZ cS σ x1) _) gX4_number_X4_isSlot rfl ⟨rfl, rfl⟩ dvX4_isSlot ⟨Nat.le_of_ble_eq_true rfl, Nat.le_of_ble_eq_true rfl⟩ (ss_preS F.2.2.2.2.1 F.2.2.2.2.2 hC hw) rfl hl.1 rfl (Nat.le_of_ble_eq_true rfl) dX4_number_1 ⟨Nat.zero_le _, Nat.zero_le _⟩) hC (fun r2 σ1 H locs hC hw => ?_)
  refine lv_if_eq (tgt := 19) hx hb dX4_number_4 (by decide) (fun hc => ?_) (fun hc => ?_)
  · replace hw := hw.1 hc
    refine lv_bipush (v := -101) hx hb dX4_number_19 (by decide) ?_
    exact ss_iret F hC hw dX4_number_21
  · replace hw := hw.2 hc
    refine lv_aload_n hx hb dX4_number_7 rfl (lv_at hl 0 rfl) ?_
    refine ss_get (C := RX4) (T := TX4) (N := 9) (ci := 4) (v := .ref (L (2))) F hC (0) u_X4 (Nat.le_of_ble_eq_true rfl) rfl rfl 1 (by decide) f_18 rfl dX4_number_8 ?_
    refine lv_iload_n hx hb dX4_number_11 rfl (lv_at hl 1 rfl) ?_
    have hv3 := hw.1
    replace hw := hw.2
    refine ss_aald (v := L (9 + 3 * (Int32.toNatClampNeg x1))) F hC 2 2 (Nat.le_of_ble_eq_true rfl) rfl rfl hv3 rfl dX4_number_12 ?_
    refine ss_ki (ss_rVN (C := RX3) (host := RX4) (As := []) (rest := []) F ((mX3_ordinal l D A L wr cI cZ cS σ1 (9 + 3 * (Int32.toNatClampNeg x1)) (isSp_slot hv3)) _) gX4_number_X3_ordinal_n130 rfl ⟨rfl, rfl⟩ dvX3_ordinal (by decide +kernel) ⟨by decide +kernel, by decide +kernel, by decide +kernel⟩ ⟨Nat.le_of_ble_eq_true rfl, Nat.le_of_ble_eq_true rfl⟩ (ss_preV F.2.2.2.2.1 F.2.2.2.2.2 hC (ss_rec (C := RX3) (T := TX3) (N := 4) (ci := 3) F.2.2.2.2.1 hC (9 + 3 * (Int32.toNatClampNeg x1)) (isSp_slot hv3).lt (ceC_sp (L := L) (cI := cI) (cS := cS) (isSp_slot hv3) _) rfl) hw) rfl hl.1 rfl (Nat.le_of_ble_eq_true rfl) dX4_number_13 ⟨Nat.zero_le _, Nat.zero_le _⟩) hC (fun r5 σ4 H locs hC hw => ?_)
    refine lv_goto (tgt := 21) hx hb dX4_number_16 (by decide) ?_
    exact ss_iret F hC hw dX4_number_21

theorem mX4_number (l : Launch) (D : va_G) (A : Nat → Prop) (L : Nat → Nat) (wr : va_W) (cI cZ cS : ClassId) (σ : ss_S) (x1 : Int32)  : ss_MI l yX4_number wsX4_number rmX4_number (ss_EC D A L wr cI cZ cS) [.ref (L (0)), .int (x1)] σ (fun post => wX4_number x1 σ post) :=
  ss_MI.of (cc := cX4_number) (nL := 2) (ret := (some .int)) (own := RX4) (by decide) rfl rfl (Nat.le_of_ble_eq_true rfl) (fun post p e R s m below meth c H locs ls F hC hl hw => bX4_number F  σ H locs ls hC hl hw)

set_option maxHeartbeats 4000000 in
set_option maxRecDepth 100000 in
theorem bX4_isDim {x1 : Int32} {post : Int32 → ss_S → Prop} (F : ss_F p R s m args meth c (ss_EC D A L wr cI cZ cS) cX4_isDim 2 wsX4_isDim RX4 (some .boolean) rmX4_isDim)  : ∀ (σ : ss_S) (H : Heap) (locs : List Loc) (ls : Array Slot), ss_C (ss_EC D A L wr cI cZ cS) σ s H locs → lv_has ls 2 [(0, .ref (L (0))), (1, .int (x1))] → wX4_isDim x1 σ post → W p l e R s m args below meth c H locs 0 0 (MQ below (va_Qi post (ss_B (ss_EC D A L wr cI cZ cS)) A) args s 0 0 A) (F0 m 0 ls []) := by
  have hx := F.1.1
  have hb := F.1.2.1
  have u_X4 : ∀ w ∈ u_ws RX4 TX4 9, w ∈ wsX4_isDim := by decide +kernel
  have f_10 : (Cond.fieldLink RX4 10 "SmallSpaces" "frame" "LSmallSpaces$Frame;").before args s = true := F.1.2.2.2.2 _ (by decide +kernel)
  have u_X0 : ∀ w ∈ u_ws RX0 TX0 3, w ∈ wsX4_isDim := by decide +kernel
  intro σ H locs ls hC hl hw
  unfold wX4_isDim at hw
  refine lv_iload_n hx hb dX4_isDim_0 rfl (lv_at hl 1 rfl) ?_
  refine lv_if_lt (tgt := 19) hx hb dX4_isDim_1 (by decide) (fun hc => ?_) (fun hc => ?_)
  · replace hw := hw.1 hc
    refine lv_iconst (v := 0) hx hb dX4_isDim_19 (by decide) ?_
    exact ss_zret F hC rfl hw dX4_isDim_20
  · replace hw := hw.2 hc
    refine lv_iload_n hx hb dX4_isDim_4 rfl (lv_at hl 1 rfl) ?_
    refine lv_aload_n hx hb dX4_isDim_5 rfl (lv_at hl 0 rfl) ?_
    refine ss_get (C := RX4) (T := TX4) (N := 9) (ci := 4) (v := .ref (L (1))) F hC (0) u_X4 (Nat.le_of_ble_eq_true rfl) rfl rfl 0 (by decide) f_10 rfl dX4_isDim_6 ?_
    refine ss_getN (C := RX0) (T := TX0) (N := 3) (ci := 0) (host := RX4) (v := .int (σ 1 1)) F hC (1) u_X0 (Nat.le_of_ble_eq_true rfl) rfl rfl 1 (by decide) (by decide +kernel) rfl dX4_isDim_9 ?_
    refine lv_icmp_gt (tgt := 19) hx hb dX4_isDim_12 (by decide) (fun hc => ?_) (fun hc => ?_)
    · replace hw := hw.1 hc
      refine lv_iconst (v := 0) hx hb dX4_isDim_19 (by decide) ?_
      exact ss_zret F hC rfl hw dX4_isDim_20
    · replace hw := hw.2 hc
      refine lv_iconst (v := 1) hx hb dX4_isDim_15 (by decide) ?_
      refine lv_goto (tgt := 20) hx hb dX4_isDim_16 (by decide) ?_
      exact ss_zret F hC rfl hw dX4_isDim_20

theorem mX4_isDim (l : Launch) (D : va_G) (A : Nat → Prop) (L : Nat → Nat) (wr : va_W) (cI cZ cS : ClassId) (σ : ss_S) (x1 : Int32)  : ss_MI l yX4_isDim wsX4_isDim rmX4_isDim (ss_EC D A L wr cI cZ cS) [.ref (L (0)), .int (x1)] σ (fun post => wX4_isDim x1 σ post) :=
  ss_MI.of (cc := cX4_isDim) (nL := 2) (ret := (some .boolean)) (own := RX4) (by decide) rfl rfl (Nat.le_of_ble_eq_true rfl) (fun post p e R s m below meth c H locs ls F hC hl hw => bX4_isDim F  σ H locs ls hC hl hw)

set_option maxHeartbeats 4000000 in
set_option maxRecDepth 100000 in
theorem bX4_numbered {x1 : Int32} {x2 : Int32} {x3 : Int32} {post : Int32 → ss_S → Prop} (F : ss_F p R s m args meth c (ss_EC D A L wr cI cZ cS) cX4_numbered 4 wsX4_numbered RX4 (some .int) rmX4_numbered)  : ∀ (σ : ss_S) (H : Heap) (locs : List Loc) (ls : Array Slot), ss_C (ss_EC D A L wr cI cZ cS) σ s H locs → lv_has ls 4 [(0, .ref (L (0))), (1, .int (x1)), (2, .int (x2)), (3, .int (x3))] → wX4_numbered x1 x2 x3 σ post → W p l e R s m args below meth c H locs 0 0 (MQ below (va_Qi post (ss_B (ss_EC D A L wr cI cZ cS)) A) args s 0 0 A) (F0 m 0 ls []) := by
  have hx := F.1.1
  have hb := F.1.2.1
  have u_X4 : ∀ w ∈ u_ws RX4 TX4 9, w ∈ wsX4_numbered := by decide +kernel
  have f_10 : (Cond.fieldLink RX4 10 "SmallSpaces" "frame" "LSmallSpaces$Frame;").before args s = true := F.1.2.2.2.2 _ (by decide +kernel)
  have u_X0 : ∀ w ∈ u_ws RX0 TX0 3, w ∈ wsX4_numbered := by decide +kernel
  have f_18 : (Cond.fieldLink RX4 18 "SmallSpaces" "slots" "[LSmallSpaces$Space;").before args s = true := F.1.2.2.2.2 _ (by decide +kernel)
  intro σ H locs ls hC hl hw
  unfold wX4_numbered at hw
  refine lv_iload_n hx hb dX4_numbered_0 rfl (lv_at hl 1 rfl) ?_
  refine ss_ki (ss_rS (As := [.int (x1)]) (rest := []) F ((mX4_isSlot l D A L wr cI cZ cS σ x1) _) gX4_numbered_X4_isSlot rfl ⟨rfl, rfl⟩ dvX4_isSlot ⟨Nat.le_of_ble_eq_true rfl, Nat.le_of_ble_eq_true rfl⟩ (ss_preS F.2.2.2.2.1 F.2.2.2.2.2 hC hw) rfl hl.1 rfl (Nat.le_of_ble_eq_true rfl) dX4_numbered_1 ⟨Nat.zero_le _, Nat.zero_le _⟩) hC (fun r2 σ1 H locs hC hw => ?_)
  refine lv_if_ne (tgt := 10) hx hb dX4_numbered_4 (by decide) (fun hc => ?_) (fun hc => ?_)
  · replace hw := hw.1 hc
    refine lv_aload_n hx hb dX4_numbered_10 rfl (lv_at hl 0 rfl) ?_
    refine lv_iload_n hx hb dX4_numbered_11 rfl (lv_at hl 2 rfl) ?_
    refine ss_ki (ss_rV (C := RX4) (As := [.int (x2)]) (rest := []) F ((mX4_isDim l D A L wr cI cZ cS σ1 x2) _) gX4_numbered_X4_isDim rfl ⟨rfl, rfl⟩ ⟨rfl, dvX4_isDim⟩ ⟨Nat.le_of_ble_eq_true rfl, Nat.le_of_ble_eq_true rfl⟩ (ss_preV F.2.2.2.2.1 F.2.2.2.2.2 hC (ss_rec (C := RX4) (T := TX4) (N := 9) (ci := 4) F.2.2.2.2.1 hC (0) (Nat.le_of_ble_eq_true rfl) rfl rfl) hw) rfl hl.1 rfl (Nat.le_of_ble_eq_true rfl) dX4_numbered_12 ⟨Nat.zero_le _, Nat.zero_le _⟩) hC (fun r4 σ3 H locs hC hw => ?_)
    refine lv_if_eq (tgt := 41) hx hb dX4_numbered_15 (by decide) (fun hc => ?_) (fun hc => ?_)
    · replace hw := hw.1 hc
      refine lv_bipush (v := -102) hx hb dX4_numbered_41 (by decide) ?_
      exact ss_iret F hC hw dX4_numbered_43
    · replace hw := hw.2 hc
      refine lv_iload_n hx hb dX4_numbered_18 rfl (lv_at hl 3 rfl) ?_
      refine lv_if_lt (tgt := 41) hx hb dX4_numbered_19 (by decide) (fun hc => ?_) (fun hc => ?_)
      · replace hw := hw.1 hc
        refine lv_bipush (v := -102) hx hb dX4_numbered_41 (by decide) ?_
        exact ss_iret F hC hw dX4_numbered_43
      · replace hw := hw.2 hc
        refine lv_iload_n hx hb dX4_numbered_22 rfl (lv_at hl 3 rfl) ?_
        refine lv_aload_n hx hb dX4_numbered_23 rfl (lv_at hl 0 rfl) ?_
        refine ss_get (C := RX4) (T := TX4) (N := 9) (ci := 4) (v := .ref (L (1))) F hC (0) u_X4 (Nat.le_of_ble_eq_true rfl) rfl rfl 0 (by decide) f_10 rfl dX4_numbered_24 ?_
        refine lv_aload_n hx hb dX4_numbered_27 rfl (lv_at hl 0 rfl) ?_
        refine ss_get (C := RX4) (T := TX4) (N := 9) (ci := 4) (v := .ref (L (1))) F hC (0) u_X4 (Nat.le_of_ble_eq_true rfl) rfl rfl 0 (by decide) f_10 rfl dX4_numbered_28 ?_
        refine ss_getN (C := RX0) (T := TX0) (N := 3) (ci := 0) (host := RX4) (v := .int (σ3 1 1)) F hC (1) u_X0 (Nat.le_of_ble_eq_true rfl) rfl rfl 1 (by decide) (by decide +kernel) rfl dX4_numbered_31 ?_
        refine lv_iload_n hx hb dX4_numbered_34 rfl (lv_at hl 2 rfl) ?_
        refine ss_ki (ss_rVN (C := RX0) (host := RX4) (As := [.int (σ3 1 1), .int (x2)]) (rest := [.int (x3)]) F ((mX0_spaces l D A L wr cI cZ cS σ3 (σ3 1 1) x2) _) gX4_numbered_X0_spaces_n139 rfl ⟨rfl, rfl⟩ dvX0_spaces (by decide +kernel) ⟨by decide +kernel, by decide +kernel, by decide +kernel⟩ ⟨Nat.le_of_ble_eq_true rfl, Nat.le_of_ble_eq_true rfl⟩ (ss_preV F.2.2.2.2.1 F.2.2.2.2.2 hC (ss_rec (C := RX0) (T := TX0) (N := 3) (ci := 0) F.2.2.2.2.1 hC (1) (Nat.le_of_ble_eq_true rfl) rfl rfl) hw) rfl hl.1 rfl (Nat.le_of_ble_eq_true rfl) dX4_numbered_35 ⟨Nat.zero_le _, Nat.zero_le _⟩) hC (fun r6 σ5 H locs hC hw => ?_)
        refine lv_icmp_lt (tgt := 44) hx hb dX4_numbered_38 (by decide) (fun hc => ?_) (fun hc => ?_)
        · replace hw := hw.1 hc
          refine lv_aload_n hx hb dX4_numbered_44 rfl (lv_at hl 0 rfl) ?_
          refine ss_get (C := RX4) (T := TX4) (N := 9) (ci := 4) (v := .ref (L (2))) F hC (0) u_X4 (Nat.le_of_ble_eq_true rfl) rfl rfl 1 (by decide) f_18 rfl dX4_numbered_45 ?_
          refine lv_iload_n hx hb dX4_numbered_48 rfl (lv_at hl 1 rfl) ?_
          have hv7 := hw.1
          replace hw := hw.2
          refine ss_aald (v := L (9 + 3 * (Int32.toNatClampNeg x1))) F hC 2 2 (Nat.le_of_ble_eq_true rfl) rfl rfl hv7 rfl dX4_numbered_49 ?_
          refine lv_iload_n hx hb dX4_numbered_50 rfl (lv_at hl 2 rfl) ?_
          refine lv_iload_n hx hb dX4_numbered_51 rfl (lv_at hl 3 rfl) ?_
          refine ss_kv (ss_rVN (C := RX3) (host := RX4) (As := [.int (x2), .int (x3)]) (rest := []) F ((mX3_becomeOrdinal l D A L wr cI cZ cS σ5 (9 + 3 * (Int32.toNatClampNeg x1)) x2 x3 (isSp_slot hv7)) _) gX4_numbered_X3_becomeOrdinal_n142 rfl ⟨rfl, rfl⟩ dvX3_becomeOrdinal (by decide +kernel) ⟨by decide +kernel, by decide +kernel, by decide +kernel⟩ ⟨Nat.le_of_ble_eq_true rfl, Nat.le_of_ble_eq_true rfl⟩ (ss_preV F.2.2.2.2.1 F.2.2.2.2.2 hC (ss_rec (C := RX3) (T := TX3) (N := 4) (ci := 3) F.2.2.2.2.1 hC (9 + 3 * (Int32.toNatClampNeg x1)) (isSp_slot hv7).lt (ceC_sp (L := L) (cI := cI) (cS := cS) (isSp_slot hv7) _) rfl) hw) rfl hl.1 rfl (Nat.le_of_ble_eq_true rfl) dX4_numbered_52 ⟨Nat.zero_le _, Nat.zero_le _⟩) hC (fun σ8 H locs hC hw => ?_)
          refine lv_iload_n hx hb dX4_numbered_55 rfl (lv_at hl 2 rfl) ?_
          exact ss_iret F hC hw dX4_numbered_56
        · replace hw := hw.2 hc
          refine lv_bipush (v := -102) hx hb dX4_numbered_41 (by decide) ?_
          exact ss_iret F hC hw dX4_numbered_43
  · replace hw := hw.2 hc
    refine lv_bipush (v := -101) hx hb dX4_numbered_7 (by decide) ?_
    exact ss_iret F hC hw dX4_numbered_9

theorem mX4_numbered (l : Launch) (D : va_G) (A : Nat → Prop) (L : Nat → Nat) (wr : va_W) (cI cZ cS : ClassId) (σ : ss_S) (x1 : Int32) (x2 : Int32) (x3 : Int32)  : ss_MI l yX4_numbered wsX4_numbered rmX4_numbered (ss_EC D A L wr cI cZ cS) [.ref (L (0)), .int (x1), .int (x2), .int (x3)] σ (fun post => wX4_numbered x1 x2 x3 σ post) :=
  ss_MI.of (cc := cX4_numbered) (nL := 4) (ret := (some .int)) (own := RX4) (by decide) rfl rfl (Nat.le_of_ble_eq_true rfl) (fun post p e R s m below meth c H locs ls F hC hl hw => bX4_numbered F  σ H locs ls hC hl hw)

set_option maxHeartbeats 4000000 in
set_option maxRecDepth 100000 in
theorem bX4_many {x1 : Int32} {post : Int32 → ss_S → Prop} (F : ss_F p R s m args meth c (ss_EC D A L wr cI cZ cS) cX4_many 2 wsX4_many RX4 (some .int) rmX4_many)  : ∀ (σ : ss_S) (H : Heap) (locs : List Loc) (ls : Array Slot), ss_C (ss_EC D A L wr cI cZ cS) σ s H locs → lv_has ls 2 [(0, .ref (L (0))), (1, .int (x1))] → wX4_many x1 σ post → W p l e R s m args below meth c H locs 0 0 (MQ below (va_Qi post (ss_B (ss_EC D A L wr cI cZ cS)) A) args s 0 0 A) (F0 m 0 ls []) := by
  have hx := F.1.1
  have hb := F.1.2.1
  have u_X4 : ∀ w ∈ u_ws RX4 TX4 9, w ∈ wsX4_many := by decide +kernel
  have f_10 : (Cond.fieldLink RX4 10 "SmallSpaces" "frame" "LSmallSpaces$Frame;").before args s = true := F.1.2.2.2.2 _ (by decide +kernel)
  have u_X0 : ∀ w ∈ u_ws RX0 TX0 3, w ∈ wsX4_many := by decide +kernel
  intro σ H locs ls hC hl hw
  unfold wX4_many at hw
  refine lv_aload_n hx hb dX4_many_0 rfl (lv_at hl 0 rfl) ?_
  refine ss_get (C := RX4) (T := TX4) (N := 9) (ci := 4) (v := .ref (L (1))) F hC (0) u_X4 (Nat.le_of_ble_eq_true rfl) rfl rfl 0 (by decide) f_10 rfl dX4_many_1 ?_
  refine lv_aload_n hx hb dX4_many_4 rfl (lv_at hl 0 rfl) ?_
  refine ss_get (C := RX4) (T := TX4) (N := 9) (ci := 4) (v := .ref (L (1))) F hC (0) u_X4 (Nat.le_of_ble_eq_true rfl) rfl rfl 0 (by decide) f_10 rfl dX4_many_5 ?_
  refine ss_getN (C := RX0) (T := TX0) (N := 3) (ci := 0) (host := RX4) (v := .int (σ 1 1)) F hC (1) u_X0 (Nat.le_of_ble_eq_true rfl) rfl rfl 1 (by decide) (by decide +kernel) rfl dX4_many_8 ?_
  refine lv_iload_n hx hb dX4_many_11 rfl (lv_at hl 1 rfl) ?_
  refine ss_ki (ss_rVN (C := RX0) (host := RX4) (As := [.int (σ 1 1), .int (x1)]) (rest := []) F ((mX0_spaces l D A L wr cI cZ cS σ (σ 1 1) x1) _) gX4_many_X0_spaces_n139 rfl ⟨rfl, rfl⟩ dvX0_spaces (by decide +kernel) ⟨by decide +kernel, by decide +kernel, by decide +kernel⟩ ⟨Nat.le_of_ble_eq_true rfl, Nat.le_of_ble_eq_true rfl⟩ (ss_preV F.2.2.2.2.1 F.2.2.2.2.2 hC (ss_rec (C := RX0) (T := TX0) (N := 3) (ci := 0) F.2.2.2.2.1 hC (1) (Nat.le_of_ble_eq_true rfl) rfl rfl) hw) rfl hl.1 rfl (Nat.le_of_ble_eq_true rfl) dX4_many_12 ⟨Nat.zero_le _, Nat.zero_le _⟩) hC (fun r2 σ1 H locs hC hw => ?_)
  exact ss_iret F hC hw dX4_many_15

theorem mX4_many (l : Launch) (D : va_G) (A : Nat → Prop) (L : Nat → Nat) (wr : va_W) (cI cZ cS : ClassId) (σ : ss_S) (x1 : Int32)  : ss_MI l yX4_many wsX4_many rmX4_many (ss_EC D A L wr cI cZ cS) [.ref (L (0)), .int (x1)] σ (fun post => wX4_many x1 σ post) :=
  ss_MI.of (cc := cX4_many) (nL := 2) (ret := (some .int)) (own := RX4) (by decide) rfl rfl (Nat.le_of_ble_eq_true rfl) (fun post p e R s m below meth c H locs ls F hC hl hw => bX4_many F  σ H locs ls hC hl hw)

set_option maxHeartbeats 4000000 in
set_option maxRecDepth 100000 in
theorem bX4_over {x1 : Int32} {x2 : Int32} {post : Int32 → ss_S → Prop} (F : ss_F p R s m args meth c (ss_EC D A L wr cI cZ cS) cX4_over 4 wsX4_over RX4 (some .int) rmX4_over)  : ∀ (σ : ss_S) (H : Heap) (locs : List Loc) (ls : Array Slot), ss_C (ss_EC D A L wr cI cZ cS) σ s H locs → lv_has ls 4 [(0, .ref (L (0))), (1, .int (x1)), (2, .int (x2))] → wX4_over x1 x2 σ post → W p l e R s m args below meth c H locs 0 0 (MQ below (va_Qi post (ss_B (ss_EC D A L wr cI cZ cS)) A) args s 0 0 A) (F0 m 0 ls []) := by
  have hx := F.1.1
  have hb := F.1.2.1
  have u_X4 : ∀ w ∈ u_ws RX4 TX4 9, w ∈ wsX4_over := by decide +kernel
  have f_18 : (Cond.fieldLink RX4 18 "SmallSpaces" "slots" "[LSmallSpaces$Space;").before args s = true := F.1.2.2.2.2 _ (by decide +kernel)
  have f_10 : (Cond.fieldLink RX4 10 "SmallSpaces" "frame" "LSmallSpaces$Frame;").before args s = true := F.1.2.2.2.2 _ (by decide +kernel)
  have u_X0 : ∀ w ∈ u_ws RX0 TX0 3, w ∈ wsX4_over := by decide +kernel
  intro σ H locs ls hC hl hw
  unfold wX4_over at hw
  refine lv_iload_n hx hb dX4_over_0 rfl (lv_at hl 1 rfl) ?_
  refine ss_ki (ss_rS (As := [.int (x1)]) (rest := []) F ((mX4_isSlot l D A L wr cI cZ cS σ x1) _) gX4_over_X4_isSlot rfl ⟨rfl, rfl⟩ dvX4_isSlot ⟨Nat.le_of_ble_eq_true rfl, Nat.le_of_ble_eq_true rfl⟩ (ss_preS F.2.2.2.2.1 F.2.2.2.2.2 hC hw) rfl hl.1 rfl (Nat.le_of_ble_eq_true rfl) dX4_over_1 ⟨Nat.zero_le _, Nat.zero_le _⟩) hC (fun r2 σ1 H locs hC hw => ?_)
  refine lv_if_ne (tgt := 10) hx hb dX4_over_4 (by decide) (fun hc => ?_) (fun hc => ?_)
  · replace hw := hw.1 hc
    refine lv_aload_n hx hb dX4_over_10 rfl (lv_at hl 0 rfl) ?_
    refine lv_iload_n hx hb dX4_over_11 rfl (lv_at hl 2 rfl) ?_
    refine ss_ki (ss_rV (C := RX4) (As := [.int (x2)]) (rest := []) F ((mX4_isDim l D A L wr cI cZ cS σ1 x2) _) gX4_over_X4_isDim rfl ⟨rfl, rfl⟩ ⟨rfl, dvX4_isDim⟩ ⟨Nat.le_of_ble_eq_true rfl, Nat.le_of_ble_eq_true rfl⟩ (ss_preV F.2.2.2.2.1 F.2.2.2.2.2 hC (ss_rec (C := RX4) (T := TX4) (N := 9) (ci := 4) F.2.2.2.2.1 hC (0) (Nat.le_of_ble_eq_true rfl) rfl rfl) hw) rfl hl.1 rfl (Nat.le_of_ble_eq_true rfl) dX4_over_12 ⟨Nat.zero_le _, Nat.zero_le _⟩) hC (fun r4 σ3 H locs hC hw => ?_)
    refine lv_if_ne (tgt := 20) hx hb dX4_over_15 (by decide) (fun hc => ?_) (fun hc => ?_)
    · replace hw := hw.1 hc
      refine lv_aload_n hx hb dX4_over_20 rfl (lv_at hl 0 rfl) ?_
      refine ss_get (C := RX4) (T := TX4) (N := 9) (ci := 4) (v := .ref (L (2))) F hC (0) u_X4 (Nat.le_of_ble_eq_true rfl) rfl rfl 1 (by decide) f_18 rfl dX4_over_21 ?_
      refine lv_iload_n hx hb dX4_over_24 rfl (lv_at hl 1 rfl) ?_
      have hv5 := hw.1
      replace hw := hw.2
      refine ss_aald (v := L (9 + 3 * (Int32.toNatClampNeg x1))) F hC 2 2 (Nat.le_of_ble_eq_true rfl) rfl rfl hv5 rfl dX4_over_25 ?_
      refine ss_ki (ss_rVN (C := RX3) (host := RX4) (As := []) (rest := []) F ((mX3_rank l D A L wr cI cZ cS σ3 (9 + 3 * (Int32.toNatClampNeg x1)) (isSp_slot hv5)) _) gX4_over_X3_rank_n97 rfl ⟨rfl, rfl⟩ dvX3_rank (by decide +kernel) ⟨by decide +kernel, by decide +kernel, by decide +kernel⟩ ⟨Nat.le_of_ble_eq_true rfl, Nat.le_of_ble_eq_true rfl⟩ (ss_preV F.2.2.2.2.1 F.2.2.2.2.2 hC (ss_rec (C := RX3) (T := TX3) (N := 4) (ci := 3) F.2.2.2.2.1 hC (9 + 3 * (Int32.toNatClampNeg x1)) (isSp_slot hv5).lt (ceC_sp (L := L) (cI := cI) (cS := cS) (isSp_slot hv5) _) rfl) hw) rfl hl.1 rfl (Nat.le_of_ble_eq_true rfl) dX4_over_26 ⟨Nat.zero_le _, Nat.zero_le _⟩) hC (fun r7 σ6 H locs hC hw => ?_)
      refine lv_istore_n (lv' := [(3, .int (r7)), (0, .ref (L (0))), (1, .int (x1)), (2, .int (x2))]) hx hb dX4_over_29 rfl hl (by decide) rfl (fun ls hl => ?_)
      refine lv_aload_n hx hb dX4_over_30 rfl (lv_at hl 1 rfl) ?_
      refine ss_get (C := RX4) (T := TX4) (N := 9) (ci := 4) (v := .ref (L (1))) F hC (0) u_X4 (Nat.le_of_ble_eq_true rfl) rfl rfl 0 (by decide) f_10 rfl dX4_over_31 ?_
      refine lv_aload_n hx hb dX4_over_34 rfl (lv_at hl 1 rfl) ?_
      refine ss_get (C := RX4) (T := TX4) (N := 9) (ci := 4) (v := .ref (L (1))) F hC (0) u_X4 (Nat.le_of_ble_eq_true rfl) rfl rfl 0 (by decide) f_10 rfl dX4_over_35 ?_
      refine ss_getN (C := RX0) (T := TX0) (N := 3) (ci := 0) (host := RX4) (v := .int (σ6 1 1)) F hC (1) u_X0 (Nat.le_of_ble_eq_true rfl) rfl rfl 1 (by decide) (by decide +kernel) rfl dX4_over_38 ?_
      refine lv_iload_n hx hb dX4_over_41 rfl (lv_at hl 0 rfl) ?_
      refine lv_isub hx hb dX4_over_42 ?_
      refine lv_iload_n hx hb dX4_over_43 rfl (lv_at hl 3 rfl) ?_
      refine lv_iload_n hx hb dX4_over_44 rfl (lv_at hl 0 rfl) ?_
      refine lv_isub hx hb dX4_over_45 ?_
      refine ss_ki (ss_rVN (C := RX0) (host := RX4) (As := [.int ((σ6 1 1) - r7), .int (x2 - r7)]) (rest := []) F ((mX0_spaces l D A L wr cI cZ cS σ6 ((σ6 1 1) - r7) (x2 - r7)) _) gX4_over_X0_spaces_n139 rfl ⟨rfl, rfl⟩ dvX0_spaces (by decide +kernel) ⟨by decide +kernel, by decide +kernel, by decide +kernel⟩ ⟨Nat.le_of_ble_eq_true rfl, Nat.le_of_ble_eq_true rfl⟩ (ss_preV F.2.2.2.2.1 F.2.2.2.2.2 hC (ss_rec (C := RX0) (T := TX0) (N := 3) (ci := 0) F.2.2.2.2.1 hC (1) (Nat.le_of_ble_eq_true rfl) rfl rfl) hw) rfl hl.1 rfl (Nat.le_of_ble_eq_true rfl) dX4_over_46 ⟨Nat.zero_le _, Nat.zero_le _⟩) hC (fun r9 σ8 H locs hC hw => ?_)
      exact ss_iret F hC hw dX4_over_49
    · replace hw := hw.2 hc
      refine lv_iconst (v := 0) hx hb dX4_over_18 (by decide) ?_
      exact ss_iret F hC hw dX4_over_19
  · replace hw := hw.2 hc
    refine lv_bipush (v := -101) hx hb dX4_over_7 (by decide) ?_
    exact ss_iret F hC hw dX4_over_9

theorem mX4_over (l : Launch) (D : va_G) (A : Nat → Prop) (L : Nat → Nat) (wr : va_W) (cI cZ cS : ClassId) (σ : ss_S) (x1 : Int32) (x2 : Int32)  : ss_MI l yX4_over wsX4_over rmX4_over (ss_EC D A L wr cI cZ cS) [.ref (L (0)), .int (x1), .int (x2)] σ (fun post => wX4_over x1 x2 σ post) :=
  ss_MI.of (cc := cX4_over) (nL := 4) (ret := (some .int)) (own := RX4) (by decide) rfl rfl (Nat.le_of_ble_eq_true rfl) (fun post p e R s m below meth c H locs ls F hC hl hw => bX4_over F  σ H locs ls hC hl hw)

set_option maxHeartbeats 4000000 in
set_option maxRecDepth 100000 in
theorem bX4_meeting {x1 : Int32} {x2 : Int32} {x3 : Int32} {post : Int32 → ss_S → Prop} (F : ss_F p R s m args meth c (ss_EC D A L wr cI cZ cS) cX4_meeting 6 wsX4_meeting RX4 (some .int) rmX4_meeting)  : ∀ (σ : ss_S) (H : Heap) (locs : List Loc) (ls : Array Slot), ss_C (ss_EC D A L wr cI cZ cS) σ s H locs → lv_has ls 6 [(0, .ref (L (0))), (1, .int (x1)), (2, .int (x2)), (3, .int (x3))] → wX4_meeting x1 x2 x3 σ post → W p l e R s m args below meth c H locs 0 0 (MQ below (va_Qi post (ss_B (ss_EC D A L wr cI cZ cS)) A) args s 0 0 A) (F0 m 0 ls []) := by
  have hx := F.1.1
  have hb := F.1.2.1
  have u_X4 : ∀ w ∈ u_ws RX4 TX4 9, w ∈ wsX4_meeting := by decide +kernel
  have f_18 : (Cond.fieldLink RX4 18 "SmallSpaces" "slots" "[LSmallSpaces$Space;").before args s = true := F.1.2.2.2.2 _ (by decide +kernel)
  have f_10 : (Cond.fieldLink RX4 10 "SmallSpaces" "frame" "LSmallSpaces$Frame;").before args s = true := F.1.2.2.2.2 _ (by decide +kernel)
  have u_X0 : ∀ w ∈ u_ws RX0 TX0 3, w ∈ wsX4_meeting := by decide +kernel
  intro σ H locs ls hC hl hw
  unfold wX4_meeting at hw
  refine lv_iload_n hx hb dX4_meeting_0 rfl (lv_at hl 1 rfl) ?_
  refine ss_ki (ss_rS (As := [.int (x1)]) (rest := []) F ((mX4_isSlot l D A L wr cI cZ cS σ x1) _) gX4_meeting_X4_isSlot rfl ⟨rfl, rfl⟩ dvX4_isSlot ⟨Nat.le_of_ble_eq_true rfl, Nat.le_of_ble_eq_true rfl⟩ (ss_preS F.2.2.2.2.1 F.2.2.2.2.2 hC hw) rfl hl.1 rfl (Nat.le_of_ble_eq_true rfl) dX4_meeting_1 ⟨Nat.zero_le _, Nat.zero_le _⟩) hC (fun r2 σ1 H locs hC hw => ?_)
  refine lv_if_ne (tgt := 10) hx hb dX4_meeting_4 (by decide) (fun hc => ?_) (fun hc => ?_)
  · replace hw := hw.1 hc
    refine lv_aload_n hx hb dX4_meeting_10 rfl (lv_at hl 0 rfl) ?_
    refine lv_iload_n hx hb dX4_meeting_11 rfl (lv_at hl 2 rfl) ?_
    refine ss_ki (ss_rV (C := RX4) (As := [.int (x2)]) (rest := []) F ((mX4_isDim l D A L wr cI cZ cS σ1 x2) _) gX4_meeting_X4_isDim rfl ⟨rfl, rfl⟩ ⟨rfl, dvX4_isDim⟩ ⟨Nat.le_of_ble_eq_true rfl, Nat.le_of_ble_eq_true rfl⟩ (ss_preV F.2.2.2.2.1 F.2.2.2.2.2 hC (ss_rec (C := RX4) (T := TX4) (N := 9) (ci := 4) F.2.2.2.2.1 hC (0) (Nat.le_of_ble_eq_true rfl) rfl rfl) hw) rfl hl.1 rfl (Nat.le_of_ble_eq_true rfl) dX4_meeting_12 ⟨Nat.zero_le _, Nat.zero_le _⟩) hC (fun r4 σ3 H locs hC hw => ?_)
    refine lv_if_eq (tgt := 26) hx hb dX4_meeting_15 (by decide) (fun hc => ?_) (fun hc => ?_)
    · replace hw := hw.1 hc
      refine lv_iconst (v := 0) hx hb dX4_meeting_26 (by decide) ?_
      exact ss_iret F hC hw dX4_meeting_27
    · replace hw := hw.2 hc
      refine lv_aload_n hx hb dX4_meeting_18 rfl (lv_at hl 0 rfl) ?_
      refine lv_iload_n hx hb dX4_meeting_19 rfl (lv_at hl 3 rfl) ?_
      refine ss_ki (ss_rV (C := RX4) (As := [.int (x3)]) (rest := []) F ((mX4_isDim l D A L wr cI cZ cS σ3 x3) _) gX4_meeting_X4_isDim rfl ⟨rfl, rfl⟩ ⟨rfl, dvX4_isDim⟩ ⟨Nat.le_of_ble_eq_true rfl, Nat.le_of_ble_eq_true rfl⟩ (ss_preV F.2.2.2.2.1 F.2.2.2.2.2 hC (ss_rec (C := RX4) (T := TX4) (N := 9) (ci := 4) F.2.2.2.2.1 hC (0) (Nat.le_of_ble_eq_true rfl) rfl rfl) hw) rfl hl.1 rfl (Nat.le_of_ble_eq_true rfl) dX4_meeting_20 ⟨Nat.zero_le _, Nat.zero_le _⟩) hC (fun r6 σ5 H locs hC hw => ?_)
      refine lv_if_ne (tgt := 28) hx hb dX4_meeting_23 (by decide) (fun hc => ?_) (fun hc => ?_)
      · replace hw := hw.1 hc
        refine lv_aload_n hx hb dX4_meeting_28 rfl (lv_at hl 0 rfl) ?_
        refine ss_get (C := RX4) (T := TX4) (N := 9) (ci := 4) (v := .ref (L (2))) F hC (0) u_X4 (Nat.le_of_ble_eq_true rfl) rfl rfl 1 (by decide) f_18 rfl dX4_meeting_29 ?_
        refine lv_iload_n hx hb dX4_meeting_32 rfl (lv_at hl 1 rfl) ?_
        have hv7 := hw.1
        replace hw := hw.2
        refine ss_aald (v := L (9 + 3 * (Int32.toNatClampNeg x1))) F hC 2 2 (Nat.le_of_ble_eq_true rfl) rfl rfl hv7 rfl dX4_meeting_33 ?_
        refine ss_ki (ss_rVN (C := RX3) (host := RX4) (As := []) (rest := []) F ((mX3_rank l D A L wr cI cZ cS σ5 (9 + 3 * (Int32.toNatClampNeg x1)) (isSp_slot hv7)) _) gX4_meeting_X3_rank_n97 rfl ⟨rfl, rfl⟩ dvX3_rank (by decide +kernel) ⟨by decide +kernel, by decide +kernel, by decide +kernel⟩ ⟨Nat.le_of_ble_eq_true rfl, Nat.le_of_ble_eq_true rfl⟩ (ss_preV F.2.2.2.2.1 F.2.2.2.2.2 hC (ss_rec (C := RX3) (T := TX3) (N := 4) (ci := 3) F.2.2.2.2.1 hC (9 + 3 * (Int32.toNatClampNeg x1)) (isSp_slot hv7).lt (ceC_sp (L := L) (cI := cI) (cS := cS) (isSp_slot hv7) _) rfl) hw) rfl hl.1 rfl (Nat.le_of_ble_eq_true rfl) dX4_meeting_34 ⟨Nat.zero_le _, Nat.zero_le _⟩) hC (fun r9 σ8 H locs hC hw => ?_)
        refine lv_istore (lv' := [(4, .int (r9)), (0, .ref (L (0))), (1, .int (x1)), (2, .int (x2)), (3, .int (x3))]) hx hb dX4_meeting_37 hl (by decide) rfl (fun ls hl => ?_)
        refine lv_aload_n hx hb dX4_meeting_39 rfl (lv_at hl 1 rfl) ?_
        refine ss_get (C := RX4) (T := TX4) (N := 9) (ci := 4) (v := .ref (L (1))) F hC (0) u_X4 (Nat.le_of_ble_eq_true rfl) rfl rfl 0 (by decide) f_10 rfl dX4_meeting_40 ?_
        refine lv_iload hx hb dX4_meeting_43 (lv_at hl 0 rfl) ?_
        refine lv_iload_n hx hb dX4_meeting_45 rfl (lv_at hl 4 rfl) ?_
        refine ss_ki (ss_rVN (C := RX0) (host := RX4) (As := [.int (r9), .int (x3)]) (rest := []) F ((mX0_spaces l D A L wr cI cZ cS σ8 r9 x3) _) gX4_meeting_X0_spaces_n139 rfl ⟨rfl, rfl⟩ dvX0_spaces (by decide +kernel) ⟨by decide +kernel, by decide +kernel, by decide +kernel⟩ ⟨Nat.le_of_ble_eq_true rfl, Nat.le_of_ble_eq_true rfl⟩ (ss_preV F.2.2.2.2.1 F.2.2.2.2.2 hC (ss_rec (C := RX0) (T := TX0) (N := 3) (ci := 0) F.2.2.2.2.1 hC (1) (Nat.le_of_ble_eq_true rfl) rfl rfl) hw) rfl hl.1 rfl (Nat.le_of_ble_eq_true rfl) dX4_meeting_46 ⟨Nat.zero_le _, Nat.zero_le _⟩) hC (fun r11 σ10 H locs hC hw => ?_)
        refine lv_aload_n hx hb dX4_meeting_49 rfl (lv_at hl 1 rfl) ?_
        refine ss_get (C := RX4) (T := TX4) (N := 9) (ci := 4) (v := .ref (L (1))) F hC (0) u_X4 (Nat.le_of_ble_eq_true rfl) rfl rfl 0 (by decide) f_10 rfl dX4_meeting_50 ?_
        refine lv_aload_n hx hb dX4_meeting_53 rfl (lv_at hl 1 rfl) ?_
        refine ss_get (C := RX4) (T := TX4) (N := 9) (ci := 4) (v := .ref (L (1))) F hC (0) u_X4 (Nat.le_of_ble_eq_true rfl) rfl rfl 0 (by decide) f_10 rfl dX4_meeting_54 ?_
        refine ss_getN (C := RX0) (T := TX0) (N := 3) (ci := 0) (host := RX4) (v := .int (σ10 1 1)) F hC (1) u_X0 (Nat.le_of_ble_eq_true rfl) rfl rfl 1 (by decide) (by decide +kernel) rfl dX4_meeting_57 ?_
        refine lv_iload hx hb dX4_meeting_60 (lv_at hl 0 rfl) ?_
        refine lv_isub hx hb dX4_meeting_62 ?_
        refine lv_iload_n hx hb dX4_meeting_63 rfl (lv_at hl 3 rfl) ?_
        refine lv_iload_n hx hb dX4_meeting_64 rfl (lv_at hl 4 rfl) ?_
        refine lv_isub hx hb dX4_meeting_65 ?_
        refine ss_ki (ss_rVN (C := RX0) (host := RX4) (As := [.int ((σ10 1 1) - r9), .int (x2 - x3)]) (rest := [.int (r11)]) F ((mX0_spaces l D A L wr cI cZ cS σ10 ((σ10 1 1) - r9) (x2 - x3)) _) gX4_meeting_X0_spaces_n139 rfl ⟨rfl, rfl⟩ dvX0_spaces (by decide +kernel) ⟨by decide +kernel, by decide +kernel, by decide +kernel⟩ ⟨Nat.le_of_ble_eq_true rfl, Nat.le_of_ble_eq_true rfl⟩ (ss_preV F.2.2.2.2.1 F.2.2.2.2.2 hC (ss_rec (C := RX0) (T := TX0) (N := 3) (ci := 0) F.2.2.2.2.1 hC (1) (Nat.le_of_ble_eq_true rfl) rfl rfl) hw) rfl hl.1 rfl (Nat.le_of_ble_eq_true rfl) dX4_meeting_66 ⟨Nat.zero_le _, Nat.zero_le _⟩) hC (fun r13 σ12 H locs hC hw => ?_)
        refine lv_imul hx hb dX4_meeting_69 ?_
        refine lv_istore (lv' := [(5, .int (r11 * r13)), (4, .int (r9)), (0, .ref (L (0))), (1, .int (x1)), (2, .int (x2)), (3, .int (x3))]) hx hb dX4_meeting_70 hl (by decide) rfl (fun ls hl => ?_)
        refine lv_iload hx hb dX4_meeting_72 (lv_at hl 0 rfl) ?_
        refine lv_if_ne (tgt := 81) hx hb dX4_meeting_74 (by decide) (fun hc => ?_) (fun hc => ?_)
        · replace hw := hw.1 hc
          refine lv_iload hx hb dX4_meeting_81 (lv_at hl 0 rfl) ?_
          refine lv_aload_n hx hb dX4_meeting_83 rfl (lv_at hl 2 rfl) ?_
          refine ss_get (C := RX4) (T := TX4) (N := 9) (ci := 4) (v := .ref (L (1))) F hC (0) u_X4 (Nat.le_of_ble_eq_true rfl) rfl rfl 0 (by decide) f_10 rfl dX4_meeting_84 ?_
          refine lv_iload hx hb dX4_meeting_87 (lv_at hl 1 rfl) ?_
          refine lv_iload_n hx hb dX4_meeting_89 rfl (lv_at hl 5 rfl) ?_
          refine lv_isub hx hb dX4_meeting_90 ?_
          refine lv_iload_n hx hb dX4_meeting_91 rfl (lv_at hl 4 rfl) ?_
          refine lv_iload_n hx hb dX4_meeting_92 rfl (lv_at hl 5 rfl) ?_
          refine lv_isub hx hb dX4_meeting_93 ?_
          refine lv_imul hx hb dX4_meeting_94 ?_
          refine ss_ki (ss_rVN (C := RX0) (host := RX4) (As := [.int ((r9 - x3) * (x2 - x3))]) (rest := [.int (r11 * r13)]) F ((mX0_power l D A L wr cI cZ cS σ12 ((r9 - x3) * (x2 - x3))) _) gX4_meeting_X0_power_n145 rfl ⟨rfl, rfl⟩ dvX0_power (by decide +kernel) ⟨by decide +kernel, by decide +kernel, by decide +kernel⟩ ⟨Nat.le_of_ble_eq_true rfl, Nat.le_of_ble_eq_true rfl⟩ (ss_preV F.2.2.2.2.1 F.2.2.2.2.2 hC (ss_rec (C := RX0) (T := TX0) (N := 3) (ci := 0) F.2.2.2.2.1 hC (1) (Nat.le_of_ble_eq_true rfl) rfl rfl) hw) rfl hl.1 rfl (Nat.le_of_ble_eq_true rfl) dX4_meeting_95 ⟨Nat.zero_le _, Nat.zero_le _⟩) hC (fun r15 σ14 H locs hC hw => ?_)
          refine lv_imul hx hb dX4_meeting_98 ?_
          exact ss_iret F hC hw dX4_meeting_99
        · replace hw := hw.2 hc
          refine lv_iconst (v := 0) hx hb dX4_meeting_77 (by decide) ?_
          refine lv_goto (tgt := 99) hx hb dX4_meeting_78 (by decide) ?_
          exact ss_iret F hC hw dX4_meeting_99
      · replace hw := hw.2 hc
        refine lv_iconst (v := 0) hx hb dX4_meeting_26 (by decide) ?_
        exact ss_iret F hC hw dX4_meeting_27
  · replace hw := hw.2 hc
    refine lv_bipush (v := -101) hx hb dX4_meeting_7 (by decide) ?_
    exact ss_iret F hC hw dX4_meeting_9

theorem mX4_meeting (l : Launch) (D : va_G) (A : Nat → Prop) (L : Nat → Nat) (wr : va_W) (cI cZ cS : ClassId) (σ : ss_S) (x1 : Int32) (x2 : Int32) (x3 : Int32)  : ss_MI l yX4_meeting wsX4_meeting rmX4_meeting (ss_EC D A L wr cI cZ cS) [.ref (L (0)), .int (x1), .int (x2), .int (x3)] σ (fun post => wX4_meeting x1 x2 x3 σ post) :=
  ss_MI.of (cc := cX4_meeting) (nL := 6) (ret := (some .int)) (own := RX4) (by decide) rfl rfl (Nat.le_of_ble_eq_true rfl) (fun post p e R s m below meth c H locs ls F hC hl hw => bX4_meeting F  σ H locs ls hC hl hw)

set_option maxHeartbeats 4000000 in
set_option maxRecDepth 100000 in
theorem bX4_put {x1 : Int32} {post : Int32 → ss_S → Prop} (F : ss_F p R s m args meth c (ss_EC D A L wr cI cZ cS) cX4_put 2 wsX4_put RX4 (some .int) rmX4_put)  : ∀ (σ : ss_S) (H : Heap) (locs : List Loc) (ls : Array Slot), ss_C (ss_EC D A L wr cI cZ cS) σ s H locs → lv_has ls 2 [(0, .ref (L (0))), (1, .int (x1))] → wX4_put x1 σ post → W p l e R s m args below meth c H locs 0 0 (MQ below (va_Qi post (ss_B (ss_EC D A L wr cI cZ cS)) A) args s 0 0 A) (F0 m 0 ls []) := by
  have hx := F.1.1
  have hb := F.1.2.1
  have u_X4 : ∀ w ∈ u_ws RX4 TX4 9, w ∈ wsX4_put := by decide +kernel
  have f_28 : (Cond.fieldLink RX4 28 "SmallSpaces" "heap" "LSmallSpaces$Heap;").before args s = true := F.1.2.2.2.2 _ (by decide +kernel)
  have u_X1 : ∀ w ∈ u_ws RX1 TX1 3, w ∈ wsX4_put := by decide +kernel
  have f_18 : (Cond.fieldLink RX4 18 "SmallSpaces" "slots" "[LSmallSpaces$Space;").before args s = true := F.1.2.2.2.2 _ (by decide +kernel)
  intro σ H locs ls hC hl hw
  unfold wX4_put at hw
  refine lv_iload_n hx hb dX4_put_0 rfl (lv_at hl 1 rfl) ?_
  refine ss_ki (ss_rS (As := [.int (x1)]) (rest := []) F ((mX4_isSlot l D A L wr cI cZ cS σ x1) _) gX4_put_X4_isSlot rfl ⟨rfl, rfl⟩ dvX4_isSlot ⟨Nat.le_of_ble_eq_true rfl, Nat.le_of_ble_eq_true rfl⟩ (ss_preS F.2.2.2.2.1 F.2.2.2.2.2 hC hw) rfl hl.1 rfl (Nat.le_of_ble_eq_true rfl) dX4_put_1 ⟨Nat.zero_le _, Nat.zero_le _⟩) hC (fun r2 σ1 H locs hC hw => ?_)
  refine lv_if_ne (tgt := 10) hx hb dX4_put_4 (by decide) (fun hc => ?_) (fun hc => ?_)
  · replace hw := hw.1 hc
    refine lv_aload_n hx hb dX4_put_10 rfl (lv_at hl 0 rfl) ?_
    refine ss_get (C := RX4) (T := TX4) (N := 9) (ci := 4) (v := .ref (L (3))) F hC (0) u_X4 (Nat.le_of_ble_eq_true rfl) rfl rfl 2 (by decide) f_28 rfl dX4_put_11 ?_
    refine ss_getN (C := RX1) (T := TX1) (N := 3) (ci := 1) (host := RX4) (v := .int (σ1 3 2)) F hC (3) u_X1 (Nat.le_of_ble_eq_true rfl) rfl rfl 2 (by decide) (by decide +kernel) rfl dX4_put_14 ?_
    refine lv_bipush (v := 40) hx hb dX4_put_17 (by decide) ?_
    refine lv_icmp_lt (tgt := 25) hx hb dX4_put_19 (by decide) (fun hc => ?_) (fun hc => ?_)
    · replace hw := hw.1 hc
      refine lv_aload_n hx hb dX4_put_25 rfl (lv_at hl 0 rfl) ?_
      refine ss_get (C := RX4) (T := TX4) (N := 9) (ci := 4) (v := .ref (L (3))) F hC (0) u_X4 (Nat.le_of_ble_eq_true rfl) rfl rfl 2 (by decide) f_28 rfl dX4_put_26 ?_
      refine lv_aload_n hx hb dX4_put_29 rfl (lv_at hl 0 rfl) ?_
      refine ss_get (C := RX4) (T := TX4) (N := 9) (ci := 4) (v := .ref (L (2))) F hC (0) u_X4 (Nat.le_of_ble_eq_true rfl) rfl rfl 1 (by decide) f_18 rfl dX4_put_30 ?_
      refine lv_iload_n hx hb dX4_put_33 rfl (lv_at hl 1 rfl) ?_
      have hv3 := hw.1
      replace hw := hw.2
      refine ss_aald (v := L (9 + 3 * (Int32.toNatClampNeg x1))) F hC 2 2 (Nat.le_of_ble_eq_true rfl) rfl rfl hv3 rfl dX4_put_34 ?_
      refine ss_kv (ss_rVN (C := RX1) (host := RX4) (As := [.ref (L (9 + 3 * (Int32.toNatClampNeg x1)))]) (rest := []) F ((mX1_accept l D A L wr cI cZ cS σ1 (9 + 3 * (Int32.toNatClampNeg x1)) (isSp_slot hv3)) _) gX4_put_X1_accept_n148 rfl ⟨rfl, rfl⟩ dvX1_accept (by decide +kernel) ⟨by decide +kernel, by decide +kernel, by decide +kernel⟩ ⟨Nat.le_of_ble_eq_true rfl, Nat.le_of_ble_eq_true rfl⟩ (ss_preV F.2.2.2.2.1 F.2.2.2.2.2 hC (ss_rec (C := RX1) (T := TX1) (N := 3) (ci := 1) F.2.2.2.2.1 hC (3) (Nat.le_of_ble_eq_true rfl) rfl rfl) hw) rfl hl.1 rfl (Nat.le_of_ble_eq_true rfl) dX4_put_35 ⟨Nat.zero_le _, Nat.zero_le _⟩) hC (fun σ4 H locs hC hw => ?_)
      refine lv_aload_n hx hb dX4_put_38 rfl (lv_at hl 0 rfl) ?_
      refine ss_get (C := RX4) (T := TX4) (N := 9) (ci := 4) (v := .ref (L (3))) F hC (0) u_X4 (Nat.le_of_ble_eq_true rfl) rfl rfl 2 (by decide) f_28 rfl dX4_put_39 ?_
      refine ss_getN (C := RX1) (T := TX1) (N := 3) (ci := 1) (host := RX4) (v := .int (σ4 3 2)) F hC (3) u_X1 (Nat.le_of_ble_eq_true rfl) rfl rfl 2 (by decide) (by decide +kernel) rfl dX4_put_42 ?_
      exact ss_iret F hC hw dX4_put_45
    · replace hw := hw.2 hc
      refine lv_bipush (v := -104) hx hb dX4_put_22 (by decide) ?_
      exact ss_iret F hC hw dX4_put_24
  · replace hw := hw.2 hc
    refine lv_bipush (v := -101) hx hb dX4_put_7 (by decide) ?_
    exact ss_iret F hC hw dX4_put_9

theorem mX4_put (l : Launch) (D : va_G) (A : Nat → Prop) (L : Nat → Nat) (wr : va_W) (cI cZ cS : ClassId) (σ : ss_S) (x1 : Int32)  : ss_MI l yX4_put wsX4_put rmX4_put (ss_EC D A L wr cI cZ cS) [.ref (L (0)), .int (x1)] σ (fun post => wX4_put x1 σ post) :=
  ss_MI.of (cc := cX4_put) (nL := 2) (ret := (some .int)) (own := RX4) (by decide) rfl rfl (Nat.le_of_ble_eq_true rfl) (fun post p e R s m below meth c H locs ls F hC hl hw => bX4_put F  σ H locs ls hC hl hw)

set_option maxHeartbeats 4000000 in
set_option maxRecDepth 100000 in
theorem bX4_empty  {post : Int32 → ss_S → Prop} (F : ss_F p R s m args meth c (ss_EC D A L wr cI cZ cS) cX4_empty 2 wsX4_empty RX4 (some .int) rmX4_empty)  : ∀ (σ : ss_S) (H : Heap) (locs : List Loc) (ls : Array Slot), ss_C (ss_EC D A L wr cI cZ cS) σ s H locs → lv_has ls 2 [(0, .ref (L (0)))] → wX4_empty  σ post → W p l e R s m args below meth c H locs 0 0 (MQ below (va_Qi post (ss_B (ss_EC D A L wr cI cZ cS)) A) args s 0 0 A) (F0 m 0 ls []) := by
  have hx := F.1.1
  have hb := F.1.2.1
  have u_X4 : ∀ w ∈ u_ws RX4 TX4 9, w ∈ wsX4_empty := by decide +kernel
  have f_28 : (Cond.fieldLink RX4 28 "SmallSpaces" "heap" "LSmallSpaces$Heap;").before args s = true := F.1.2.2.2.2 _ (by decide +kernel)
  have u_X1 : ∀ w ∈ u_ws RX1 TX1 3, w ∈ wsX4_empty := by decide +kernel
  intro σ H locs ls hC hl hw
  unfold wX4_empty at hw
  refine lv_aload_n hx hb dX4_empty_0 rfl (lv_at hl 0 rfl) ?_
  refine ss_get (C := RX4) (T := TX4) (N := 9) (ci := 4) (v := .ref (L (3))) F hC (0) u_X4 (Nat.le_of_ble_eq_true rfl) rfl rfl 2 (by decide) f_28 rfl dX4_empty_1 ?_
  refine ss_getN (C := RX1) (T := TX1) (N := 3) (ci := 1) (host := RX4) (v := .int (σ 3 2)) F hC (3) u_X1 (Nat.le_of_ble_eq_true rfl) rfl rfl 2 (by decide) (by decide +kernel) rfl dX4_empty_4 ?_
  refine lv_istore_n (lv' := [(1, .int (σ 3 2)), (0, .ref (L (0)))]) hx hb dX4_empty_7 rfl hl (by decide) rfl (fun ls hl => ?_)
  refine lv_aload_n hx hb dX4_empty_8 rfl (lv_at hl 1 rfl) ?_
  refine ss_get (C := RX4) (T := TX4) (N := 9) (ci := 4) (v := .ref (L (3))) F hC (0) u_X4 (Nat.le_of_ble_eq_true rfl) rfl rfl 2 (by decide) f_28 rfl dX4_empty_9 ?_
  refine lv_iconst (v := 0) hx hb dX4_empty_12 (by decide) ?_
  refine ss_putN (C := RX1) (T := TX1) (N := 3) (ci := 1) (host := RX4) F hC (3) tyX1 tyX1_ok nmX1 u_X1 (Nat.le_of_ble_eq_true rfl) rfl rfl 2 (by decide) (by decide +kernel) rfl (by decide +kernel) (Nat.le_of_ble_eq_true rfl) rfl dX4_empty_13 (fun H locs hC => ?_)
  refine lv_iload_n hx hb dX4_empty_16 rfl (lv_at hl 0 rfl) ?_
  exact ss_iret F hC hw dX4_empty_17

theorem mX4_empty (l : Launch) (D : va_G) (A : Nat → Prop) (L : Nat → Nat) (wr : va_W) (cI cZ cS : ClassId) (σ : ss_S)   : ss_MI l yX4_empty wsX4_empty rmX4_empty (ss_EC D A L wr cI cZ cS) [.ref (L (0))] σ (fun post => wX4_empty  σ post) :=
  ss_MI.of (cc := cX4_empty) (nL := 2) (ret := (some .int)) (own := RX4) (by decide) rfl rfl (Nat.le_of_ble_eq_true rfl) (fun post p e R s m below meth c H locs ls F hC hl hw => bX4_empty F  σ H locs ls hC hl hw)

set_option maxHeartbeats 4000000 in
set_option maxRecDepth 100000 in
theorem bX4_take {x1 : Int32} {x2 : Int32} {post : Int32 → ss_S → Prop} (F : ss_F p R s m args meth c (ss_EC D A L wr cI cZ cS) cX4_take 3 wsX4_take RX4 (some .int) rmX4_take)  : ∀ (σ : ss_S) (H : Heap) (locs : List Loc) (ls : Array Slot), ss_C (ss_EC D A L wr cI cZ cS) σ s H locs → lv_has ls 3 [(0, .ref (L (0))), (1, .int (x1)), (2, .int (x2))] → wX4_take x1 x2 σ post → W p l e R s m args below meth c H locs 0 0 (MQ below (va_Qi post (ss_B (ss_EC D A L wr cI cZ cS)) A) args s 0 0 A) (F0 m 0 ls []) := by
  have hx := F.1.1
  have hb := F.1.2.1
  have u_X4 : ∀ w ∈ u_ws RX4 TX4 9, w ∈ wsX4_take := by decide +kernel
  have f_28 : (Cond.fieldLink RX4 28 "SmallSpaces" "heap" "LSmallSpaces$Heap;").before args s = true := F.1.2.2.2.2 _ (by decide +kernel)
  have u_X1 : ∀ w ∈ u_ws RX1 TX1 3, w ∈ wsX4_take := by decide +kernel
  intro σ H locs ls hC hl hw
  unfold wX4_take at hw
  refine lv_iload_n hx hb dX4_take_0 rfl (lv_at hl 1 rfl) ?_
  refine ss_ki (ss_rS (As := [.int (x1)]) (rest := []) F ((mX4_isSlot l D A L wr cI cZ cS σ x1) _) gX4_take_X4_isSlot rfl ⟨rfl, rfl⟩ dvX4_isSlot ⟨Nat.le_of_ble_eq_true rfl, Nat.le_of_ble_eq_true rfl⟩ (ss_preS F.2.2.2.2.1 F.2.2.2.2.2 hC hw) rfl hl.1 rfl (Nat.le_of_ble_eq_true rfl) dX4_take_1 ⟨Nat.zero_le _, Nat.zero_le _⟩) hC (fun r2 σ1 H locs hC hw => ?_)
  refine lv_if_eq (tgt := 22) hx hb dX4_take_4 (by decide) (fun hc => ?_) (fun hc => ?_)
  · replace hw := hw.1 hc
    refine lv_bipush (v := -101) hx hb dX4_take_22 (by decide) ?_
    exact ss_iret F hC hw dX4_take_24
  · replace hw := hw.2 hc
    refine lv_iload_n hx hb dX4_take_7 rfl (lv_at hl 2 rfl) ?_
    refine lv_if_lt (tgt := 22) hx hb dX4_take_8 (by decide) (fun hc => ?_) (fun hc => ?_)
    · replace hw := hw.1 hc
      refine lv_bipush (v := -101) hx hb dX4_take_22 (by decide) ?_
      exact ss_iret F hC hw dX4_take_24
    · replace hw := hw.2 hc
      refine lv_iload_n hx hb dX4_take_11 rfl (lv_at hl 2 rfl) ?_
      refine lv_aload_n hx hb dX4_take_12 rfl (lv_at hl 0 rfl) ?_
      refine ss_get (C := RX4) (T := TX4) (N := 9) (ci := 4) (v := .ref (L (3))) F hC (0) u_X4 (Nat.le_of_ble_eq_true rfl) rfl rfl 2 (by decide) f_28 rfl dX4_take_13 ?_
      refine ss_getN (C := RX1) (T := TX1) (N := 3) (ci := 1) (host := RX4) (v := .int (σ1 3 2)) F hC (3) u_X1 (Nat.le_of_ble_eq_true rfl) rfl rfl 2 (by decide) (by decide +kernel) rfl dX4_take_16 ?_
      refine lv_icmp_lt (tgt := 25) hx hb dX4_take_19 (by decide) (fun hc => ?_) (fun hc => ?_)
      · replace hw := hw.1 hc
        refine lv_aload_n hx hb dX4_take_25 rfl (lv_at hl 0 rfl) ?_
        refine lv_aload_n hx hb dX4_take_26 rfl (lv_at hl 0 rfl) ?_
        refine ss_get (C := RX4) (T := TX4) (N := 9) (ci := 4) (v := .ref (L (3))) F hC (0) u_X4 (Nat.le_of_ble_eq_true rfl) rfl rfl 2 (by decide) f_28 rfl dX4_take_27 ?_
        refine ss_getN (C := RX1) (T := TX1) (N := 3) (ci := 1) (host := RX4) (v := .ref (L (4))) F hC (3) u_X1 (Nat.le_of_ble_eq_true rfl) rfl rfl 0 (by decide) (by decide +kernel) rfl dX4_take_30 ?_
        refine lv_iload_n hx hb dX4_take_33 rfl (lv_at hl 2 rfl) ?_
        have hv3 := hw.1
        replace hw := hw.2
        refine ss_aald (v := L (45 + 3 * (Int32.toNatClampNeg x2))) F hC 4 2 (Nat.le_of_ble_eq_true rfl) rfl rfl hv3 rfl dX4_take_34 ?_
        refine lv_iload_n hx hb dX4_take_35 rfl (lv_at hl 1 rfl) ?_
        refine ss_ki (ss_rV (C := RX4) (As := [.ref (L (45 + 3 * (Int32.toNatClampNeg x2))), .int (x1)]) (rest := []) F ((mX4_settle l D A L wr cI cZ cS σ1 (45 + 3 * (Int32.toNatClampNeg x2)) x1 (isSp_heap hv3)) _) gX4_take_X4_settle rfl ⟨rfl, rfl⟩ ⟨rfl, dvX4_settle⟩ ⟨Nat.le_of_ble_eq_true rfl, Nat.le_of_ble_eq_true rfl⟩ (ss_preV F.2.2.2.2.1 F.2.2.2.2.2 hC (ss_rec (C := RX4) (T := TX4) (N := 9) (ci := 4) F.2.2.2.2.1 hC (0) (Nat.le_of_ble_eq_true rfl) rfl rfl) hw) rfl hl.1 rfl (Nat.le_of_ble_eq_true rfl) dX4_take_36 ⟨Nat.zero_le _, Nat.zero_le _⟩) hC (fun r5 σ4 H locs hC hw => ?_)
        exact ss_iret F hC hw dX4_take_39
      · replace hw := hw.2 hc
        refine lv_bipush (v := -101) hx hb dX4_take_22 (by decide) ?_
        exact ss_iret F hC hw dX4_take_24

theorem mX4_take (l : Launch) (D : va_G) (A : Nat → Prop) (L : Nat → Nat) (wr : va_W) (cI cZ cS : ClassId) (σ : ss_S) (x1 : Int32) (x2 : Int32)  : ss_MI l yX4_take wsX4_take rmX4_take (ss_EC D A L wr cI cZ cS) [.ref (L (0)), .int (x1), .int (x2)] σ (fun post => wX4_take x1 x2 σ post) :=
  ss_MI.of (cc := cX4_take) (nL := 3) (ret := (some .int)) (own := RX4) (by decide) rfl rfl (Nat.le_of_ble_eq_true rfl) (fun post p e R s m below meth c H locs ls F hC hl hw => bX4_take F  σ H locs ls hC hl hw)

set_option maxHeartbeats 4000000 in
set_option maxRecDepth 100000 in
theorem bX4_least  {post : Int32 → ss_S → Prop} (F : ss_F p R s m args meth c (ss_EC D A L wr cI cZ cS) cX4_least 1 wsX4_least RX4 (some .int) rmX4_least)  : ∀ (σ : ss_S) (H : Heap) (locs : List Loc) (ls : Array Slot), ss_C (ss_EC D A L wr cI cZ cS) σ s H locs → lv_has ls 1 [(0, .ref (L (0)))] → wX4_least  σ post → W p l e R s m args below meth c H locs 0 0 (MQ below (va_Qi post (ss_B (ss_EC D A L wr cI cZ cS)) A) args s 0 0 A) (F0 m 0 ls []) := by
  have hx := F.1.1
  have hb := F.1.2.1
  have u_X4 : ∀ w ∈ u_ws RX4 TX4 9, w ∈ wsX4_least := by decide +kernel
  have f_28 : (Cond.fieldLink RX4 28 "SmallSpaces" "heap" "LSmallSpaces$Heap;").before args s = true := F.1.2.2.2.2 _ (by decide +kernel)
  intro σ H locs ls hC hl hw
  unfold wX4_least at hw
  refine lv_aload_n hx hb dX4_least_0 rfl (lv_at hl 0 rfl) ?_
  refine ss_get (C := RX4) (T := TX4) (N := 9) (ci := 4) (v := .ref (L (3))) F hC (0) u_X4 (Nat.le_of_ble_eq_true rfl) rfl rfl 2 (by decide) f_28 rfl dX4_least_1 ?_
  refine ss_ki (ss_rVN (C := RX1) (host := RX4) (As := []) (rest := []) F ((mX1_leastDistance l D A L wr cI cZ cS σ ) _) gX4_least_X1_leastDistance_n153 rfl ⟨rfl, rfl⟩ dvX1_leastDistance (by decide +kernel) ⟨by decide +kernel, by decide +kernel, by decide +kernel⟩ ⟨Nat.le_of_ble_eq_true rfl, Nat.le_of_ble_eq_true rfl⟩ (ss_preV F.2.2.2.2.1 F.2.2.2.2.2 hC (ss_rec (C := RX1) (T := TX1) (N := 3) (ci := 1) F.2.2.2.2.1 hC (3) (Nat.le_of_ble_eq_true rfl) rfl rfl) hw) rfl hl.1 rfl (Nat.le_of_ble_eq_true rfl) dX4_least_4 ⟨Nat.zero_le _, Nat.zero_le _⟩) hC (fun r2 σ1 H locs hC hw => ?_)
  exact ss_iret F hC hw dX4_least_7

theorem mX4_least (l : Launch) (D : va_G) (A : Nat → Prop) (L : Nat → Nat) (wr : va_W) (cI cZ cS : ClassId) (σ : ss_S)   : ss_MI l yX4_least wsX4_least rmX4_least (ss_EC D A L wr cI cZ cS) [.ref (L (0))] σ (fun post => wX4_least  σ post) :=
  ss_MI.of (cc := cX4_least) (nL := 1) (ret := (some .int)) (own := RX4) (by decide) rfl rfl (Nat.le_of_ble_eq_true rfl) (fun post p e R s m below meth c H locs ls F hC hl hw => bX4_least F  σ H locs ls hC hl hw)

set_option maxHeartbeats 4000000 in
set_option maxRecDepth 100000 in
theorem tX4_bare_4  {post : Int32 → ss_S → Prop} (F : ss_F p R s m args meth c (ss_EC D A L wr cI cZ cS) cX4_bare 3 wsX4_bare RX4 (some .int) rmX4_bare)  (k51 : Int32 → Int32 → ss_S → Prop) : ∀ (n : Nat) (x1 : Int32) (x2 : Int32) (σ : ss_S) (H : Heap) (locs : List Loc) (ls : Array Slot), ss_C (ss_EC D A L wr cI cZ cS) σ s H locs → lv_has ls 3 [(0, .ref (L (0))), (1, .int (x1)), (2, .int (x2))] → lX4_bare_4 post k51 n x1 x2 σ →
    (∀ (x1 : Int32) (x2 : Int32) (σ : ss_S) (H : Heap) (locs : List Loc) (ls : Array Slot), ss_C (ss_EC D A L wr cI cZ cS) σ s H locs → lv_has ls 3 [(1, .int (x1))] → k51 x1 x2 σ → W p l e R s m args below meth c H locs 0 0 (MQ below (va_Qi post (ss_B (ss_EC D A L wr cI cZ cS)) A) args s 0 0 A) (F0 m 51 ls [])) →
    W p l e R s m args below meth c H locs 0 0 (MQ below (va_Qi post (ss_B (ss_EC D A L wr cI cZ cS)) A) args s 0 0 A) (F0 m 4 ls []) := by
  have hx := F.1.1
  have hb := F.1.2.1
  have u_X4 : ∀ w ∈ u_ws RX4 TX4 9, w ∈ wsX4_bare := by decide +kernel
  have f_10 : (Cond.fieldLink RX4 10 "SmallSpaces" "frame" "LSmallSpaces$Frame;").before args s = true := F.1.2.2.2.2 _ (by decide +kernel)
  have u_X0 : ∀ w ∈ u_ws RX0 TX0 3, w ∈ wsX4_bare := by decide +kernel
  have f_46 : (Cond.fieldLink RX4 46 "SmallSpaces" "figures" "[I").before args s = true := F.1.2.2.2.2 _ (by decide +kernel)
  have f_28 : (Cond.fieldLink RX4 28 "SmallSpaces" "heap" "LSmallSpaces$Heap;").before args s = true := F.1.2.2.2.2 _ (by decide +kernel)
  intro n
  induction n with
  | zero => intro x1 x2 σ H locs ls hC hl hw; exact hw.elim
  | succ n ih =>
    intro x1 x2 σ H locs ls hC hl hw hk51
    refine lv_iload_n hx hb dX4_bare_4 rfl (lv_at hl 2 rfl) ?_
    refine lv_aload_n hx hb dX4_bare_5 rfl (lv_at hl 0 rfl) ?_
    refine ss_get (C := RX4) (T := TX4) (N := 9) (ci := 4) (v := .ref (L (1))) F hC (0) u_X4 (Nat.le_of_ble_eq_true rfl) rfl rfl 0 (by decide) f_10 rfl dX4_bare_6 ?_
    refine ss_getN (C := RX0) (T := TX0) (N := 3) (ci := 0) (host := RX4) (v := .int (σ 1 2)) F hC (1) u_X0 (Nat.le_of_ble_eq_true rfl) rfl rfl 2 (by decide) (by decide +kernel) rfl dX4_bare_9 ?_
    refine lv_icmp_ge (tgt := 51) hx hb dX4_bare_12 (by decide) (fun hc => ?_) (fun hc => ?_)
    · replace hw := hw.1 hc
      exact hk51 x1 x2 σ _ _ _ hC (lv_sub hl [1] rfl) hw
    · replace hw := hw.2 hc
      refine lv_aload_n hx hb dX4_bare_15 rfl (lv_at hl 0 rfl) ?_
      refine ss_get (C := RX4) (T := TX4) (N := 9) (ci := 4) (v := .ref (L (1))) F hC (0) u_X4 (Nat.le_of_ble_eq_true rfl) rfl rfl 0 (by decide) f_10 rfl dX4_bare_16 ?_
      refine lv_iload_n hx hb dX4_bare_19 rfl (lv_at hl 2 rfl) ?_
      refine lv_aload_n hx hb dX4_bare_20 rfl (lv_at hl 0 rfl) ?_
      refine ss_get (C := RX4) (T := TX4) (N := 9) (ci := 4) (v := .ref (L (6))) F hC (0) u_X4 (Nat.le_of_ble_eq_true rfl) rfl rfl 6 (by decide) f_46 rfl dX4_bare_21 ?_
      refine lv_iconst (v := 0) hx hb dX4_bare_24 (by decide) ?_
      refine ss_kv (ss_rVN (C := RX0) (host := RX4) (As := [.int (x2), .ref (L (6)), .int (0)]) (rest := []) F ((mX0_spell l D A L wr cI cZ cS σ x2 6 0 isAr_6) _) gX4_bare_X0_spell_n89 rfl ⟨rfl, rfl⟩ dvX0_spell (by decide +kernel) ⟨by decide +kernel, by decide +kernel, by decide +kernel⟩ ⟨Nat.le_of_ble_eq_true rfl, Nat.le_of_ble_eq_true rfl⟩ (ss_preV F.2.2.2.2.1 F.2.2.2.2.2 hC (ss_rec (C := RX0) (T := TX0) (N := 3) (ci := 0) F.2.2.2.2.1 hC (1) (Nat.le_of_ble_eq_true rfl) rfl rfl) hw) rfl hl.1 rfl (Nat.le_of_ble_eq_true rfl) dX4_bare_25 ⟨Nat.zero_le _, Nat.zero_le _⟩) hC (fun σ1 H locs hC hw => ?_)
      refine lv_aload_n hx hb dX4_bare_28 rfl (lv_at hl 0 rfl) ?_
      refine ss_get (C := RX4) (T := TX4) (N := 9) (ci := 4) (v := .ref (L (3))) F hC (0) u_X4 (Nat.le_of_ble_eq_true rfl) rfl rfl 2 (by decide) f_28 rfl dX4_bare_29 ?_
      refine lv_aload_n hx hb dX4_bare_32 rfl (lv_at hl 0 rfl) ?_
      refine ss_get (C := RX4) (T := TX4) (N := 9) (ci := 4) (v := .ref (L (6))) F hC (0) u_X4 (Nat.le_of_ble_eq_true rfl) rfl rfl 6 (by decide) f_46 rfl dX4_bare_33 ?_
      refine ss_ki (ss_rVN (C := RX1) (host := RX4) (As := [.ref (L (6))]) (rest := []) F ((mX1_covers l D A L wr cI cZ cS σ1 6 isAr_6) _) gX4_bare_X1_covers_n156 rfl ⟨rfl, rfl⟩ dvX1_covers (by decide +kernel) ⟨by decide +kernel, by decide +kernel, by decide +kernel⟩ ⟨Nat.le_of_ble_eq_true rfl, Nat.le_of_ble_eq_true rfl⟩ (ss_preV F.2.2.2.2.1 F.2.2.2.2.2 hC (ss_rec (C := RX1) (T := TX1) (N := 3) (ci := 1) F.2.2.2.2.1 hC (3) (Nat.le_of_ble_eq_true rfl) rfl rfl) hw) rfl hl.1 rfl (Nat.le_of_ble_eq_true rfl) dX4_bare_36 ⟨Nat.zero_le _, Nat.zero_le _⟩) hC (fun r3 σ2 H locs hC hw => ?_)
      refine lv_if_ne (tgt := 45) hx hb dX4_bare_39 (by decide) (fun hc => ?_) (fun hc => ?_)
      · replace hw := hw.1 hc
        refine lv_iinc (v := x2 + 1) (lv' := [(2, .int (x2 + 1)), (0, .ref (L (0))), (1, .int (x1))]) hx hb dX4_bare_45 hl (k := 2) rfl rfl (by decide) rfl (fun ls hl => ?_)
        refine lv_goto (tgt := 4) hx hb dX4_bare_48 (by decide) ?_
        exact ih x1 (x2 + 1) σ2 _ _ _ hC (lv_sub hl [1, 2, 0] rfl) hw hk51
      · replace hw := hw.2 hc
        refine lv_iinc (v := x1 + 1) (lv' := [(1, .int (x1 + 1)), (0, .ref (L (0))), (2, .int (x2))]) hx hb dX4_bare_42 hl (k := 1) rfl rfl (by decide) rfl (fun ls hl => ?_)
        refine lv_iinc (v := x2 + 1) (lv' := [(2, .int (x2 + 1)), (1, .int (x1 + 1)), (0, .ref (L (0)))]) hx hb dX4_bare_45 hl (k := 2) rfl rfl (by decide) rfl (fun ls hl => ?_)
        refine lv_goto (tgt := 4) hx hb dX4_bare_48 (by decide) ?_
        exact ih (x1 + 1) (x2 + 1) σ2 _ _ _ hC (lv_sub hl [2, 1, 0] rfl) hw hk51

set_option maxHeartbeats 4000000 in
set_option maxRecDepth 100000 in
theorem bX4_bare  {post : Int32 → ss_S → Prop} (F : ss_F p R s m args meth c (ss_EC D A L wr cI cZ cS) cX4_bare 3 wsX4_bare RX4 (some .int) rmX4_bare)  : ∀ (σ : ss_S) (H : Heap) (locs : List Loc) (ls : Array Slot), ss_C (ss_EC D A L wr cI cZ cS) σ s H locs → lv_has ls 3 [(0, .ref (L (0)))] → wX4_bare  σ post → W p l e R s m args below meth c H locs 0 0 (MQ below (va_Qi post (ss_B (ss_EC D A L wr cI cZ cS)) A) args s 0 0 A) (F0 m 0 ls []) := by
  have hx := F.1.1
  have hb := F.1.2.1
  intro σ H locs ls hC hl hw
  unfold wX4_bare at hw
  refine lv_iconst (v := 0) hx hb dX4_bare_0 (by decide) ?_
  refine lv_istore_n (lv' := [(1, .int (0)), (0, .ref (L (0)))]) hx hb dX4_bare_1 rfl hl (by decide) rfl (fun ls hl => ?_)
  refine lv_iconst (v := 0) hx hb dX4_bare_2 (by decide) ?_
  refine lv_istore_n (lv' := [(2, .int (0)), (1, .int (0)), (0, .ref (L (0)))]) hx hb dX4_bare_3 rfl hl (by decide) rfl (fun ls hl => ?_)
  obtain ⟨n_, hw⟩ := hw
  refine tX4_bare_4 F  _ n_ 0 0 σ _ _ _ hC (lv_sub hl [2, 1, 0] rfl) hw ?_
  · intro x1_4 x2_4 σ_4 H locs ls hC hl hw
    refine lv_iload_n hx hb dX4_bare_51 rfl (lv_at hl 0 rfl) ?_
    exact ss_iret F hC hw dX4_bare_52

theorem mX4_bare (l : Launch) (D : va_G) (A : Nat → Prop) (L : Nat → Nat) (wr : va_W) (cI cZ cS : ClassId) (σ : ss_S)   : ss_MI l yX4_bare wsX4_bare rmX4_bare (ss_EC D A L wr cI cZ cS) [.ref (L (0))] σ (fun post => wX4_bare  σ post) :=
  ss_MI.of (cc := cX4_bare) (nL := 3) (ret := (some .int)) (own := RX4) (by decide) rfl rfl (Nat.le_of_ble_eq_true rfl) (fun post p e R s m below meth c H locs ls F hC hl hw => bX4_bare F  σ H locs ls hC hl hw)

set_option maxHeartbeats 4000000 in
set_option maxRecDepth 100000 in
theorem tX4_greedy_71 {x1 : Int32} {x2 : Int32} {x3 : Int32} {post : Int32 → ss_S → Prop} (F : ss_F p R s m args meth c (ss_EC D A L wr cI cZ cS) cX4_greedy 5 wsX4_greedy RX4 (some .int) rmX4_greedy)  (k131 : Int32 → ss_S → Prop) : ∀ (n : Nat) (x4 : Int32) (σ : ss_S) (H : Heap) (locs : List Loc) (ls : Array Slot), ss_C (ss_EC D A L wr cI cZ cS) σ s H locs → lv_has ls 5 [(0, .ref (L (0))), (1, .int (x1)), (2, .int (x2)), (3, .int (x3)), (4, .int (x4))] → lX4_greedy_71 x1 x2 x3 post k131 n x4 σ →
    (∀ (x4 : Int32) (σ : ss_S) (H : Heap) (locs : List Loc) (ls : Array Slot), ss_C (ss_EC D A L wr cI cZ cS) σ s H locs → lv_has ls 5 [(0, .ref (L (0)))] → k131 x4 σ → W p l e R s m args below meth c H locs 0 0 (MQ below (va_Qi post (ss_B (ss_EC D A L wr cI cZ cS)) A) args s 0 0 A) (F0 m 131 ls [])) →
    W p l e R s m args below meth c H locs 0 0 (MQ below (va_Qi post (ss_B (ss_EC D A L wr cI cZ cS)) A) args s 0 0 A) (F0 m 71 ls []) := by
  have hx := F.1.1
  have hb := F.1.2.1
  have u_X4 : ∀ w ∈ u_ws RX4 TX4 9, w ∈ wsX4_greedy := by decide +kernel
  have f_28 : (Cond.fieldLink RX4 28 "SmallSpaces" "heap" "LSmallSpaces$Heap;").before args s = true := F.1.2.2.2.2 _ (by decide +kernel)
  have u_X1 : ∀ w ∈ u_ws RX1 TX1 3, w ∈ wsX4_greedy := by decide +kernel
  have f_39 : (Cond.fieldLink RX4 39 "SmallSpaces" "made" "LSmallSpaces$Space;").before args s = true := F.1.2.2.2.2 _ (by decide +kernel)
  intro n
  induction n with
  | zero => intro x4 σ H locs ls hC hl hw; exact hw.elim
  | succ n ih =>
    intro x4 σ H locs ls hC hl hw hk131
    refine lv_iload hx hb dX4_greedy_71 (lv_at hl 4 rfl) ?_
    refine lv_iload_n hx hb dX4_greedy_73 rfl (lv_at hl 3 rfl) ?_
    refine lv_icmp_ge (tgt := 131) hx hb dX4_greedy_74 (by decide) (fun hc => ?_) (fun hc => ?_)
    · replace hw := hw.1 hc
      exact hk131 x4 σ _ _ _ hC (lv_sub hl [0] rfl) hw
    · replace hw := hw.2 hc
      refine lv_aload_n hx hb dX4_greedy_77 rfl (lv_at hl 0 rfl) ?_
      refine ss_get (C := RX4) (T := TX4) (N := 9) (ci := 4) (v := .ref (L (3))) F hC (0) u_X4 (Nat.le_of_ble_eq_true rfl) rfl rfl 2 (by decide) f_28 rfl dX4_greedy_78 ?_
      refine ss_getN (C := RX1) (T := TX1) (N := 3) (ci := 1) (host := RX4) (v := .int (σ 3 2)) F hC (3) u_X1 (Nat.le_of_ble_eq_true rfl) rfl rfl 2 (by decide) (by decide +kernel) rfl dX4_greedy_81 ?_
      refine lv_bipush (v := 40) hx hb dX4_greedy_84 (by decide) ?_
      refine lv_icmp_ge (tgt := 131) hx hb dX4_greedy_86 (by decide) (fun hc => ?_) (fun hc => ?_)
      · replace hw := hw.1 hc
        exact hk131 x4 σ _ _ _ hC (lv_sub hl [0] rfl) hw
      · replace hw := hw.2 hc
        refine lv_aload_n hx hb dX4_greedy_89 rfl (lv_at hl 0 rfl) ?_
        refine ss_get (C := RX4) (T := TX4) (N := 9) (ci := 4) (v := .ref (L (168))) F hC (0) u_X4 (Nat.le_of_ble_eq_true rfl) rfl rfl 4 (by decide) f_39 rfl dX4_greedy_90 ?_
        refine lv_iload_n hx hb dX4_greedy_93 rfl (lv_at hl 1 rfl) ?_
        refine lv_iload hx hb dX4_greedy_94 (lv_at hl 4 rfl) ?_
        refine ss_kv (ss_rVN (C := RX3) (host := RX4) (As := [.int (x1), .int (x4)]) (rest := []) F ((mX3_becomeOrdinal l D A L wr cI cZ cS σ 168 x1 x4 isSp_168) _) gX4_greedy_X3_becomeOrdinal_n142 rfl ⟨rfl, rfl⟩ dvX3_becomeOrdinal (by decide +kernel) ⟨by decide +kernel, by decide +kernel, by decide +kernel⟩ ⟨Nat.le_of_ble_eq_true rfl, Nat.le_of_ble_eq_true rfl⟩ (ss_preV F.2.2.2.2.1 F.2.2.2.2.2 hC (ss_rec (C := RX3) (T := TX3) (N := 4) (ci := 3) F.2.2.2.2.1 hC (168) isSp_168.lt (ceC_sp (L := L) (cI := cI) (cS := cS) isSp_168 _) rfl) hw) rfl hl.1 rfl (Nat.le_of_ble_eq_true rfl) dX4_greedy_96 ⟨Nat.zero_le _, Nat.zero_le _⟩) hC (fun σ5 H locs hC hw => ?_)
        refine lv_aload_n hx hb dX4_greedy_99 rfl (lv_at hl 0 rfl) ?_
        refine ss_get (C := RX4) (T := TX4) (N := 9) (ci := 4) (v := .ref (L (3))) F hC (0) u_X4 (Nat.le_of_ble_eq_true rfl) rfl rfl 2 (by decide) f_28 rfl dX4_greedy_100 ?_
        refine lv_aload_n hx hb dX4_greedy_103 rfl (lv_at hl 0 rfl) ?_
        refine ss_get (C := RX4) (T := TX4) (N := 9) (ci := 4) (v := .ref (L (168))) F hC (0) u_X4 (Nat.le_of_ble_eq_true rfl) rfl rfl 4 (by decide) f_39 rfl dX4_greedy_104 ?_
        refine lv_iload_n hx hb dX4_greedy_107 rfl (lv_at hl 2 rfl) ?_
        refine ss_ki (ss_rVN (C := RX1) (host := RX4) (As := [.ref (L (168)), .int (x2)]) (rest := []) F ((mX1_allApart l D A L wr cI cZ cS σ5 168 x2 isSp_168) _) gX4_greedy_X1_allApart_n163 rfl ⟨rfl, rfl⟩ dvX1_allApart (by decide +kernel) ⟨by decide +kernel, by decide +kernel, by decide +kernel⟩ ⟨Nat.le_of_ble_eq_true rfl, Nat.le_of_ble_eq_true rfl⟩ (ss_preV F.2.2.2.2.1 F.2.2.2.2.2 hC (ss_rec (C := RX1) (T := TX1) (N := 3) (ci := 1) F.2.2.2.2.1 hC (3) (Nat.le_of_ble_eq_true rfl) rfl rfl) hw) rfl hl.1 rfl (Nat.le_of_ble_eq_true rfl) dX4_greedy_108 ⟨Nat.zero_le _, Nat.zero_le _⟩) hC (fun r7 σ6 H locs hC hw => ?_)
        refine lv_if_eq (tgt := 125) hx hb dX4_greedy_111 (by decide) (fun hc => ?_) (fun hc => ?_)
        · replace hw := hw.1 hc
          refine lv_iinc (v := x4 + 1) (lv' := [(4, .int (x4 + 1)), (0, .ref (L (0))), (1, .int (x1)), (2, .int (x2)), (3, .int (x3))]) hx hb dX4_greedy_125 hl (k := 4) rfl rfl (by decide) rfl (fun ls hl => ?_)
          refine lv_goto (tgt := 71) hx hb dX4_greedy_128 (by decide) ?_
          exact ih (x4 + 1) σ6 _ _ _ hC (lv_sub hl [1, 2, 3, 4, 0] rfl) hw hk131
        · replace hw := hw.2 hc
          refine lv_aload_n hx hb dX4_greedy_114 rfl (lv_at hl 0 rfl) ?_
          refine ss_get (C := RX4) (T := TX4) (N := 9) (ci := 4) (v := .ref (L (3))) F hC (0) u_X4 (Nat.le_of_ble_eq_true rfl) rfl rfl 2 (by decide) f_28 rfl dX4_greedy_115 ?_
          refine lv_aload_n hx hb dX4_greedy_118 rfl (lv_at hl 0 rfl) ?_
          refine ss_get (C := RX4) (T := TX4) (N := 9) (ci := 4) (v := .ref (L (168))) F hC (0) u_X4 (Nat.le_of_ble_eq_true rfl) rfl rfl 4 (by decide) f_39 rfl dX4_greedy_119 ?_
          refine ss_kv (ss_rVN (C := RX1) (host := RX4) (As := [.ref (L (168))]) (rest := []) F ((mX1_accept l D A L wr cI cZ cS σ6 168 isSp_168) _) gX4_greedy_X1_accept_n148 rfl ⟨rfl, rfl⟩ dvX1_accept (by decide +kernel) ⟨by decide +kernel, by decide +kernel, by decide +kernel⟩ ⟨Nat.le_of_ble_eq_true rfl, Nat.le_of_ble_eq_true rfl⟩ (ss_preV F.2.2.2.2.1 F.2.2.2.2.2 hC (ss_rec (C := RX1) (T := TX1) (N := 3) (ci := 1) F.2.2.2.2.1 hC (3) (Nat.le_of_ble_eq_true rfl) rfl rfl) hw) rfl hl.1 rfl (Nat.le_of_ble_eq_true rfl) dX4_greedy_122 ⟨Nat.zero_le _, Nat.zero_le _⟩) hC (fun σ8 H locs hC hw => ?_)
          refine lv_iinc (v := x4 + 1) (lv' := [(4, .int (x4 + 1)), (0, .ref (L (0))), (1, .int (x1)), (2, .int (x2)), (3, .int (x3))]) hx hb dX4_greedy_125 hl (k := 4) rfl rfl (by decide) rfl (fun ls hl => ?_)
          refine lv_goto (tgt := 71) hx hb dX4_greedy_128 (by decide) ?_
          exact ih (x4 + 1) σ8 _ _ _ hC (lv_sub hl [1, 2, 3, 4, 0] rfl) hw hk131

set_option maxHeartbeats 4000000 in
set_option maxRecDepth 100000 in
theorem bX4_greedy {x1 : Int32} {x2 : Int32} {post : Int32 → ss_S → Prop} (F : ss_F p R s m args meth c (ss_EC D A L wr cI cZ cS) cX4_greedy 5 wsX4_greedy RX4 (some .int) rmX4_greedy)  : ∀ (σ : ss_S) (H : Heap) (locs : List Loc) (ls : Array Slot), ss_C (ss_EC D A L wr cI cZ cS) σ s H locs → lv_has ls 5 [(0, .ref (L (0))), (1, .int (x1)), (2, .int (x2))] → wX4_greedy x1 x2 σ post → W p l e R s m args below meth c H locs 0 0 (MQ below (va_Qi post (ss_B (ss_EC D A L wr cI cZ cS)) A) args s 0 0 A) (F0 m 0 ls []) := by
  have hx := F.1.1
  have hb := F.1.2.1
  have u_X4 : ∀ w ∈ u_ws RX4 TX4 9, w ∈ wsX4_greedy := by decide +kernel
  have f_160 : (Cond.fieldLink RX4 160 "SmallSpaces" "greedyDone" "I").before args s = true := F.1.2.2.2.2 _ (by decide +kernel)
  have f_28 : (Cond.fieldLink RX4 28 "SmallSpaces" "heap" "LSmallSpaces$Heap;").before args s = true := F.1.2.2.2.2 _ (by decide +kernel)
  have u_X1 : ∀ w ∈ u_ws RX1 TX1 3, w ∈ wsX4_greedy := by decide +kernel
  have f_10 : (Cond.fieldLink RX4 10 "SmallSpaces" "frame" "LSmallSpaces$Frame;").before args s = true := F.1.2.2.2.2 _ (by decide +kernel)
  have u_X0 : ∀ w ∈ u_ws RX0 TX0 3, w ∈ wsX4_greedy := by decide +kernel
  intro σ H locs ls hC hl hw
  unfold wX4_greedy at hw
  refine lv_aload_n hx hb dX4_greedy_0 rfl (lv_at hl 0 rfl) ?_
  refine lv_iload_n hx hb dX4_greedy_1 rfl (lv_at hl 1 rfl) ?_
  refine ss_ki (ss_rV (C := RX4) (As := [.int (x1)]) (rest := []) F ((mX4_isDim l D A L wr cI cZ cS σ x1) _) gX4_greedy_X4_isDim rfl ⟨rfl, rfl⟩ ⟨rfl, dvX4_isDim⟩ ⟨Nat.le_of_ble_eq_true rfl, Nat.le_of_ble_eq_true rfl⟩ (ss_preV F.2.2.2.2.1 F.2.2.2.2.2 hC (ss_rec (C := RX4) (T := TX4) (N := 9) (ci := 4) F.2.2.2.2.1 hC (0) (Nat.le_of_ble_eq_true rfl) rfl rfl) hw) rfl hl.1 rfl (Nat.le_of_ble_eq_true rfl) dX4_greedy_2 ⟨Nat.zero_le _, Nat.zero_le _⟩) hC (fun r2 σ1 H locs hC hw => ?_)
  refine lv_if_eq (tgt := 19) hx hb dX4_greedy_5 (by decide) (fun hc => ?_) (fun hc => ?_)
  · replace hw := hw.1 hc
    refine lv_bipush (v := -102) hx hb dX4_greedy_19 (by decide) ?_
    exact ss_iret F hC hw dX4_greedy_21
  · replace hw := hw.2 hc
    refine lv_iload_n hx hb dX4_greedy_8 rfl (lv_at hl 2 rfl) ?_
    refine lv_iconst (v := 1) hx hb dX4_greedy_9 (by decide) ?_
    refine lv_icmp_lt (tgt := 19) hx hb dX4_greedy_10 (by decide) (fun hc => ?_) (fun hc => ?_)
    · replace hw := hw.1 hc
      refine lv_bipush (v := -102) hx hb dX4_greedy_19 (by decide) ?_
      exact ss_iret F hC hw dX4_greedy_21
    · replace hw := hw.2 hc
      refine lv_iload_n hx hb dX4_greedy_13 rfl (lv_at hl 2 rfl) ?_
      refine lv_bipush (v := 12) hx hb dX4_greedy_14 (by decide) ?_
      refine lv_icmp_le (tgt := 22) hx hb dX4_greedy_16 (by decide) (fun hc => ?_) (fun hc => ?_)
      · replace hw := hw.1 hc
        refine lv_aload_n hx hb dX4_greedy_22 rfl (lv_at hl 0 rfl) ?_
        refine ss_get (C := RX4) (T := TX4) (N := 9) (ci := 4) (v := .int (σ1 0 7)) F hC (0) u_X4 (Nat.le_of_ble_eq_true rfl) rfl rfl 7 (by decide) f_160 rfl dX4_greedy_23 ?_
        refine lv_bipush (v := 10) hx hb dX4_greedy_26 (by decide) ?_
        refine lv_icmp_lt (tgt := 34) hx hb dX4_greedy_28 (by decide) (fun hc => ?_) (fun hc => ?_)
        · replace hw := hw.1 hc
          refine lv_aload_n hx hb dX4_greedy_34 rfl (lv_at hl 0 rfl) ?_
          refine lv_dup hx hb dX4_greedy_35 rfl ?_
          refine ss_get (C := RX4) (T := TX4) (N := 9) (ci := 4) (v := .int (σ1 0 7)) F hC (0) u_X4 (Nat.le_of_ble_eq_true rfl) rfl rfl 7 (by decide) f_160 rfl dX4_greedy_36 ?_
          refine lv_iconst (v := 1) hx hb dX4_greedy_39 (by decide) ?_
          refine lv_iadd hx hb dX4_greedy_40 ?_
          refine ss_put (C := RX4) (T := TX4) (N := 9) (ci := 4) F hC (0) tyX4 tyX4_ok nmX4 u_X4 (Nat.le_of_ble_eq_true rfl) rfl rfl 7 (by decide) f_160 rfl (by decide +kernel) (Nat.le_of_ble_eq_true rfl) rfl dX4_greedy_41 (fun H locs hC => ?_)
          refine lv_aload_n hx hb dX4_greedy_44 rfl (lv_at hl 0 rfl) ?_
          refine ss_get (C := RX4) (T := TX4) (N := 9) (ci := 4) (v := .ref (L (3))) F hC (0) u_X4 (Nat.le_of_ble_eq_true rfl) rfl rfl 2 (by decide) f_28 rfl dX4_greedy_45 ?_
          refine lv_iconst (v := 0) hx hb dX4_greedy_48 (by decide) ?_
          refine ss_putN (C := RX1) (T := TX1) (N := 3) (ci := 1) (host := RX4) F hC (3) tyX1 tyX1_ok nmX1 u_X1 (Nat.le_of_ble_eq_true rfl) rfl rfl 2 (by decide) (by decide +kernel) rfl (by decide +kernel) (Nat.le_of_ble_eq_true rfl) rfl dX4_greedy_49 (fun H locs hC => ?_)
          refine lv_aload_n hx hb dX4_greedy_52 rfl (lv_at hl 0 rfl) ?_
          refine ss_get (C := RX4) (T := TX4) (N := 9) (ci := 4) (v := .ref (L (1))) F hC (0) u_X4 (Nat.le_of_ble_eq_true rfl) rfl rfl 0 (by decide) f_10 rfl dX4_greedy_53 ?_
          refine lv_aload_n hx hb dX4_greedy_56 rfl (lv_at hl 0 rfl) ?_
          refine ss_get (C := RX4) (T := TX4) (N := 9) (ci := 4) (v := .ref (L (1))) F hC (0) u_X4 (Nat.le_of_ble_eq_true rfl) rfl rfl 0 (by decide) f_10 rfl dX4_greedy_57 ?_
          refine ss_getN (C := RX0) (T := TX0) (N := 3) (ci := 0) (host := RX4) (v := .int ((u2 (u2 σ1 0 7 ((σ1 0 7) + 1)) 3 2 0) 1 1)) F hC (1) u_X0 (Nat.le_of_ble_eq_true rfl) rfl rfl 1 (by decide) (by decide +kernel) rfl dX4_greedy_60 ?_
          refine lv_iload_n hx hb dX4_greedy_63 rfl (lv_at hl 1 rfl) ?_
          refine ss_ki (ss_rVN (C := RX0) (host := RX4) (As := [.int ((u2 (u2 σ1 0 7 ((σ1 0 7) + 1)) 3 2 0) 1 1), .int (x1)]) (rest := []) F ((mX0_spaces l D A L wr cI cZ cS (u2 (u2 σ1 0 7 ((σ1 0 7) + 1)) 3 2 0) ((u2 (u2 σ1 0 7 ((σ1 0 7) + 1)) 3 2 0) 1 1) x1) _) gX4_greedy_X0_spaces_n139 rfl ⟨rfl, rfl⟩ dvX0_spaces (by decide +kernel) ⟨by decide +kernel, by decide +kernel, by decide +kernel⟩ ⟨Nat.le_of_ble_eq_true rfl, Nat.le_of_ble_eq_true rfl⟩ (ss_preV F.2.2.2.2.1 F.2.2.2.2.2 hC (ss_rec (C := RX0) (T := TX0) (N := 3) (ci := 0) F.2.2.2.2.1 hC (1) (Nat.le_of_ble_eq_true rfl) rfl rfl) hw) rfl hl.1 rfl (Nat.le_of_ble_eq_true rfl) dX4_greedy_64 ⟨Nat.zero_le _, Nat.zero_le _⟩) hC (fun r4 σ3 H locs hC hw => ?_)
          refine lv_istore_n (lv' := [(3, .int (r4)), (0, .ref (L (0))), (1, .int (x1)), (2, .int (x2))]) hx hb dX4_greedy_67 rfl hl (by decide) rfl (fun ls hl => ?_)
          refine lv_iconst (v := 0) hx hb dX4_greedy_68 (by decide) ?_
          refine lv_istore (lv' := [(4, .int (0)), (3, .int (r4)), (0, .ref (L (0))), (1, .int (x1)), (2, .int (x2))]) hx hb dX4_greedy_69 hl (by decide) rfl (fun ls hl => ?_)
          obtain ⟨n_, hw⟩ := hw
          refine tX4_greedy_71 F  _ n_ 0 σ3 _ _ _ hC (lv_sub hl [2, 3, 4, 1, 0] rfl) hw ?_
          · intro x4_9 σ_9 H locs ls hC hl hw
            refine lv_aload_n hx hb dX4_greedy_131 rfl (lv_at hl 0 rfl) ?_
            refine ss_get (C := RX4) (T := TX4) (N := 9) (ci := 4) (v := .ref (L (3))) F hC (0) u_X4 (Nat.le_of_ble_eq_true rfl) rfl rfl 2 (by decide) f_28 rfl dX4_greedy_132 ?_
            refine ss_getN (C := RX1) (T := TX1) (N := 3) (ci := 1) (host := RX4) (v := .int (σ_9 3 2)) F hC (3) u_X1 (Nat.le_of_ble_eq_true rfl) rfl rfl 2 (by decide) (by decide +kernel) rfl dX4_greedy_135 ?_
            exact ss_iret F hC hw dX4_greedy_138
        · replace hw := hw.2 hc
          refine lv_bipush (v := -103) hx hb dX4_greedy_31 (by decide) ?_
          exact ss_iret F hC hw dX4_greedy_33
      · replace hw := hw.2 hc
        refine lv_bipush (v := -102) hx hb dX4_greedy_19 (by decide) ?_
        exact ss_iret F hC hw dX4_greedy_21

theorem mX4_greedy (l : Launch) (D : va_G) (A : Nat → Prop) (L : Nat → Nat) (wr : va_W) (cI cZ cS : ClassId) (σ : ss_S) (x1 : Int32) (x2 : Int32)  : ss_MI l yX4_greedy wsX4_greedy rmX4_greedy (ss_EC D A L wr cI cZ cS) [.ref (L (0)), .int (x1), .int (x2)] σ (fun post => wX4_greedy x1 x2 σ post) :=
  ss_MI.of (cc := cX4_greedy) (nL := 5) (ret := (some .int)) (own := RX4) (by decide) rfl rfl (Nat.le_of_ble_eq_true rfl) (fun post p e R s m below meth c H locs ls F hC hl hw => bX4_greedy F  σ H locs ls hC hl hw)

set_option maxHeartbeats 4000000 in
set_option maxRecDepth 100000 in
theorem bX4_image {x1 : Int32} {x2 : Int32} {post : Int32 → ss_S → Prop} (F : ss_F p R s m args meth c (ss_EC D A L wr cI cZ cS) cX4_image 4 wsX4_image RX4 (some .int) rmX4_image)  : ∀ (σ : ss_S) (H : Heap) (locs : List Loc) (ls : Array Slot), ss_C (ss_EC D A L wr cI cZ cS) σ s H locs → lv_has ls 4 [(0, .ref (L (0))), (1, .int (x1)), (2, .int (x2))] → wX4_image x1 x2 σ post → W p l e R s m args below meth c H locs 0 0 (MQ below (va_Qi post (ss_B (ss_EC D A L wr cI cZ cS)) A) args s 0 0 A) (F0 m 0 ls []) := by
  have hx := F.1.1
  have hb := F.1.2.1
  have u_X4 : ∀ w ∈ u_ws RX4 TX4 9, w ∈ wsX4_image := by decide +kernel
  have f_10 : (Cond.fieldLink RX4 10 "SmallSpaces" "frame" "LSmallSpaces$Frame;").before args s = true := F.1.2.2.2.2 _ (by decide +kernel)
  have u_X0 : ∀ w ∈ u_ws RX0 TX0 3, w ∈ wsX4_image := by decide +kernel
  have f_35 : (Cond.fieldLink RX4 35 "SmallSpaces" "linear" "LSmallSpaces$Linear;").before args s = true := F.1.2.2.2.2 _ (by decide +kernel)
  intro σ H locs ls hC hl hw
  unfold wX4_image at hw
  refine lv_iload_n hx hb dX4_image_0 rfl (lv_at hl 1 rfl) ?_
  refine lv_if_lt (tgt := 26) hx hb dX4_image_1 (by decide) (fun hc => ?_) (fun hc => ?_)
  · replace hw := hw.1 hc
    refine lv_bipush (v := -101) hx hb dX4_image_26 (by decide) ?_
    exact ss_iret F hC hw dX4_image_28
  · replace hw := hw.2 hc
    refine lv_iload_n hx hb dX4_image_4 rfl (lv_at hl 1 rfl) ?_
    refine lv_aload_n hx hb dX4_image_5 rfl (lv_at hl 0 rfl) ?_
    refine ss_get (C := RX4) (T := TX4) (N := 9) (ci := 4) (v := .ref (L (1))) F hC (0) u_X4 (Nat.le_of_ble_eq_true rfl) rfl rfl 0 (by decide) f_10 rfl dX4_image_6 ?_
    refine ss_getN (C := RX0) (T := TX0) (N := 3) (ci := 0) (host := RX4) (v := .int (σ 1 1)) F hC (1) u_X0 (Nat.le_of_ble_eq_true rfl) rfl rfl 1 (by decide) (by decide +kernel) rfl dX4_image_9 ?_
    refine lv_icmp_ge (tgt := 26) hx hb dX4_image_12 (by decide) (fun hc => ?_) (fun hc => ?_)
    · replace hw := hw.1 hc
      refine lv_bipush (v := -101) hx hb dX4_image_26 (by decide) ?_
      exact ss_iret F hC hw dX4_image_28
    · replace hw := hw.2 hc
      refine lv_aload_n hx hb dX4_image_15 rfl (lv_at hl 0 rfl) ?_
      refine ss_get (C := RX4) (T := TX4) (N := 9) (ci := 4) (v := .ref (L (1))) F hC (0) u_X4 (Nat.le_of_ble_eq_true rfl) rfl rfl 0 (by decide) f_10 rfl dX4_image_16 ?_
      refine lv_iload_n hx hb dX4_image_19 rfl (lv_at hl 2 rfl) ?_
      refine ss_ki (ss_rVN (C := RX0) (host := RX4) (As := [.int (x2)]) (rest := []) F ((mX0_isVector l D A L wr cI cZ cS σ x2) _) gX4_image_X0_isVector_n71 rfl ⟨rfl, rfl⟩ dvX0_isVector (by decide +kernel) ⟨by decide +kernel, by decide +kernel, by decide +kernel⟩ ⟨Nat.le_of_ble_eq_true rfl, Nat.le_of_ble_eq_true rfl⟩ (ss_preV F.2.2.2.2.1 F.2.2.2.2.2 hC (ss_rec (C := RX0) (T := TX0) (N := 3) (ci := 0) F.2.2.2.2.1 hC (1) (Nat.le_of_ble_eq_true rfl) rfl rfl) hw) rfl hl.1 rfl (Nat.le_of_ble_eq_true rfl) dX4_image_20 ⟨Nat.zero_le _, Nat.zero_le _⟩) hC (fun r2 σ1 H locs hC hw => ?_)
      refine lv_if_ne (tgt := 29) hx hb dX4_image_23 (by decide) (fun hc => ?_) (fun hc => ?_)
      · replace hw := hw.1 hc
        refine lv_aload_n hx hb dX4_image_29 rfl (lv_at hl 0 rfl) ?_
        refine ss_get (C := RX4) (T := TX4) (N := 9) (ci := 4) (v := .ref (L (5))) F hC (0) u_X4 (Nat.le_of_ble_eq_true rfl) rfl rfl 3 (by decide) f_35 rfl dX4_image_30 ?_
        refine lv_iload_n hx hb dX4_image_33 rfl (lv_at hl 1 rfl) ?_
        refine ss_ki (ss_rVN (C := RX2) (host := RX4) (As := [.int (x1)]) (rest := []) F ((mX2_imageNumber l D A L wr cI cZ cS σ1 x1) _) gX4_image_X2_imageNumber_n167 rfl ⟨rfl, rfl⟩ dvX2_imageNumber (by decide +kernel) ⟨by decide +kernel, by decide +kernel, by decide +kernel⟩ ⟨Nat.le_of_ble_eq_true rfl, Nat.le_of_ble_eq_true rfl⟩ (ss_preV F.2.2.2.2.1 F.2.2.2.2.2 hC (ss_rec (C := RX2) (T := TX2) (N := 3) (ci := 2) F.2.2.2.2.1 hC (5) (Nat.le_of_ble_eq_true rfl) rfl rfl) hw) rfl hl.1 rfl (Nat.le_of_ble_eq_true rfl) dX4_image_34 ⟨Nat.zero_le _, Nat.zero_le _⟩) hC (fun r4 σ3 H locs hC hw => ?_)
        refine lv_istore_n (lv' := [(3, .int (r4)), (0, .ref (L (0))), (1, .int (x1)), (2, .int (x2))]) hx hb dX4_image_37 rfl hl (by decide) rfl (fun ls hl => ?_)
        refine lv_aload_n hx hb dX4_image_38 rfl (lv_at hl 1 rfl) ?_
        refine ss_get (C := RX4) (T := TX4) (N := 9) (ci := 4) (v := .ref (L (5))) F hC (0) u_X4 (Nat.le_of_ble_eq_true rfl) rfl rfl 3 (by decide) f_35 rfl dX4_image_39 ?_
        refine lv_iload_n hx hb dX4_image_42 rfl (lv_at hl 2 rfl) ?_
        refine lv_iload_n hx hb dX4_image_43 rfl (lv_at hl 3 rfl) ?_
        refine ss_kv (ss_rVN (C := RX2) (host := RX4) (As := [.int (x1), .int (x2)]) (rest := []) F ((mX2_setImage l D A L wr cI cZ cS σ3 x1 x2) _) gX4_image_X2_setImage_n170 rfl ⟨rfl, rfl⟩ dvX2_setImage (by decide +kernel) ⟨by decide +kernel, by decide +kernel, by decide +kernel⟩ ⟨Nat.le_of_ble_eq_true rfl, Nat.le_of_ble_eq_true rfl⟩ (ss_preV F.2.2.2.2.1 F.2.2.2.2.2 hC (ss_rec (C := RX2) (T := TX2) (N := 3) (ci := 2) F.2.2.2.2.1 hC (5) (Nat.le_of_ble_eq_true rfl) rfl rfl) hw) rfl hl.1 rfl (Nat.le_of_ble_eq_true rfl) dX4_image_44 ⟨Nat.zero_le _, Nat.zero_le _⟩) hC (fun σ5 H locs hC hw => ?_)
        refine lv_iload_n hx hb dX4_image_47 rfl (lv_at hl 0 rfl) ?_
        exact ss_iret F hC hw dX4_image_48
      · replace hw := hw.2 hc
        refine lv_bipush (v := -101) hx hb dX4_image_26 (by decide) ?_
        exact ss_iret F hC hw dX4_image_28

theorem mX4_image (l : Launch) (D : va_G) (A : Nat → Prop) (L : Nat → Nat) (wr : va_W) (cI cZ cS : ClassId) (σ : ss_S) (x1 : Int32) (x2 : Int32)  : ss_MI l yX4_image wsX4_image rmX4_image (ss_EC D A L wr cI cZ cS) [.ref (L (0)), .int (x1), .int (x2)] σ (fun post => wX4_image x1 x2 σ post) :=
  ss_MI.of (cc := cX4_image) (nL := 4) (ret := (some .int)) (own := RX4) (by decide) rfl rfl (Nat.le_of_ble_eq_true rfl) (fun post p e R s m below meth c H locs ls F hC hl hw => bX4_image F  σ H locs ls hC hl hw)

set_option maxHeartbeats 4000000 in
set_option maxRecDepth 100000 in
theorem bX4_mapped {x1 : Int32} {post : Int32 → ss_S → Prop} (F : ss_F p R s m args meth c (ss_EC D A L wr cI cZ cS) cX4_mapped 2 wsX4_mapped RX4 (some .int) rmX4_mapped)  : ∀ (σ : ss_S) (H : Heap) (locs : List Loc) (ls : Array Slot), ss_C (ss_EC D A L wr cI cZ cS) σ s H locs → lv_has ls 2 [(0, .ref (L (0))), (1, .int (x1))] → wX4_mapped x1 σ post → W p l e R s m args below meth c H locs 0 0 (MQ below (va_Qi post (ss_B (ss_EC D A L wr cI cZ cS)) A) args s 0 0 A) (F0 m 0 ls []) := by
  have hx := F.1.1
  have hb := F.1.2.1
  have u_X4 : ∀ w ∈ u_ws RX4 TX4 9, w ∈ wsX4_mapped := by decide +kernel
  have f_10 : (Cond.fieldLink RX4 10 "SmallSpaces" "frame" "LSmallSpaces$Frame;").before args s = true := F.1.2.2.2.2 _ (by decide +kernel)
  have f_46 : (Cond.fieldLink RX4 46 "SmallSpaces" "figures" "[I").before args s = true := F.1.2.2.2.2 _ (by decide +kernel)
  have f_35 : (Cond.fieldLink RX4 35 "SmallSpaces" "linear" "LSmallSpaces$Linear;").before args s = true := F.1.2.2.2.2 _ (by decide +kernel)
  intro σ H locs ls hC hl hw
  unfold wX4_mapped at hw
  refine lv_aload_n hx hb dX4_mapped_0 rfl (lv_at hl 0 rfl) ?_
  refine ss_get (C := RX4) (T := TX4) (N := 9) (ci := 4) (v := .ref (L (1))) F hC (0) u_X4 (Nat.le_of_ble_eq_true rfl) rfl rfl 0 (by decide) f_10 rfl dX4_mapped_1 ?_
  refine lv_iload_n hx hb dX4_mapped_4 rfl (lv_at hl 1 rfl) ?_
  refine ss_ki (ss_rVN (C := RX0) (host := RX4) (As := [.int (x1)]) (rest := []) F ((mX0_isVector l D A L wr cI cZ cS σ x1) _) gX4_mapped_X0_isVector_n71 rfl ⟨rfl, rfl⟩ dvX0_isVector (by decide +kernel) ⟨by decide +kernel, by decide +kernel, by decide +kernel⟩ ⟨Nat.le_of_ble_eq_true rfl, Nat.le_of_ble_eq_true rfl⟩ (ss_preV F.2.2.2.2.1 F.2.2.2.2.2 hC (ss_rec (C := RX0) (T := TX0) (N := 3) (ci := 0) F.2.2.2.2.1 hC (1) (Nat.le_of_ble_eq_true rfl) rfl rfl) hw) rfl hl.1 rfl (Nat.le_of_ble_eq_true rfl) dX4_mapped_5 ⟨Nat.zero_le _, Nat.zero_le _⟩) hC (fun r2 σ1 H locs hC hw => ?_)
  refine lv_if_ne (tgt := 14) hx hb dX4_mapped_8 (by decide) (fun hc => ?_) (fun hc => ?_)
  · replace hw := hw.1 hc
    refine lv_aload_n hx hb dX4_mapped_14 rfl (lv_at hl 0 rfl) ?_
    refine ss_get (C := RX4) (T := TX4) (N := 9) (ci := 4) (v := .ref (L (1))) F hC (0) u_X4 (Nat.le_of_ble_eq_true rfl) rfl rfl 0 (by decide) f_10 rfl dX4_mapped_15 ?_
    refine lv_iload_n hx hb dX4_mapped_18 rfl (lv_at hl 1 rfl) ?_
    refine lv_aload_n hx hb dX4_mapped_19 rfl (lv_at hl 0 rfl) ?_
    refine ss_get (C := RX4) (T := TX4) (N := 9) (ci := 4) (v := .ref (L (6))) F hC (0) u_X4 (Nat.le_of_ble_eq_true rfl) rfl rfl 6 (by decide) f_46 rfl dX4_mapped_20 ?_
    refine lv_iconst (v := 0) hx hb dX4_mapped_23 (by decide) ?_
    refine ss_kv (ss_rVN (C := RX0) (host := RX4) (As := [.int (x1), .ref (L (6)), .int (0)]) (rest := []) F ((mX0_spell l D A L wr cI cZ cS σ1 x1 6 0 isAr_6) _) gX4_mapped_X0_spell_n89 rfl ⟨rfl, rfl⟩ dvX0_spell (by decide +kernel) ⟨by decide +kernel, by decide +kernel, by decide +kernel⟩ ⟨Nat.le_of_ble_eq_true rfl, Nat.le_of_ble_eq_true rfl⟩ (ss_preV F.2.2.2.2.1 F.2.2.2.2.2 hC (ss_rec (C := RX0) (T := TX0) (N := 3) (ci := 0) F.2.2.2.2.1 hC (1) (Nat.le_of_ble_eq_true rfl) rfl rfl) hw) rfl hl.1 rfl (Nat.le_of_ble_eq_true rfl) dX4_mapped_24 ⟨Nat.zero_le _, Nat.zero_le _⟩) hC (fun σ3 H locs hC hw => ?_)
    refine lv_aload_n hx hb dX4_mapped_27 rfl (lv_at hl 0 rfl) ?_
    refine ss_get (C := RX4) (T := TX4) (N := 9) (ci := 4) (v := .ref (L (5))) F hC (0) u_X4 (Nat.le_of_ble_eq_true rfl) rfl rfl 3 (by decide) f_35 rfl dX4_mapped_28 ?_
    refine lv_aload_n hx hb dX4_mapped_31 rfl (lv_at hl 0 rfl) ?_
    refine ss_get (C := RX4) (T := TX4) (N := 9) (ci := 4) (v := .ref (L (6))) F hC (0) u_X4 (Nat.le_of_ble_eq_true rfl) rfl rfl 6 (by decide) f_46 rfl dX4_mapped_32 ?_
    refine ss_ki (ss_rVN (C := RX2) (host := RX4) (As := [.ref (L (6))]) (rest := []) F ((mX2_apply l D A L wr cI cZ cS σ3 6 isAr_6) _) gX4_mapped_X2_apply_n173 rfl ⟨rfl, rfl⟩ dvX2_apply (by decide +kernel) ⟨by decide +kernel, by decide +kernel, by decide +kernel⟩ ⟨Nat.le_of_ble_eq_true rfl, Nat.le_of_ble_eq_true rfl⟩ (ss_preV F.2.2.2.2.1 F.2.2.2.2.2 hC (ss_rec (C := RX2) (T := TX2) (N := 3) (ci := 2) F.2.2.2.2.1 hC (5) (Nat.le_of_ble_eq_true rfl) rfl rfl) hw) rfl hl.1 rfl (Nat.le_of_ble_eq_true rfl) dX4_mapped_35 ⟨Nat.zero_le _, Nat.zero_le _⟩) hC (fun r5 σ4 H locs hC hw => ?_)
    exact ss_iret F hC hw dX4_mapped_38
  · replace hw := hw.2 hc
    refine lv_bipush (v := -101) hx hb dX4_mapped_11 (by decide) ?_
    exact ss_iret F hC hw dX4_mapped_13

theorem mX4_mapped (l : Launch) (D : va_G) (A : Nat → Prop) (L : Nat → Nat) (wr : va_W) (cI cZ cS : ClassId) (σ : ss_S) (x1 : Int32)  : ss_MI l yX4_mapped wsX4_mapped rmX4_mapped (ss_EC D A L wr cI cZ cS) [.ref (L (0)), .int (x1)] σ (fun post => wX4_mapped x1 σ post) :=
  ss_MI.of (cc := cX4_mapped) (nL := 2) (ret := (some .int)) (own := RX4) (by decide) rfl rfl (Nat.le_of_ble_eq_true rfl) (fun post p e R s m below meth c H locs ls F hC hl hw => bX4_mapped F  σ H locs ls hC hl hw)

set_option maxHeartbeats 4000000 in
set_option maxRecDepth 100000 in
theorem bX4_map {x1 : Int32} {x2 : Int32} {post : Int32 → ss_S → Prop} (F : ss_F p R s m args meth c (ss_EC D A L wr cI cZ cS) cX4_map 3 wsX4_map RX4 (some .int) rmX4_map)  : ∀ (σ : ss_S) (H : Heap) (locs : List Loc) (ls : Array Slot), ss_C (ss_EC D A L wr cI cZ cS) σ s H locs → lv_has ls 3 [(0, .ref (L (0))), (1, .int (x1)), (2, .int (x2))] → wX4_map x1 x2 σ post → W p l e R s m args below meth c H locs 0 0 (MQ below (va_Qi post (ss_B (ss_EC D A L wr cI cZ cS)) A) args s 0 0 A) (F0 m 0 ls []) := by
  have hx := F.1.1
  have hb := F.1.2.1
  have u_X4 : ∀ w ∈ u_ws RX4 TX4 9, w ∈ wsX4_map := by decide +kernel
  have f_35 : (Cond.fieldLink RX4 35 "SmallSpaces" "linear" "LSmallSpaces$Linear;").before args s = true := F.1.2.2.2.2 _ (by decide +kernel)
  have f_18 : (Cond.fieldLink RX4 18 "SmallSpaces" "slots" "[LSmallSpaces$Space;").before args s = true := F.1.2.2.2.2 _ (by decide +kernel)
  have f_39 : (Cond.fieldLink RX4 39 "SmallSpaces" "made" "LSmallSpaces$Space;").before args s = true := F.1.2.2.2.2 _ (by decide +kernel)
  intro σ H locs ls hC hl hw
  unfold wX4_map at hw
  refine lv_iload_n hx hb dX4_map_0 rfl (lv_at hl 1 rfl) ?_
  refine ss_ki (ss_rS (As := [.int (x1)]) (rest := []) F ((mX4_isSlot l D A L wr cI cZ cS σ x1) _) gX4_map_X4_isSlot rfl ⟨rfl, rfl⟩ dvX4_isSlot ⟨Nat.le_of_ble_eq_true rfl, Nat.le_of_ble_eq_true rfl⟩ (ss_preS F.2.2.2.2.1 F.2.2.2.2.2 hC hw) rfl hl.1 rfl (Nat.le_of_ble_eq_true rfl) dX4_map_1 ⟨Nat.zero_le _, Nat.zero_le _⟩) hC (fun r2 σ1 H locs hC hw => ?_)
  refine lv_if_eq (tgt := 14) hx hb dX4_map_4 (by decide) (fun hc => ?_) (fun hc => ?_)
  · replace hw := hw.1 hc
    refine lv_bipush (v := -101) hx hb dX4_map_14 (by decide) ?_
    exact ss_iret F hC hw dX4_map_16
  · replace hw := hw.2 hc
    refine lv_iload_n hx hb dX4_map_7 rfl (lv_at hl 2 rfl) ?_
    refine ss_ki (ss_rS (As := [.int (x2)]) (rest := []) F ((mX4_isSlot l D A L wr cI cZ cS σ1 x2) _) gX4_map_X4_isSlot rfl ⟨rfl, rfl⟩ dvX4_isSlot ⟨Nat.le_of_ble_eq_true rfl, Nat.le_of_ble_eq_true rfl⟩ (ss_preS F.2.2.2.2.1 F.2.2.2.2.2 hC hw) rfl hl.1 rfl (Nat.le_of_ble_eq_true rfl) dX4_map_8 ⟨Nat.zero_le _, Nat.zero_le _⟩) hC (fun r4 σ3 H locs hC hw => ?_)
    refine lv_if_ne (tgt := 17) hx hb dX4_map_11 (by decide) (fun hc => ?_) (fun hc => ?_)
    · replace hw := hw.1 hc
      refine lv_aload_n hx hb dX4_map_17 rfl (lv_at hl 0 rfl) ?_
      refine ss_get (C := RX4) (T := TX4) (N := 9) (ci := 4) (v := .ref (L (5))) F hC (0) u_X4 (Nat.le_of_ble_eq_true rfl) rfl rfl 3 (by decide) f_35 rfl dX4_map_18 ?_
      refine lv_aload_n hx hb dX4_map_21 rfl (lv_at hl 0 rfl) ?_
      refine ss_get (C := RX4) (T := TX4) (N := 9) (ci := 4) (v := .ref (L (2))) F hC (0) u_X4 (Nat.le_of_ble_eq_true rfl) rfl rfl 1 (by decide) f_18 rfl dX4_map_22 ?_
      refine lv_iload_n hx hb dX4_map_25 rfl (lv_at hl 1 rfl) ?_
      have hv5 := hw.1
      replace hw := hw.2
      refine ss_aald (v := L (9 + 3 * (Int32.toNatClampNeg x1))) F hC 2 2 (Nat.le_of_ble_eq_true rfl) rfl rfl hv5 rfl dX4_map_26 ?_
      refine lv_aload_n hx hb dX4_map_27 rfl (lv_at hl 0 rfl) ?_
      refine ss_get (C := RX4) (T := TX4) (N := 9) (ci := 4) (v := .ref (L (168))) F hC (0) u_X4 (Nat.le_of_ble_eq_true rfl) rfl rfl 4 (by decide) f_39 rfl dX4_map_28 ?_
      refine ss_kv (ss_rVN (C := RX2) (host := RX4) (As := [.ref (L (9 + 3 * (Int32.toNatClampNeg x1))), .ref (L (168))]) (rest := []) F ((mX2_applyToSpace l D A L wr cI cZ cS σ3 (9 + 3 * (Int32.toNatClampNeg x1)) 168 (isSp_slot hv5) isSp_168) _) gX4_map_X2_applyToSpace_n177 rfl ⟨rfl, rfl⟩ dvX2_applyToSpace (by decide +kernel) ⟨by decide +kernel, by decide +kernel, by decide +kernel⟩ ⟨Nat.le_of_ble_eq_true rfl, Nat.le_of_ble_eq_true rfl⟩ (ss_preV F.2.2.2.2.1 F.2.2.2.2.2 hC (ss_rec (C := RX2) (T := TX2) (N := 3) (ci := 2) F.2.2.2.2.1 hC (5) (Nat.le_of_ble_eq_true rfl) rfl rfl) hw) rfl hl.1 rfl (Nat.le_of_ble_eq_true rfl) dX4_map_31 ⟨Nat.zero_le _, Nat.zero_le _⟩) hC (fun σ6 H locs hC hw => ?_)
      refine lv_aload_n hx hb dX4_map_34 rfl (lv_at hl 0 rfl) ?_
      refine lv_aload_n hx hb dX4_map_35 rfl (lv_at hl 0 rfl) ?_
      refine ss_get (C := RX4) (T := TX4) (N := 9) (ci := 4) (v := .ref (L (168))) F hC (0) u_X4 (Nat.le_of_ble_eq_true rfl) rfl rfl 4 (by decide) f_39 rfl dX4_map_36 ?_
      refine lv_iload_n hx hb dX4_map_39 rfl (lv_at hl 2 rfl) ?_
      refine ss_ki (ss_rV (C := RX4) (As := [.ref (L (168)), .int (x2)]) (rest := []) F ((mX4_settle l D A L wr cI cZ cS σ6 168 x2 isSp_168) _) gX4_map_X4_settle rfl ⟨rfl, rfl⟩ ⟨rfl, dvX4_settle⟩ ⟨Nat.le_of_ble_eq_true rfl, Nat.le_of_ble_eq_true rfl⟩ (ss_preV F.2.2.2.2.1 F.2.2.2.2.2 hC (ss_rec (C := RX4) (T := TX4) (N := 9) (ci := 4) F.2.2.2.2.1 hC (0) (Nat.le_of_ble_eq_true rfl) rfl rfl) hw) rfl hl.1 rfl (Nat.le_of_ble_eq_true rfl) dX4_map_40 ⟨Nat.zero_le _, Nat.zero_le _⟩) hC (fun r8 σ7 H locs hC hw => ?_)
      exact ss_iret F hC hw dX4_map_43
    · replace hw := hw.2 hc
      refine lv_bipush (v := -101) hx hb dX4_map_14 (by decide) ?_
      exact ss_iret F hC hw dX4_map_16

theorem mX4_map (l : Launch) (D : va_G) (A : Nat → Prop) (L : Nat → Nat) (wr : va_W) (cI cZ cS : ClassId) (σ : ss_S) (x1 : Int32) (x2 : Int32)  : ss_MI l yX4_map wsX4_map rmX4_map (ss_EC D A L wr cI cZ cS) [.ref (L (0)), .int (x1), .int (x2)] σ (fun post => wX4_map x1 x2 σ post) :=
  ss_MI.of (cc := cX4_map) (nL := 3) (ret := (some .int)) (own := RX4) (by decide) rfl rfl (Nat.le_of_ble_eq_true rfl) (fun post p e R s m below meth c H locs ls F hC hl hw => bX4_map F  σ H locs ls hC hl hw)

set_option maxHeartbeats 4000000 in
set_option maxRecDepth 100000 in
theorem bX4_kernel {x1 : Int32} {post : Int32 → ss_S → Prop} (F : ss_F p R s m args meth c (ss_EC D A L wr cI cZ cS) cX4_kernel 2 wsX4_kernel RX4 (some .int) rmX4_kernel)  : ∀ (σ : ss_S) (H : Heap) (locs : List Loc) (ls : Array Slot), ss_C (ss_EC D A L wr cI cZ cS) σ s H locs → lv_has ls 2 [(0, .ref (L (0))), (1, .int (x1))] → wX4_kernel x1 σ post → W p l e R s m args below meth c H locs 0 0 (MQ below (va_Qi post (ss_B (ss_EC D A L wr cI cZ cS)) A) args s 0 0 A) (F0 m 0 ls []) := by
  have hx := F.1.1
  have hb := F.1.2.1
  have u_X4 : ∀ w ∈ u_ws RX4 TX4 9, w ∈ wsX4_kernel := by decide +kernel
  have f_35 : (Cond.fieldLink RX4 35 "SmallSpaces" "linear" "LSmallSpaces$Linear;").before args s = true := F.1.2.2.2.2 _ (by decide +kernel)
  have f_43 : (Cond.fieldLink RX4 43 "SmallSpaces" "other" "LSmallSpaces$Space;").before args s = true := F.1.2.2.2.2 _ (by decide +kernel)
  have f_39 : (Cond.fieldLink RX4 39 "SmallSpaces" "made" "LSmallSpaces$Space;").before args s = true := F.1.2.2.2.2 _ (by decide +kernel)
  intro σ H locs ls hC hl hw
  unfold wX4_kernel at hw
  refine lv_iload_n hx hb dX4_kernel_0 rfl (lv_at hl 1 rfl) ?_
  refine ss_ki (ss_rS (As := [.int (x1)]) (rest := []) F ((mX4_isSlot l D A L wr cI cZ cS σ x1) _) gX4_kernel_X4_isSlot rfl ⟨rfl, rfl⟩ dvX4_isSlot ⟨Nat.le_of_ble_eq_true rfl, Nat.le_of_ble_eq_true rfl⟩ (ss_preS F.2.2.2.2.1 F.2.2.2.2.2 hC hw) rfl hl.1 rfl (Nat.le_of_ble_eq_true rfl) dX4_kernel_1 ⟨Nat.zero_le _, Nat.zero_le _⟩) hC (fun r2 σ1 H locs hC hw => ?_)
  refine lv_if_ne (tgt := 10) hx hb dX4_kernel_4 (by decide) (fun hc => ?_) (fun hc => ?_)
  · replace hw := hw.1 hc
    refine lv_aload_n hx hb dX4_kernel_10 rfl (lv_at hl 0 rfl) ?_
    refine ss_get (C := RX4) (T := TX4) (N := 9) (ci := 4) (v := .ref (L (5))) F hC (0) u_X4 (Nat.le_of_ble_eq_true rfl) rfl rfl 3 (by decide) f_35 rfl dX4_kernel_11 ?_
    refine lv_aload_n hx hb dX4_kernel_14 rfl (lv_at hl 0 rfl) ?_
    refine ss_get (C := RX4) (T := TX4) (N := 9) (ci := 4) (v := .ref (L (171))) F hC (0) u_X4 (Nat.le_of_ble_eq_true rfl) rfl rfl 5 (by decide) f_43 rfl dX4_kernel_15 ?_
    refine ss_kv (ss_rVN (C := RX2) (host := RX4) (As := [.ref (L (171))]) (rest := []) F ((mX2_columnSpace l D A L wr cI cZ cS σ1 171 isSp_171) _) gX4_kernel_X2_columnSpace_n181 rfl ⟨rfl, rfl⟩ dvX2_columnSpace (by decide +kernel) ⟨by decide +kernel, by decide +kernel, by decide +kernel⟩ ⟨Nat.le_of_ble_eq_true rfl, Nat.le_of_ble_eq_true rfl⟩ (ss_preV F.2.2.2.2.1 F.2.2.2.2.2 hC (ss_rec (C := RX2) (T := TX2) (N := 3) (ci := 2) F.2.2.2.2.1 hC (5) (Nat.le_of_ble_eq_true rfl) rfl rfl) hw) rfl hl.1 rfl (Nat.le_of_ble_eq_true rfl) dX4_kernel_18 ⟨Nat.zero_le _, Nat.zero_le _⟩) hC (fun σ3 H locs hC hw => ?_)
    refine lv_aload_n hx hb dX4_kernel_21 rfl (lv_at hl 0 rfl) ?_
    refine ss_get (C := RX4) (T := TX4) (N := 9) (ci := 4) (v := .ref (L (168))) F hC (0) u_X4 (Nat.le_of_ble_eq_true rfl) rfl rfl 4 (by decide) f_39 rfl dX4_kernel_22 ?_
    refine lv_aload_n hx hb dX4_kernel_25 rfl (lv_at hl 0 rfl) ?_
    refine ss_get (C := RX4) (T := TX4) (N := 9) (ci := 4) (v := .ref (L (171))) F hC (0) u_X4 (Nat.le_of_ble_eq_true rfl) rfl rfl 5 (by decide) f_43 rfl dX4_kernel_26 ?_
    refine ss_kv (ss_rVN (C := RX3) (host := RX4) (As := [.ref (L (171))]) (rest := []) F ((mX3_becomeDual l D A L wr cI cZ cS σ3 168 171 isSp_168 isSp_171) _) gX4_kernel_X3_becomeDual_n115 rfl ⟨rfl, rfl⟩ dvX3_becomeDual (by decide +kernel) ⟨by decide +kernel, by decide +kernel, by decide +kernel⟩ ⟨Nat.le_of_ble_eq_true rfl, Nat.le_of_ble_eq_true rfl⟩ (ss_preV F.2.2.2.2.1 F.2.2.2.2.2 hC (ss_rec (C := RX3) (T := TX3) (N := 4) (ci := 3) F.2.2.2.2.1 hC (168) isSp_168.lt (ceC_sp (L := L) (cI := cI) (cS := cS) isSp_168 _) rfl) hw) rfl hl.1 rfl (Nat.le_of_ble_eq_true rfl) dX4_kernel_29 ⟨Nat.zero_le _, Nat.zero_le _⟩) hC (fun σ4 H locs hC hw => ?_)
    refine lv_aload_n hx hb dX4_kernel_32 rfl (lv_at hl 0 rfl) ?_
    refine lv_aload_n hx hb dX4_kernel_33 rfl (lv_at hl 0 rfl) ?_
    refine ss_get (C := RX4) (T := TX4) (N := 9) (ci := 4) (v := .ref (L (168))) F hC (0) u_X4 (Nat.le_of_ble_eq_true rfl) rfl rfl 4 (by decide) f_39 rfl dX4_kernel_34 ?_
    refine lv_iload_n hx hb dX4_kernel_37 rfl (lv_at hl 1 rfl) ?_
    refine ss_ki (ss_rV (C := RX4) (As := [.ref (L (168)), .int (x1)]) (rest := []) F ((mX4_settle l D A L wr cI cZ cS σ4 168 x1 isSp_168) _) gX4_kernel_X4_settle rfl ⟨rfl, rfl⟩ ⟨rfl, dvX4_settle⟩ ⟨Nat.le_of_ble_eq_true rfl, Nat.le_of_ble_eq_true rfl⟩ (ss_preV F.2.2.2.2.1 F.2.2.2.2.2 hC (ss_rec (C := RX4) (T := TX4) (N := 9) (ci := 4) F.2.2.2.2.1 hC (0) (Nat.le_of_ble_eq_true rfl) rfl rfl) hw) rfl hl.1 rfl (Nat.le_of_ble_eq_true rfl) dX4_kernel_38 ⟨Nat.zero_le _, Nat.zero_le _⟩) hC (fun r6 σ5 H locs hC hw => ?_)
    exact ss_iret F hC hw dX4_kernel_41
  · replace hw := hw.2 hc
    refine lv_bipush (v := -101) hx hb dX4_kernel_7 (by decide) ?_
    exact ss_iret F hC hw dX4_kernel_9

theorem mX4_kernel (l : Launch) (D : va_G) (A : Nat → Prop) (L : Nat → Nat) (wr : va_W) (cI cZ cS : ClassId) (σ : ss_S) (x1 : Int32)  : ss_MI l yX4_kernel wsX4_kernel rmX4_kernel (ss_EC D A L wr cI cZ cS) [.ref (L (0)), .int (x1)] σ (fun post => wX4_kernel x1 σ post) :=
  ss_MI.of (cc := cX4_kernel) (nL := 2) (ret := (some .int)) (own := RX4) (by decide) rfl rfl (Nat.le_of_ble_eq_true rfl) (fun post p e R s m below meth c H locs ls F hC hl hw => bX4_kernel F  σ H locs ls hC hl hw)

set_option maxHeartbeats 4000000 in
set_option maxRecDepth 100000 in
theorem tX4_timesTillAgain_24 {s1 : Nat} {x2 : Int32} {post : Int32 → ss_S → Prop} (F : ss_F p R s m args meth c (ss_EC D A L wr cI cZ cS) cX4_timesTillAgain 4 wsX4_timesTillAgain RX4 (some .int) rmX4_timesTillAgain) (h1 : isSp s1) (k90 : Int32 → ss_S → Prop) : ∀ (n : Nat) (x3 : Int32) (σ : ss_S) (H : Heap) (locs : List Loc) (ls : Array Slot), ss_C (ss_EC D A L wr cI cZ cS) σ s H locs → lv_has ls 4 [(0, .ref (L (0))), (1, .ref (L (s1))), (2, .int (x2)), (3, .int (x3))] → lX4_timesTillAgain_24 s1 x2 post k90 n x3 σ →
    (∀ (x3 : Int32) (σ : ss_S) (H : Heap) (locs : List Loc) (ls : Array Slot), ss_C (ss_EC D A L wr cI cZ cS) σ s H locs → lv_has ls 4 [] → k90 x3 σ → W p l e R s m args below meth c H locs 0 0 (MQ below (va_Qi post (ss_B (ss_EC D A L wr cI cZ cS)) A) args s 0 0 A) (F0 m 90 ls [])) →
    W p l e R s m args below meth c H locs 0 0 (MQ below (va_Qi post (ss_B (ss_EC D A L wr cI cZ cS)) A) args s 0 0 A) (F0 m 24 ls []) := by
  have hx := F.1.1
  have hb := F.1.2.1
  have u_X4 : ∀ w ∈ u_ws RX4 TX4 9, w ∈ wsX4_timesTillAgain := by decide +kernel
  have f_35 : (Cond.fieldLink RX4 35 "SmallSpaces" "linear" "LSmallSpaces$Linear;").before args s = true := F.1.2.2.2.2 _ (by decide +kernel)
  have f_43 : (Cond.fieldLink RX4 43 "SmallSpaces" "other" "LSmallSpaces$Space;").before args s = true := F.1.2.2.2.2 _ (by decide +kernel)
  have f_39 : (Cond.fieldLink RX4 39 "SmallSpaces" "made" "LSmallSpaces$Space;").before args s = true := F.1.2.2.2.2 _ (by decide +kernel)
  intro n
  induction n with
  | zero => intro x3 σ H locs ls hC hl hw; exact hw.elim
  | succ n ih =>
    intro x3 σ H locs ls hC hl hw hk90
    refine lv_iload_n hx hb dX4_timesTillAgain_24 rfl (lv_at hl 3 rfl) ?_
    refine lv_iload_n hx hb dX4_timesTillAgain_25 rfl (lv_at hl 2 rfl) ?_
    refine lv_icmp_gt (tgt := 90) hx hb dX4_timesTillAgain_26 (by decide) (fun hc => ?_) (fun hc => ?_)
    · replace hw := hw.1 hc
      exact hk90 x3 σ _ _ _ hC (lv_sub hl [] rfl) hw
    · replace hw := hw.2 hc
      refine lv_aload_n hx hb dX4_timesTillAgain_29 rfl (lv_at hl 0 rfl) ?_
      refine ss_get (C := RX4) (T := TX4) (N := 9) (ci := 4) (v := .ref (L (5))) F hC (0) u_X4 (Nat.le_of_ble_eq_true rfl) rfl rfl 3 (by decide) f_35 rfl dX4_timesTillAgain_30 ?_
      refine lv_aload_n hx hb dX4_timesTillAgain_33 rfl (lv_at hl 0 rfl) ?_
      refine ss_get (C := RX4) (T := TX4) (N := 9) (ci := 4) (v := .ref (L (171))) F hC (0) u_X4 (Nat.le_of_ble_eq_true rfl) rfl rfl 5 (by decide) f_43 rfl dX4_timesTillAgain_34 ?_
      refine lv_aload_n hx hb dX4_timesTillAgain_37 rfl (lv_at hl 0 rfl) ?_
      refine ss_get (C := RX4) (T := TX4) (N := 9) (ci := 4) (v := .ref (L (168))) F hC (0) u_X4 (Nat.le_of_ble_eq_true rfl) rfl rfl 4 (by decide) f_39 rfl dX4_timesTillAgain_38 ?_
      refine ss_kv (ss_rVN (C := RX2) (host := RX4) (As := [.ref (L (171)), .ref (L (168))]) (rest := []) F ((mX2_applyToSpace l D A L wr cI cZ cS σ 171 168 isSp_171 isSp_168) _) gX4_timesTillAgain_X2_applyToSpace_n177 rfl ⟨rfl, rfl⟩ dvX2_applyToSpace (by decide +kernel) ⟨by decide +kernel, by decide +kernel, by decide +kernel⟩ ⟨Nat.le_of_ble_eq_true rfl, Nat.le_of_ble_eq_true rfl⟩ (ss_preV F.2.2.2.2.1 F.2.2.2.2.2 hC (ss_rec (C := RX2) (T := TX2) (N := 3) (ci := 2) F.2.2.2.2.1 hC (5) (Nat.le_of_ble_eq_true rfl) rfl rfl) hw) rfl hl.1 rfl (Nat.le_of_ble_eq_true rfl) dX4_timesTillAgain_41 ⟨Nat.zero_le _, Nat.zero_le _⟩) hC (fun σ2 H locs hC hw => ?_)
      refine lv_aload_n hx hb dX4_timesTillAgain_44 rfl (lv_at hl 0 rfl) ?_
      refine ss_get (C := RX4) (T := TX4) (N := 9) (ci := 4) (v := .ref (L (168))) F hC (0) u_X4 (Nat.le_of_ble_eq_true rfl) rfl rfl 4 (by decide) f_39 rfl dX4_timesTillAgain_45 ?_
      refine ss_ki (ss_rVN (C := RX3) (host := RX4) (As := []) (rest := []) F ((mX3_rank l D A L wr cI cZ cS σ2 168 isSp_168) _) gX4_timesTillAgain_X3_rank_n97 rfl ⟨rfl, rfl⟩ dvX3_rank (by decide +kernel) ⟨by decide +kernel, by decide +kernel, by decide +kernel⟩ ⟨Nat.le_of_ble_eq_true rfl, Nat.le_of_ble_eq_true rfl⟩ (ss_preV F.2.2.2.2.1 F.2.2.2.2.2 hC (ss_rec (C := RX3) (T := TX3) (N := 4) (ci := 3) F.2.2.2.2.1 hC (168) isSp_168.lt (ceC_sp (L := L) (cI := cI) (cS := cS) isSp_168 _) rfl) hw) rfl hl.1 rfl (Nat.le_of_ble_eq_true rfl) dX4_timesTillAgain_48 ⟨Nat.zero_le _, Nat.zero_le _⟩) hC (fun r4 σ3 H locs hC hw => ?_)
      refine lv_aload_n hx hb dX4_timesTillAgain_51 rfl (lv_at hl 1 rfl) ?_
      refine ss_ki (ss_rVN (C := RX3) (host := RX4) (As := []) (rest := [.int (r4)]) F ((mX3_rank l D A L wr cI cZ cS σ3 s1 h1) _) gX4_timesTillAgain_X3_rank_n97 rfl ⟨rfl, rfl⟩ dvX3_rank (by decide +kernel) ⟨by decide +kernel, by decide +kernel, by decide +kernel⟩ ⟨Nat.le_of_ble_eq_true rfl, Nat.le_of_ble_eq_true rfl⟩ (ss_preV F.2.2.2.2.1 F.2.2.2.2.2 hC (ss_rec (C := RX3) (T := TX3) (N := 4) (ci := 3) F.2.2.2.2.1 hC (s1) h1.lt (ceC_sp (L := L) (cI := cI) (cS := cS) h1 _) rfl) hw) rfl hl.1 rfl (Nat.le_of_ble_eq_true rfl) dX4_timesTillAgain_52 ⟨Nat.zero_le _, Nat.zero_le _⟩) hC (fun r6 σ5 H locs hC hw => ?_)
      refine lv_icmp_ge (tgt := 60) hx hb dX4_timesTillAgain_55 (by decide) (fun hc => ?_) (fun hc => ?_)
      · replace hw := hw.1 hc
        refine lv_aload_n hx hb dX4_timesTillAgain_60 rfl (lv_at hl 0 rfl) ?_
        refine ss_get (C := RX4) (T := TX4) (N := 9) (ci := 4) (v := .ref (L (168))) F hC (0) u_X4 (Nat.le_of_ble_eq_true rfl) rfl rfl 4 (by decide) f_39 rfl dX4_timesTillAgain_61 ?_
        refine lv_aload_n hx hb dX4_timesTillAgain_64 rfl (lv_at hl 1 rfl) ?_
        refine ss_ki (ss_rVN (C := RX3) (host := RX4) (As := [.ref (L (s1))]) (rest := []) F ((mX3_sameAs l D A L wr cI cZ cS σ5 168 s1 isSp_168 h1) _) gX4_timesTillAgain_X3_sameAs_n206 rfl ⟨rfl, rfl⟩ dvX3_sameAs (by decide +kernel) ⟨by decide +kernel, by decide +kernel, by decide +kernel⟩ ⟨Nat.le_of_ble_eq_true rfl, Nat.le_of_ble_eq_true rfl⟩ (ss_preV F.2.2.2.2.1 F.2.2.2.2.2 hC (ss_rec (C := RX3) (T := TX3) (N := 4) (ci := 3) F.2.2.2.2.1 hC (168) isSp_168.lt (ceC_sp (L := L) (cI := cI) (cS := cS) isSp_168 _) rfl) hw) rfl hl.1 rfl (Nat.le_of_ble_eq_true rfl) dX4_timesTillAgain_65 ⟨Nat.zero_le _, Nat.zero_le _⟩) hC (fun r8 σ7 H locs hC hw => ?_)
        refine lv_if_eq (tgt := 73) hx hb dX4_timesTillAgain_68 (by decide) (fun hc => ?_) (fun hc => ?_)
        · replace hw := hw.1 hc
          refine lv_aload_n hx hb dX4_timesTillAgain_73 rfl (lv_at hl 0 rfl) ?_
          refine ss_get (C := RX4) (T := TX4) (N := 9) (ci := 4) (v := .ref (L (171))) F hC (0) u_X4 (Nat.le_of_ble_eq_true rfl) rfl rfl 5 (by decide) f_43 rfl dX4_timesTillAgain_74 ?_
          refine lv_aload_n hx hb dX4_timesTillAgain_77 rfl (lv_at hl 0 rfl) ?_
          refine ss_get (C := RX4) (T := TX4) (N := 9) (ci := 4) (v := .ref (L (168))) F hC (0) u_X4 (Nat.le_of_ble_eq_true rfl) rfl rfl 4 (by decide) f_39 rfl dX4_timesTillAgain_78 ?_
          refine ss_kv (ss_rVN (C := RX3) (host := RX4) (As := [.ref (L (168))]) (rest := []) F ((mX3_copyFrom l D A L wr cI cZ cS σ7 171 168 isSp_171 isSp_168) _) gX4_timesTillAgain_X3_copyFrom_n104 rfl ⟨rfl, rfl⟩ dvX3_copyFrom (by decide +kernel) ⟨by decide +kernel, by decide +kernel, by decide +kernel⟩ ⟨Nat.le_of_ble_eq_true rfl, Nat.le_of_ble_eq_true rfl⟩ (ss_preV F.2.2.2.2.1 F.2.2.2.2.2 hC (ss_rec (C := RX3) (T := TX3) (N := 4) (ci := 3) F.2.2.2.2.1 hC (171) isSp_171.lt (ceC_sp (L := L) (cI := cI) (cS := cS) isSp_171 _) rfl) hw) rfl hl.1 rfl (Nat.le_of_ble_eq_true rfl) dX4_timesTillAgain_81 ⟨Nat.zero_le _, Nat.zero_le _⟩) hC (fun σ9 H locs hC hw => ?_)
          refine lv_iinc (v := x3 + 1) (lv' := [(3, .int (x3 + 1)), (0, .ref (L (0))), (1, .ref (L (s1))), (2, .int (x2))]) hx hb dX4_timesTillAgain_84 hl (k := 3) rfl rfl (by decide) rfl (fun ls hl => ?_)
          refine lv_goto (tgt := 24) hx hb dX4_timesTillAgain_87 (by decide) ?_
          exact ih (x3 + 1) σ9 _ _ _ hC (lv_sub hl [1, 2, 3, 0] rfl) hw hk90
        · replace hw := hw.2 hc
          refine lv_iload_n hx hb dX4_timesTillAgain_71 rfl (lv_at hl 3 rfl) ?_
          exact ss_iret F hC hw dX4_timesTillAgain_72
      · replace hw := hw.2 hc
        refine lv_iconst (v := -1) hx hb dX4_timesTillAgain_58 (by decide) ?_
        exact ss_iret F hC hw dX4_timesTillAgain_59

set_option maxHeartbeats 4000000 in
set_option maxRecDepth 100000 in
theorem bX4_timesTillAgain {s1 : Nat} {post : Int32 → ss_S → Prop} (F : ss_F p R s m args meth c (ss_EC D A L wr cI cZ cS) cX4_timesTillAgain 4 wsX4_timesTillAgain RX4 (some .int) rmX4_timesTillAgain) (h1 : isSp s1) : ∀ (σ : ss_S) (H : Heap) (locs : List Loc) (ls : Array Slot), ss_C (ss_EC D A L wr cI cZ cS) σ s H locs → lv_has ls 4 [(0, .ref (L (0))), (1, .ref (L (s1)))] → wX4_timesTillAgain s1 σ post → W p l e R s m args below meth c H locs 0 0 (MQ below (va_Qi post (ss_B (ss_EC D A L wr cI cZ cS)) A) args s 0 0 A) (F0 m 0 ls []) := by
  have hx := F.1.1
  have hb := F.1.2.1
  have u_X4 : ∀ w ∈ u_ws RX4 TX4 9, w ∈ wsX4_timesTillAgain := by decide +kernel
  have f_10 : (Cond.fieldLink RX4 10 "SmallSpaces" "frame" "LSmallSpaces$Frame;").before args s = true := F.1.2.2.2.2 _ (by decide +kernel)
  have u_X0 : ∀ w ∈ u_ws RX0 TX0 3, w ∈ wsX4_timesTillAgain := by decide +kernel
  have f_43 : (Cond.fieldLink RX4 43 "SmallSpaces" "other" "LSmallSpaces$Space;").before args s = true := F.1.2.2.2.2 _ (by decide +kernel)
  intro σ H locs ls hC hl hw
  unfold wX4_timesTillAgain at hw
  refine lv_sipush (v := 3000) hx hb dX4_timesTillAgain_0 (by decide) ?_
  refine lv_aload_n hx hb dX4_timesTillAgain_3 rfl (lv_at hl 0 rfl) ?_
  refine ss_get (C := RX4) (T := TX4) (N := 9) (ci := 4) (v := .ref (L (1))) F hC (0) u_X4 (Nat.le_of_ble_eq_true rfl) rfl rfl 0 (by decide) f_10 rfl dX4_timesTillAgain_4 ?_
  refine ss_getN (C := RX0) (T := TX0) (N := 3) (ci := 0) (host := RX4) (v := .int (σ 1 2)) F hC (1) u_X0 (Nat.le_of_ble_eq_true rfl) rfl rfl 2 (by decide) (by decide +kernel) rfl dX4_timesTillAgain_7 ?_
  refine ss_min (ret := _) F hl.1 (F.1.2.2.2.2 (.methodLink RX4 201 Lib.Math.min.name) (by decide +kernel)) (F.1.2.2.2.2 (.static Lib.Math.min.name) (by decide +kernel)) (F.1.2.2.2.2 (.initialized "java/lang/Math") (by decide +kernel)) (F.1.2.2.2.2 (.code Lib.Math.min.name Lib.Math.min.code 2 (some .int)) (List.mem_cons_of_mem _ (List.mem_append_left _ (List.mem_append_left _ (List.mem_append_left _ (List.mem_append_left _ (List.mem_append_left _ (List.mem_of_getElem? (i := 4) rfl)))))))) (Nat.le_of_ble_eq_true rfl) (Nat.le_of_ble_eq_true rfl) dX4_timesTillAgain_10 ?_
  refine lv_istore_n (lv' := [(2, .int (if σ 1 2 < 3000 then σ 1 2 else 3000)), (0, .ref (L (0))), (1, .ref (L (s1)))]) hx hb dX4_timesTillAgain_13 rfl hl (by decide) rfl (fun ls hl => ?_)
  refine lv_aload_n hx hb dX4_timesTillAgain_14 rfl (lv_at hl 1 rfl) ?_
  refine ss_get (C := RX4) (T := TX4) (N := 9) (ci := 4) (v := .ref (L (171))) F hC (0) u_X4 (Nat.le_of_ble_eq_true rfl) rfl rfl 5 (by decide) f_43 rfl dX4_timesTillAgain_15 ?_
  refine lv_aload_n hx hb dX4_timesTillAgain_18 rfl (lv_at hl 2 rfl) ?_
  refine ss_kv (ss_rVN (C := RX3) (host := RX4) (As := [.ref (L (s1))]) (rest := []) F ((mX3_copyFrom l D A L wr cI cZ cS σ 171 s1 isSp_171 h1) _) gX4_timesTillAgain_X3_copyFrom_n104 rfl ⟨rfl, rfl⟩ dvX3_copyFrom (by decide +kernel) ⟨by decide +kernel, by decide +kernel, by decide +kernel⟩ ⟨Nat.le_of_ble_eq_true rfl, Nat.le_of_ble_eq_true rfl⟩ (ss_preV F.2.2.2.2.1 F.2.2.2.2.2 hC (ss_rec (C := RX3) (T := TX3) (N := 4) (ci := 3) F.2.2.2.2.1 hC (171) isSp_171.lt (ceC_sp (L := L) (cI := cI) (cS := cS) isSp_171 _) rfl) hw) rfl hl.1 rfl (Nat.le_of_ble_eq_true rfl) dX4_timesTillAgain_19 ⟨Nat.zero_le _, Nat.zero_le _⟩) hC (fun σ1 H locs hC hw => ?_)
  refine lv_iconst (v := 1) hx hb dX4_timesTillAgain_22 (by decide) ?_
  refine lv_istore_n (lv' := [(3, .int (1)), (2, .int (if σ 1 2 < 3000 then σ 1 2 else 3000)), (0, .ref (L (0))), (1, .ref (L (s1)))]) hx hb dX4_timesTillAgain_23 rfl hl (by decide) rfl (fun ls hl => ?_)
  obtain ⟨n_, hw⟩ := hw
  refine tX4_timesTillAgain_24 F h1 _ n_ 1 σ1 _ _ _ hC (lv_sub hl [2, 3, 1, 0] rfl) hw ?_
  · intro x3_10 σ_10 H locs ls hC hl hw
    refine lv_iconst (v := -1) hx hb dX4_timesTillAgain_90 (by decide) ?_
    exact ss_iret F hC hw dX4_timesTillAgain_91

theorem mX4_timesTillAgain (l : Launch) (D : va_G) (A : Nat → Prop) (L : Nat → Nat) (wr : va_W) (cI cZ cS : ClassId) (σ : ss_S) (s1 : Nat) (h1 : isSp s1) : ss_MI l yX4_timesTillAgain wsX4_timesTillAgain rmX4_timesTillAgain (ss_EC D A L wr cI cZ cS) [.ref (L (0)), .ref (L (s1))] σ (fun post => wX4_timesTillAgain s1 σ post) :=
  ss_MI.of (cc := cX4_timesTillAgain) (nL := 4) (ret := (some .int)) (own := RX4) (by decide) rfl rfl (Nat.le_of_ble_eq_true rfl) (fun post p e R s m below meth c H locs ls F hC hl hw => bX4_timesTillAgain F h1 σ H locs ls hC hl hw)

set_option maxHeartbeats 4000000 in
set_option maxRecDepth 100000 in
theorem bX4_round {x1 : Int32} {post : Int32 → ss_S → Prop} (F : ss_F p R s m args meth c (ss_EC D A L wr cI cZ cS) cX4_round 2 wsX4_round RX4 (some .int) rmX4_round)  : ∀ (σ : ss_S) (H : Heap) (locs : List Loc) (ls : Array Slot), ss_C (ss_EC D A L wr cI cZ cS) σ s H locs → lv_has ls 2 [(0, .ref (L (0))), (1, .int (x1))] → wX4_round x1 σ post → W p l e R s m args below meth c H locs 0 0 (MQ below (va_Qi post (ss_B (ss_EC D A L wr cI cZ cS)) A) args s 0 0 A) (F0 m 0 ls []) := by
  have hx := F.1.1
  have hb := F.1.2.1
  have u_X4 : ∀ w ∈ u_ws RX4 TX4 9, w ∈ wsX4_round := by decide +kernel
  have f_184 : (Cond.fieldLink RX4 184 "SmallSpaces" "roundsDone" "I").before args s = true := F.1.2.2.2.2 _ (by decide +kernel)
  have f_18 : (Cond.fieldLink RX4 18 "SmallSpaces" "slots" "[LSmallSpaces$Space;").before args s = true := F.1.2.2.2.2 _ (by decide +kernel)
  intro σ H locs ls hC hl hw
  unfold wX4_round at hw
  refine lv_iload_n hx hb dX4_round_0 rfl (lv_at hl 1 rfl) ?_
  refine ss_ki (ss_rS (As := [.int (x1)]) (rest := []) F ((mX4_isSlot l D A L wr cI cZ cS σ x1) _) gX4_round_X4_isSlot rfl ⟨rfl, rfl⟩ dvX4_isSlot ⟨Nat.le_of_ble_eq_true rfl, Nat.le_of_ble_eq_true rfl⟩ (ss_preS F.2.2.2.2.1 F.2.2.2.2.2 hC hw) rfl hl.1 rfl (Nat.le_of_ble_eq_true rfl) dX4_round_1 ⟨Nat.zero_le _, Nat.zero_le _⟩) hC (fun r2 σ1 H locs hC hw => ?_)
  refine lv_if_ne (tgt := 10) hx hb dX4_round_4 (by decide) (fun hc => ?_) (fun hc => ?_)
  · replace hw := hw.1 hc
    refine lv_aload_n hx hb dX4_round_10 rfl (lv_at hl 0 rfl) ?_
    refine ss_get (C := RX4) (T := TX4) (N := 9) (ci := 4) (v := .int (σ1 0 8)) F hC (0) u_X4 (Nat.le_of_ble_eq_true rfl) rfl rfl 8 (by decide) f_184 rfl dX4_round_11 ?_
    refine lv_bipush (v := 60) hx hb dX4_round_14 (by decide) ?_
    refine lv_icmp_lt (tgt := 22) hx hb dX4_round_16 (by decide) (fun hc => ?_) (fun hc => ?_)
    · replace hw := hw.1 hc
      refine lv_aload_n hx hb dX4_round_22 rfl (lv_at hl 0 rfl) ?_
      refine lv_dup hx hb dX4_round_23 rfl ?_
      refine ss_get (C := RX4) (T := TX4) (N := 9) (ci := 4) (v := .int (σ1 0 8)) F hC (0) u_X4 (Nat.le_of_ble_eq_true rfl) rfl rfl 8 (by decide) f_184 rfl dX4_round_24 ?_
      refine lv_iconst (v := 1) hx hb dX4_round_27 (by decide) ?_
      refine lv_iadd hx hb dX4_round_28 ?_
      refine ss_put (C := RX4) (T := TX4) (N := 9) (ci := 4) F hC (0) tyX4 tyX4_ok nmX4 u_X4 (Nat.le_of_ble_eq_true rfl) rfl rfl 8 (by decide) f_184 rfl (by decide +kernel) (Nat.le_of_ble_eq_true rfl) rfl dX4_round_29 (fun H locs hC => ?_)
      refine lv_aload_n hx hb dX4_round_32 rfl (lv_at hl 0 rfl) ?_
      refine lv_aload_n hx hb dX4_round_33 rfl (lv_at hl 0 rfl) ?_
      refine ss_get (C := RX4) (T := TX4) (N := 9) (ci := 4) (v := .ref (L (2))) F hC (0) u_X4 (Nat.le_of_ble_eq_true rfl) rfl rfl 1 (by decide) f_18 rfl dX4_round_34 ?_
      refine lv_iload_n hx hb dX4_round_37 rfl (lv_at hl 1 rfl) ?_
      have hv3 := hw.1
      replace hw := hw.2
      refine ss_aald (v := L (9 + 3 * (Int32.toNatClampNeg x1))) F hC 2 2 (Nat.le_of_ble_eq_true rfl) rfl rfl hv3 rfl dX4_round_38 ?_
      refine ss_ki (ss_rV (C := RX4) (As := [.ref (L (9 + 3 * (Int32.toNatClampNeg x1)))]) (rest := []) F ((mX4_timesTillAgain l D A L wr cI cZ cS (u2 σ1 0 8 ((σ1 0 8) + 1)) (9 + 3 * (Int32.toNatClampNeg x1)) (isSp_slot hv3)) _) gX4_round_X4_timesTillAgain rfl ⟨rfl, rfl⟩ ⟨rfl, dvX4_timesTillAgain⟩ ⟨Nat.le_of_ble_eq_true rfl, Nat.le_of_ble_eq_true rfl⟩ (ss_preV F.2.2.2.2.1 F.2.2.2.2.2 hC (ss_rec (C := RX4) (T := TX4) (N := 9) (ci := 4) F.2.2.2.2.1 hC (0) (Nat.le_of_ble_eq_true rfl) rfl rfl) hw) rfl hl.1 rfl (Nat.le_of_ble_eq_true rfl) dX4_round_39 ⟨Nat.zero_le _, Nat.zero_le _⟩) hC (fun r5 σ4 H locs hC hw => ?_)
      exact ss_iret F hC hw dX4_round_42
    · replace hw := hw.2 hc
      refine lv_bipush (v := -103) hx hb dX4_round_19 (by decide) ?_
      exact ss_iret F hC hw dX4_round_21
  · replace hw := hw.2 hc
    refine lv_bipush (v := -101) hx hb dX4_round_7 (by decide) ?_
    exact ss_iret F hC hw dX4_round_9

theorem mX4_round (l : Launch) (D : va_G) (A : Nat → Prop) (L : Nat → Nat) (wr : va_W) (cI cZ cS : ClassId) (σ : ss_S) (x1 : Int32)  : ss_MI l yX4_round wsX4_round rmX4_round (ss_EC D A L wr cI cZ cS) [.ref (L (0)), .int (x1)] σ (fun post => wX4_round x1 σ post) :=
  ss_MI.of (cc := cX4_round) (nL := 2) (ret := (some .int)) (own := RX4) (by decide) rfl rfl (Nat.le_of_ble_eq_true rfl) (fun post p e R s m below meth c H locs ls F hC hl hw => bX4_round F  σ H locs ls hC hl hw)

set_option maxHeartbeats 4000000 in
set_option maxRecDepth 100000 in
theorem bX4_told {x1 : Int32} {post : Int32 → ss_S → Prop} (F : ss_F p R s m args meth c (ss_EC D A L wr cI cZ cS) cX4_told 2 wsX4_told RX4 (some .int) rmX4_told)  : ∀ (σ : ss_S) (H : Heap) (locs : List Loc) (ls : Array Slot), ss_C (ss_EC D A L wr cI cZ cS) σ s H locs → lv_has ls 2 [(0, .ref (L (0))), (1, .int (x1))] → wX4_told x1 σ post → W p l e R s m args below meth c H locs 0 0 (MQ below (va_Qi post (ss_B (ss_EC D A L wr cI cZ cS)) A) args s 0 0 A) (F0 m 0 ls []) := by
  have hx := F.1.1
  have hb := F.1.2.1
  have u_X4 : ∀ w ∈ u_ws RX4 TX4 9, w ∈ wsX4_told := by decide +kernel
  have f_10 : (Cond.fieldLink RX4 10 "SmallSpaces" "frame" "LSmallSpaces$Frame;").before args s = true := F.1.2.2.2.2 _ (by decide +kernel)
  have u_X0 : ∀ w ∈ u_ws RX0 TX0 3, w ∈ wsX4_told := by decide +kernel
  have f_28 : (Cond.fieldLink RX4 28 "SmallSpaces" "heap" "LSmallSpaces$Heap;").before args s = true := F.1.2.2.2.2 _ (by decide +kernel)
  have u_X1 : ∀ w ∈ u_ws RX1 TX1 3, w ∈ wsX4_told := by decide +kernel
  have f_160 : (Cond.fieldLink RX4 160 "SmallSpaces" "greedyDone" "I").before args s = true := F.1.2.2.2.2 _ (by decide +kernel)
  have f_184 : (Cond.fieldLink RX4 184 "SmallSpaces" "roundsDone" "I").before args s = true := F.1.2.2.2.2 _ (by decide +kernel)
  intro σ H locs ls hC hl hw
  unfold wX4_told at hw
  refine lv_iload_n hx hb dX4_told_0 rfl (lv_at hl 1 rfl) ?_
  by_cases hs0 : x1 = 0
  · replace hw := hw.1 hs0
    refine lv_tableIn (tgt := 40) hx hb dX4_told_1 (by rw [hs0]; decide) (by rw [hs0]; decide) (by rw [hs0]; rfl) (by decide) ?_
    refine lv_aload_n hx hb dX4_told_40 rfl (lv_at hl 0 rfl) ?_
    refine ss_get (C := RX4) (T := TX4) (N := 9) (ci := 4) (v := .ref (L (1))) F hC (0) u_X4 (Nat.le_of_ble_eq_true rfl) rfl rfl 0 (by decide) f_10 rfl dX4_told_41 ?_
    refine ss_getN (C := RX0) (T := TX0) (N := 3) (ci := 0) (host := RX4) (v := .int (σ 1 0)) F hC (1) u_X0 (Nat.le_of_ble_eq_true rfl) rfl rfl 0 (by decide) (by decide +kernel) rfl dX4_told_44 ?_
    exact ss_iret F hC hw dX4_told_47
  replace hw := hw.2 hs0
  by_cases hs1 : x1 = 1
  · replace hw := hw.1 hs1
    refine lv_tableIn (tgt := 48) hx hb dX4_told_1 (by rw [hs1]; decide) (by rw [hs1]; decide) (by rw [hs1]; rfl) (by decide) ?_
    refine lv_aload_n hx hb dX4_told_48 rfl (lv_at hl 0 rfl) ?_
    refine ss_get (C := RX4) (T := TX4) (N := 9) (ci := 4) (v := .ref (L (1))) F hC (0) u_X4 (Nat.le_of_ble_eq_true rfl) rfl rfl 0 (by decide) f_10 rfl dX4_told_49 ?_
    refine ss_getN (C := RX0) (T := TX0) (N := 3) (ci := 0) (host := RX4) (v := .int (σ 1 1)) F hC (1) u_X0 (Nat.le_of_ble_eq_true rfl) rfl rfl 1 (by decide) (by decide +kernel) rfl dX4_told_52 ?_
    exact ss_iret F hC hw dX4_told_55
  replace hw := hw.2 hs1
  by_cases hs2 : x1 = 2
  · replace hw := hw.1 hs2
    refine lv_tableIn (tgt := 56) hx hb dX4_told_1 (by rw [hs2]; decide) (by rw [hs2]; decide) (by rw [hs2]; rfl) (by decide) ?_
    refine lv_aload_n hx hb dX4_told_56 rfl (lv_at hl 0 rfl) ?_
    refine ss_get (C := RX4) (T := TX4) (N := 9) (ci := 4) (v := .ref (L (1))) F hC (0) u_X4 (Nat.le_of_ble_eq_true rfl) rfl rfl 0 (by decide) f_10 rfl dX4_told_57 ?_
    refine ss_getN (C := RX0) (T := TX0) (N := 3) (ci := 0) (host := RX4) (v := .int (σ 1 2)) F hC (1) u_X0 (Nat.le_of_ble_eq_true rfl) rfl rfl 2 (by decide) (by decide +kernel) rfl dX4_told_60 ?_
    exact ss_iret F hC hw dX4_told_63
  replace hw := hw.2 hs2
  by_cases hs3 : x1 = 3
  · replace hw := hw.1 hs3
    refine lv_tableIn (tgt := 64) hx hb dX4_told_1 (by rw [hs3]; decide) (by rw [hs3]; decide) (by rw [hs3]; rfl) (by decide) ?_
    refine lv_aload_n hx hb dX4_told_64 rfl (lv_at hl 0 rfl) ?_
    refine ss_get (C := RX4) (T := TX4) (N := 9) (ci := 4) (v := .ref (L (3))) F hC (0) u_X4 (Nat.le_of_ble_eq_true rfl) rfl rfl 2 (by decide) f_28 rfl dX4_told_65 ?_
    refine ss_getN (C := RX1) (T := TX1) (N := 3) (ci := 1) (host := RX4) (v := .int (σ 3 2)) F hC (3) u_X1 (Nat.le_of_ble_eq_true rfl) rfl rfl 2 (by decide) (by decide +kernel) rfl dX4_told_68 ?_
    exact ss_iret F hC hw dX4_told_71
  replace hw := hw.2 hs3
  by_cases hs4 : x1 = 4
  · replace hw := hw.1 hs4
    refine lv_tableIn (tgt := 72) hx hb dX4_told_1 (by rw [hs4]; decide) (by rw [hs4]; decide) (by rw [hs4]; rfl) (by decide) ?_
    refine lv_aload_n hx hb dX4_told_72 rfl (lv_at hl 0 rfl) ?_
    refine ss_get (C := RX4) (T := TX4) (N := 9) (ci := 4) (v := .int (σ 0 7)) F hC (0) u_X4 (Nat.le_of_ble_eq_true rfl) rfl rfl 7 (by decide) f_160 rfl dX4_told_73 ?_
    exact ss_iret F hC hw dX4_told_76
  replace hw := hw.2 hs4
  by_cases hs5 : x1 = 5
  · replace hw := hw.1 hs5
    refine lv_tableIn (tgt := 77) hx hb dX4_told_1 (by rw [hs5]; decide) (by rw [hs5]; decide) (by rw [hs5]; rfl) (by decide) ?_
    refine lv_aload_n hx hb dX4_told_77 rfl (lv_at hl 0 rfl) ?_
    refine ss_get (C := RX4) (T := TX4) (N := 9) (ci := 4) (v := .int (σ 0 8)) F hC (0) u_X4 (Nat.le_of_ble_eq_true rfl) rfl rfl 8 (by decide) f_184 rfl dX4_told_78 ?_
    exact ss_iret F hC hw dX4_told_81
  replace hw := hw.2 hs5
  refine lv_tableOut (tgt := 82) hx hb dX4_told_1 (ss_swOut 0 5 (by decide) (by decide) (fun k h1 h2 => by rcases (show k = 0 ∨ k = 1 ∨ k = 2 ∨ k = 3 ∨ k = 4 ∨ k = 5 by omega) with rfl | rfl | rfl | rfl | rfl | rfl <;> assumption)) (by decide) ?_
  refine lv_bipush (v := -102) hx hb dX4_told_82 (by decide) ?_
  exact ss_iret F hC hw dX4_told_84

theorem mX4_told (l : Launch) (D : va_G) (A : Nat → Prop) (L : Nat → Nat) (wr : va_W) (cI cZ cS : ClassId) (σ : ss_S) (x1 : Int32)  : ss_MI l yX4_told wsX4_told rmX4_told (ss_EC D A L wr cI cZ cS) [.ref (L (0)), .int (x1)] σ (fun post => wX4_told x1 σ post) :=
  ss_MI.of (cc := cX4_told) (nL := 2) (ret := (some .int)) (own := RX4) (by decide) rfl rfl (Nat.le_of_ble_eq_true rfl) (fun post p e R s m below meth c H locs ls F hC hl hw => bX4_told F  σ H locs ls hC hl hw)

set_option maxHeartbeats 4000000 in
set_option maxRecDepth 100000 in
theorem bX4_fold {x0 : Int64} {x2 : Int32} {post : Int64 → ss_S → Prop} (F : ss_F p R s m args meth c (ss_EC D A L wr cI cZ cS) cX4_fold 3 wsX4_fold RX4 (some .long) rmX4_fold)  : ∀ (σ : ss_S) (H : Heap) (locs : List Loc) (ls : Array Slot), ss_C (ss_EC D A L wr cI cZ cS) σ s H locs → lv_has ls 3 [(0, .long (x0)), (2, .int (x2))] → wX4_fold x0 x2 σ post → W p l e R s m args below meth c H locs 0 0 (MQ below (va_Ql post (ss_B (ss_EC D A L wr cI cZ cS)) A) args s 0 0 A) (F0 m 0 ls []) := by
  have hx := F.1.1
  have hb := F.1.2.1
  intro σ H locs ls hC hl hw
  unfold wX4_fold at hw
  refine lv_ldc2 (v := 31) hx hb F.1.2.2.2.1 (F.1.2.2.2.2 (.constantLong RX4 209 (31)) (by decide +kernel)) dX4_fold_0 ?_
  refine lv_lload_n hx hb dX4_fold_3 rfl (lv_at hl 0 rfl) ?_
  refine lv_lmul hx hb dX4_fold_4 ?_
  refine lv_iload_n hx hb dX4_fold_5 rfl (lv_at hl 1 rfl) ?_
  refine lv_i2l hx hb dX4_fold_6 rfl ?_
  refine lv_ladd hx hb dX4_fold_7 ?_
  exact ss_lret F hC hw dX4_fold_8

theorem mX4_fold (l : Launch) (D : va_G) (A : Nat → Prop) (L : Nat → Nat) (wr : va_W) (cI cZ cS : ClassId) (σ : ss_S) (x0 : Int64) (x2 : Int32)  : ss_ML l yX4_fold wsX4_fold rmX4_fold (ss_EC D A L wr cI cZ cS) [.long (x0), .int (x2)] σ (fun post => wX4_fold x0 x2 σ post) :=
  ss_ML.of (cc := cX4_fold) (nL := 3) (ret := (some .long)) (own := RX4) (by decide) rfl rfl (Nat.le_of_ble_eq_true rfl) (fun post p e R s m below meth c H locs ls F hC hl hw => bX4_fold F  σ H locs ls hC hl hw)

set_option maxHeartbeats 4000000 in
set_option maxRecDepth 100000 in
theorem tX4_foldSpace_15 {s2 : Nat} {x3 : Int32} {post : Int64 → ss_S → Prop} (F : ss_F p R s m args meth c (ss_EC D A L wr cI cZ cS) cX4_foldSpace 7 wsX4_foldSpace RX4 (some .long) rmX4_foldSpace) (h2 : isSp s2) (k40 : Int64 → Int32 → ss_S → Prop) : ∀ (n : Nat) (x4 : Int64) (x6 : Int32) (σ : ss_S) (H : Heap) (locs : List Loc) (ls : Array Slot), ss_C (ss_EC D A L wr cI cZ cS) σ s H locs → lv_has ls 7 [(2, .ref (L (s2))), (3, .int (x3)), (4, .long (x4)), (6, .int (x6))] → lX4_foldSpace_15 s2 x3 post k40 n x4 x6 σ →
    (∀ (x4 : Int64) (x6 : Int32) (σ : ss_S) (H : Heap) (locs : List Loc) (ls : Array Slot), ss_C (ss_EC D A L wr cI cZ cS) σ s H locs → lv_has ls 7 [(4, .long (x4))] → k40 x4 x6 σ → W p l e R s m args below meth c H locs 0 0 (MQ below (va_Ql post (ss_B (ss_EC D A L wr cI cZ cS)) A) args s 0 0 A) (F0 m 40 ls [])) →
    W p l e R s m args below meth c H locs 0 0 (MQ below (va_Ql post (ss_B (ss_EC D A L wr cI cZ cS)) A) args s 0 0 A) (F0 m 15 ls []) := by
  have hx := F.1.1
  have hb := F.1.2.1
  intro n
  induction n with
  | zero => intro x4 x6 σ H locs ls hC hl hw; exact hw.elim
  | succ n ih =>
    intro x4 x6 σ H locs ls hC hl hw hk40
    refine lv_iload hx hb dX4_foldSpace_15 (lv_at hl 3 rfl) ?_
    refine lv_iload_n hx hb dX4_foldSpace_17 rfl (lv_at hl 1 rfl) ?_
    refine lv_icmp_ge (tgt := 40) hx hb dX4_foldSpace_18 (by decide) (fun hc => ?_) (fun hc => ?_)
    · replace hw := hw.1 hc
      exact hk40 x4 x6 σ _ _ _ hC (lv_sub hl [2] rfl) hw
    · replace hw := hw.2 hc
      refine lv_lload hx hb dX4_foldSpace_21 (lv_at hl 2 rfl) ?_
      refine lv_aload_n hx hb dX4_foldSpace_23 rfl (lv_at hl 0 rfl) ?_
      refine lv_iload hx hb dX4_foldSpace_24 (lv_at hl 3 rfl) ?_
      refine ss_ki (ss_rVN (C := RX3) (host := RX4) (As := [.int (x6)]) (rest := [.long (x4)]) F ((mX3_rowNumber l D A L wr cI cZ cS σ s2 x6 h2) _) gX4_foldSpace_X3_rowNumber_n101 rfl ⟨rfl, rfl⟩ dvX3_rowNumber (by decide +kernel) ⟨by decide +kernel, by decide +kernel, by decide +kernel⟩ ⟨Nat.le_of_ble_eq_true rfl, Nat.le_of_ble_eq_true rfl⟩ (ss_preV F.2.2.2.2.1 F.2.2.2.2.2 hC (ss_rec (C := RX3) (T := TX3) (N := 4) (ci := 3) F.2.2.2.2.1 hC (s2) h2.lt (ceC_sp (L := L) (cI := cI) (cS := cS) h2 _) rfl) hw) rfl hl.1 rfl (Nat.le_of_ble_eq_true rfl) dX4_foldSpace_26 ⟨Nat.zero_le _, Nat.zero_le _⟩) hC (fun r6 σ5 H locs hC hw => ?_)
      refine ss_kl (ss_rS (As := [.long (x4), .int (r6)]) (rest := []) F ((mX4_fold l D A L wr cI cZ cS σ5 x4 r6) _) gX4_foldSpace_X4_fold rfl ⟨rfl, rfl⟩ dvX4_fold ⟨Nat.le_of_ble_eq_true rfl, Nat.le_of_ble_eq_true rfl⟩ (ss_preS F.2.2.2.2.1 F.2.2.2.2.2 hC hw) rfl hl.1 rfl (Nat.le_of_ble_eq_true rfl) dX4_foldSpace_29 ⟨Nat.zero_le _, Nat.zero_le _⟩) hC (fun r8 σ7 H locs hC hw => ?_)
      refine lv_lstore (lv' := [(4, .long (r8)), (2, .ref (L (s2))), (3, .int (x3)), (6, .int (x6))]) hx hb dX4_foldSpace_32 hl (by decide) rfl (fun ls hl => ?_)
      refine lv_iinc (v := x6 + 1) (lv' := [(6, .int (x6 + 1)), (4, .long (r8)), (2, .ref (L (s2))), (3, .int (x3))]) hx hb dX4_foldSpace_34 hl (k := 3) rfl rfl (by decide) rfl (fun ls hl => ?_)
      refine lv_goto (tgt := 15) hx hb dX4_foldSpace_37 (by decide) ?_
      exact ih r8 (x6 + 1) σ7 _ _ _ hC (lv_sub hl [2, 3, 1, 0] rfl) hw hk40

set_option maxHeartbeats 4000000 in
set_option maxRecDepth 100000 in
theorem bX4_foldSpace {x0 : Int64} {s2 : Nat} {post : Int64 → ss_S → Prop} (F : ss_F p R s m args meth c (ss_EC D A L wr cI cZ cS) cX4_foldSpace 7 wsX4_foldSpace RX4 (some .long) rmX4_foldSpace) (h2 : isSp s2) : ∀ (σ : ss_S) (H : Heap) (locs : List Loc) (ls : Array Slot), ss_C (ss_EC D A L wr cI cZ cS) σ s H locs → lv_has ls 7 [(0, .long (x0)), (2, .ref (L (s2)))] → wX4_foldSpace x0 s2 σ post → W p l e R s m args below meth c H locs 0 0 (MQ below (va_Ql post (ss_B (ss_EC D A L wr cI cZ cS)) A) args s 0 0 A) (F0 m 0 ls []) := by
  have hx := F.1.1
  have hb := F.1.2.1
  intro σ H locs ls hC hl hw
  unfold wX4_foldSpace at hw
  refine lv_aload_n hx hb dX4_foldSpace_0 rfl (lv_at hl 1 rfl) ?_
  refine ss_ki (ss_rVN (C := RX3) (host := RX4) (As := []) (rest := []) F ((mX3_rank l D A L wr cI cZ cS σ s2 h2) _) gX4_foldSpace_X3_rank_n97 rfl ⟨rfl, rfl⟩ dvX3_rank (by decide +kernel) ⟨by decide +kernel, by decide +kernel, by decide +kernel⟩ ⟨Nat.le_of_ble_eq_true rfl, Nat.le_of_ble_eq_true rfl⟩ (ss_preV F.2.2.2.2.1 F.2.2.2.2.2 hC (ss_rec (C := RX3) (T := TX3) (N := 4) (ci := 3) F.2.2.2.2.1 hC (s2) h2.lt (ceC_sp (L := L) (cI := cI) (cS := cS) h2 _) rfl) hw) rfl hl.1 rfl (Nat.le_of_ble_eq_true rfl) dX4_foldSpace_1 ⟨Nat.zero_le _, Nat.zero_le _⟩) hC (fun r2 σ1 H locs hC hw => ?_)
  refine lv_istore_n (lv' := [(3, .int (r2)), (0, .long (x0)), (2, .ref (L (s2)))]) hx hb dX4_foldSpace_4 rfl hl (by decide) rfl (fun ls hl => ?_)
  refine lv_lload_n hx hb dX4_foldSpace_5 rfl (lv_at hl 1 rfl) ?_
  refine lv_iload_n hx hb dX4_foldSpace_6 rfl (lv_at hl 0 rfl) ?_
  refine ss_kl (ss_rS (As := [.long (x0), .int (r2)]) (rest := []) F ((mX4_fold l D A L wr cI cZ cS σ1 x0 r2) _) gX4_foldSpace_X4_fold rfl ⟨rfl, rfl⟩ dvX4_fold ⟨Nat.le_of_ble_eq_true rfl, Nat.le_of_ble_eq_true rfl⟩ (ss_preS F.2.2.2.2.1 F.2.2.2.2.2 hC hw) rfl hl.1 rfl (Nat.le_of_ble_eq_true rfl) dX4_foldSpace_7 ⟨Nat.zero_le _, Nat.zero_le _⟩) hC (fun r4 σ3 H locs hC hw => ?_)
  refine lv_lstore (lv' := [(4, .long (r4)), (3, .int (r2)), (0, .long (x0)), (2, .ref (L (s2)))]) hx hb dX4_foldSpace_10 hl (by decide) rfl (fun ls hl => ?_)
  refine lv_iconst (v := 0) hx hb dX4_foldSpace_12 (by decide) ?_
  refine lv_istore (lv' := [(6, .int (0)), (4, .long (r4)), (3, .int (r2)), (0, .long (x0)), (2, .ref (L (s2)))]) hx hb dX4_foldSpace_13 hl (by decide) rfl (fun ls hl => ?_)
  obtain ⟨n_, hw⟩ := hw
  refine tX4_foldSpace_15 F h2 _ n_ r4 0 σ3 _ _ _ hC (lv_sub hl [4, 2, 1, 0] rfl) hw ?_
  · intro x4_9 x6_9 σ_9 H locs ls hC hl hw
    refine lv_lload hx hb dX4_foldSpace_40 (lv_at hl 0 rfl) ?_
    exact ss_lret F hC hw dX4_foldSpace_42

theorem mX4_foldSpace (l : Launch) (D : va_G) (A : Nat → Prop) (L : Nat → Nat) (wr : va_W) (cI cZ cS : ClassId) (σ : ss_S) (x0 : Int64) (s2 : Nat) (h2 : isSp s2) : ss_ML l yX4_foldSpace wsX4_foldSpace rmX4_foldSpace (ss_EC D A L wr cI cZ cS) [.long (x0), .ref (L (s2))] σ (fun post => wX4_foldSpace x0 s2 σ post) :=
  ss_ML.of (cc := cX4_foldSpace) (nL := 7) (ret := (some .long)) (own := RX4) (by decide) rfl rfl (Nat.le_of_ble_eq_true rfl) (fun post p e R s m below meth c H locs ls F hC hl hw => bX4_foldSpace F h2 σ H locs ls hC hl hw)

set_option maxHeartbeats 4000000 in
set_option maxRecDepth 100000 in
theorem tX4_digest_26  {post : Int64 → ss_S → Prop} (F : ss_F p R s m args meth c (ss_EC D A L wr cI cZ cS) cX4_digest 4 wsX4_digest RX4 (some .long) rmX4_digest)  (k49 : Int64 → Int32 → ss_S → Prop) : ∀ (n : Nat) (x1 : Int64) (x3 : Int32) (σ : ss_S) (H : Heap) (locs : List Loc) (ls : Array Slot), ss_C (ss_EC D A L wr cI cZ cS) σ s H locs → lv_has ls 4 [(0, .ref (L (0))), (1, .long (x1)), (3, .int (x3))] → lX4_digest_26 post k49 n x1 x3 σ →
    (∀ (x1 : Int64) (x3 : Int32) (σ : ss_S) (H : Heap) (locs : List Loc) (ls : Array Slot), ss_C (ss_EC D A L wr cI cZ cS) σ s H locs → lv_has ls 4 [(0, .ref (L (0))), (1, .long (x1))] → k49 x1 x3 σ → W p l e R s m args below meth c H locs 0 0 (MQ below (va_Ql post (ss_B (ss_EC D A L wr cI cZ cS)) A) args s 0 0 A) (F0 m 49 ls [])) →
    W p l e R s m args below meth c H locs 0 0 (MQ below (va_Ql post (ss_B (ss_EC D A L wr cI cZ cS)) A) args s 0 0 A) (F0 m 26 ls []) := by
  have hx := F.1.1
  have hb := F.1.2.1
  have u_X4 : ∀ w ∈ u_ws RX4 TX4 9, w ∈ wsX4_digest := by decide +kernel
  have f_18 : (Cond.fieldLink RX4 18 "SmallSpaces" "slots" "[LSmallSpaces$Space;").before args s = true := F.1.2.2.2.2 _ (by decide +kernel)
  intro n
  induction n with
  | zero => intro x1 x3 σ H locs ls hC hl hw; exact hw.elim
  | succ n ih =>
    intro x1 x3 σ H locs ls hC hl hw hk49
    refine lv_iload_n hx hb dX4_digest_26 rfl (lv_at hl 2 rfl) ?_
    refine lv_bipush (v := 12) hx hb dX4_digest_27 (by decide) ?_
    refine lv_icmp_ge (tgt := 49) hx hb dX4_digest_29 (by decide) (fun hc => ?_) (fun hc => ?_)
    · replace hw := hw.1 hc
      exact hk49 x1 x3 σ _ _ _ hC (lv_sub hl [0, 1] rfl) hw
    · replace hw := hw.2 hc
      refine lv_lload_n hx hb dX4_digest_32 rfl (lv_at hl 1 rfl) ?_
      refine lv_aload_n hx hb dX4_digest_33 rfl (lv_at hl 0 rfl) ?_
      refine ss_get (C := RX4) (T := TX4) (N := 9) (ci := 4) (v := .ref (L (2))) F hC (0) u_X4 (Nat.le_of_ble_eq_true rfl) rfl rfl 1 (by decide) f_18 rfl dX4_digest_34 ?_
      refine lv_iload_n hx hb dX4_digest_37 rfl (lv_at hl 2 rfl) ?_
      have hv5 := hw.1
      replace hw := hw.2
      refine ss_aald (v := L (9 + 3 * (Int32.toNatClampNeg x3))) F hC 2 2 (Nat.le_of_ble_eq_true rfl) rfl rfl hv5 rfl dX4_digest_38 ?_
      refine ss_kl (ss_rS (As := [.long (x1), .ref (L (9 + 3 * (Int32.toNatClampNeg x3)))]) (rest := []) F ((mX4_foldSpace l D A L wr cI cZ cS σ x1 (9 + 3 * (Int32.toNatClampNeg x3)) (isSp_slot hv5)) _) gX4_digest_X4_foldSpace rfl ⟨rfl, rfl⟩ dvX4_foldSpace ⟨Nat.le_of_ble_eq_true rfl, Nat.le_of_ble_eq_true rfl⟩ (ss_preS F.2.2.2.2.1 F.2.2.2.2.2 hC hw) rfl hl.1 rfl (Nat.le_of_ble_eq_true rfl) dX4_digest_39 ⟨Nat.zero_le _, Nat.zero_le _⟩) hC (fun r7 σ6 H locs hC hw => ?_)
      refine lv_lstore_n (lv' := [(1, .long (r7)), (0, .ref (L (0))), (3, .int (x3))]) hx hb dX4_digest_42 rfl hl (by decide) rfl (fun ls hl => ?_)
      refine lv_iinc (v := x3 + 1) (lv' := [(3, .int (x3 + 1)), (1, .long (r7)), (0, .ref (L (0)))]) hx hb dX4_digest_43 hl (k := 2) rfl rfl (by decide) rfl (fun ls hl => ?_)
      refine lv_goto (tgt := 26) hx hb dX4_digest_46 (by decide) ?_
      exact ih r7 (x3 + 1) σ6 _ _ _ hC (lv_sub hl [2, 1, 0] rfl) hw hk49

set_option maxHeartbeats 4000000 in
set_option maxRecDepth 100000 in
theorem tX4_digest_51  {post : Int64 → ss_S → Prop} (F : ss_F p R s m args meth c (ss_EC D A L wr cI cZ cS) cX4_digest 4 wsX4_digest RX4 (some .long) rmX4_digest)  (k82 : Int64 → Int32 → ss_S → Prop) : ∀ (n : Nat) (x1 : Int64) (x3 : Int32) (σ : ss_S) (H : Heap) (locs : List Loc) (ls : Array Slot), ss_C (ss_EC D A L wr cI cZ cS) σ s H locs → lv_has ls 4 [(0, .ref (L (0))), (1, .long (x1)), (3, .int (x3))] → lX4_digest_51 post k82 n x1 x3 σ →
    (∀ (x1 : Int64) (x3 : Int32) (σ : ss_S) (H : Heap) (locs : List Loc) (ls : Array Slot), ss_C (ss_EC D A L wr cI cZ cS) σ s H locs → lv_has ls 4 [(0, .ref (L (0))), (1, .long (x1))] → k82 x1 x3 σ → W p l e R s m args below meth c H locs 0 0 (MQ below (va_Ql post (ss_B (ss_EC D A L wr cI cZ cS)) A) args s 0 0 A) (F0 m 82 ls [])) →
    W p l e R s m args below meth c H locs 0 0 (MQ below (va_Ql post (ss_B (ss_EC D A L wr cI cZ cS)) A) args s 0 0 A) (F0 m 51 ls []) := by
  have hx := F.1.1
  have hb := F.1.2.1
  have u_X4 : ∀ w ∈ u_ws RX4 TX4 9, w ∈ wsX4_digest := by decide +kernel
  have f_28 : (Cond.fieldLink RX4 28 "SmallSpaces" "heap" "LSmallSpaces$Heap;").before args s = true := F.1.2.2.2.2 _ (by decide +kernel)
  have u_X1 : ∀ w ∈ u_ws RX1 TX1 3, w ∈ wsX4_digest := by decide +kernel
  intro n
  induction n with
  | zero => intro x1 x3 σ H locs ls hC hl hw; exact hw.elim
  | succ n ih =>
    intro x1 x3 σ H locs ls hC hl hw hk82
    refine lv_iload_n hx hb dX4_digest_51 rfl (lv_at hl 2 rfl) ?_
    refine lv_aload_n hx hb dX4_digest_52 rfl (lv_at hl 0 rfl) ?_
    refine ss_get (C := RX4) (T := TX4) (N := 9) (ci := 4) (v := .ref (L (3))) F hC (0) u_X4 (Nat.le_of_ble_eq_true rfl) rfl rfl 2 (by decide) f_28 rfl dX4_digest_53 ?_
    refine ss_getN (C := RX1) (T := TX1) (N := 3) (ci := 1) (host := RX4) (v := .int (σ 3 2)) F hC (3) u_X1 (Nat.le_of_ble_eq_true rfl) rfl rfl 2 (by decide) (by decide +kernel) rfl dX4_digest_56 ?_
    refine lv_icmp_ge (tgt := 82) hx hb dX4_digest_59 (by decide) (fun hc => ?_) (fun hc => ?_)
    · replace hw := hw.1 hc
      exact hk82 x1 x3 σ _ _ _ hC (lv_sub hl [0, 1] rfl) hw
    · replace hw := hw.2 hc
      refine lv_lload_n hx hb dX4_digest_62 rfl (lv_at hl 1 rfl) ?_
      refine lv_aload_n hx hb dX4_digest_63 rfl (lv_at hl 0 rfl) ?_
      refine ss_get (C := RX4) (T := TX4) (N := 9) (ci := 4) (v := .ref (L (3))) F hC (0) u_X4 (Nat.le_of_ble_eq_true rfl) rfl rfl 2 (by decide) f_28 rfl dX4_digest_64 ?_
      refine ss_getN (C := RX1) (T := TX1) (N := 3) (ci := 1) (host := RX4) (v := .ref (L (4))) F hC (3) u_X1 (Nat.le_of_ble_eq_true rfl) rfl rfl 0 (by decide) (by decide +kernel) rfl dX4_digest_67 ?_
      refine lv_iload_n hx hb dX4_digest_70 rfl (lv_at hl 2 rfl) ?_
      have hv9 := hw.1
      replace hw := hw.2
      refine ss_aald (v := L (45 + 3 * (Int32.toNatClampNeg x3))) F hC 4 2 (Nat.le_of_ble_eq_true rfl) rfl rfl hv9 rfl dX4_digest_71 ?_
      refine ss_kl (ss_rS (As := [.long (x1), .ref (L (45 + 3 * (Int32.toNatClampNeg x3)))]) (rest := []) F ((mX4_foldSpace l D A L wr cI cZ cS σ x1 (45 + 3 * (Int32.toNatClampNeg x3)) (isSp_heap hv9)) _) gX4_digest_X4_foldSpace rfl ⟨rfl, rfl⟩ dvX4_foldSpace ⟨Nat.le_of_ble_eq_true rfl, Nat.le_of_ble_eq_true rfl⟩ (ss_preS F.2.2.2.2.1 F.2.2.2.2.2 hC hw) rfl hl.1 rfl (Nat.le_of_ble_eq_true rfl) dX4_digest_72 ⟨Nat.zero_le _, Nat.zero_le _⟩) hC (fun r11 σ10 H locs hC hw => ?_)
      refine lv_lstore_n (lv' := [(1, .long (r11)), (0, .ref (L (0))), (3, .int (x3))]) hx hb dX4_digest_75 rfl hl (by decide) rfl (fun ls hl => ?_)
      refine lv_iinc (v := x3 + 1) (lv' := [(3, .int (x3 + 1)), (1, .long (r11)), (0, .ref (L (0)))]) hx hb dX4_digest_76 hl (k := 2) rfl rfl (by decide) rfl (fun ls hl => ?_)
      refine lv_goto (tgt := 51) hx hb dX4_digest_79 (by decide) ?_
      exact ih r11 (x3 + 1) σ10 _ _ _ hC (lv_sub hl [2, 1, 0] rfl) hw hk82

set_option maxHeartbeats 4000000 in
set_option maxRecDepth 100000 in
theorem tX4_digest_84  {post : Int64 → ss_S → Prop} (F : ss_F p R s m args meth c (ss_EC D A L wr cI cZ cS) cX4_digest 4 wsX4_digest RX4 (some .long) rmX4_digest)  (k114 : Int64 → Int32 → ss_S → Prop) : ∀ (n : Nat) (x1 : Int64) (x3 : Int32) (σ : ss_S) (H : Heap) (locs : List Loc) (ls : Array Slot), ss_C (ss_EC D A L wr cI cZ cS) σ s H locs → lv_has ls 4 [(0, .ref (L (0))), (1, .long (x1)), (3, .int (x3))] → lX4_digest_84 post k114 n x1 x3 σ →
    (∀ (x1 : Int64) (x3 : Int32) (σ : ss_S) (H : Heap) (locs : List Loc) (ls : Array Slot), ss_C (ss_EC D A L wr cI cZ cS) σ s H locs → lv_has ls 4 [(0, .ref (L (0))), (1, .long (x1))] → k114 x1 x3 σ → W p l e R s m args below meth c H locs 0 0 (MQ below (va_Ql post (ss_B (ss_EC D A L wr cI cZ cS)) A) args s 0 0 A) (F0 m 114 ls [])) →
    W p l e R s m args below meth c H locs 0 0 (MQ below (va_Ql post (ss_B (ss_EC D A L wr cI cZ cS)) A) args s 0 0 A) (F0 m 84 ls []) := by
  have hx := F.1.1
  have hb := F.1.2.1
  have u_X4 : ∀ w ∈ u_ws RX4 TX4 9, w ∈ wsX4_digest := by decide +kernel
  have f_10 : (Cond.fieldLink RX4 10 "SmallSpaces" "frame" "LSmallSpaces$Frame;").before args s = true := F.1.2.2.2.2 _ (by decide +kernel)
  have u_X0 : ∀ w ∈ u_ws RX0 TX0 3, w ∈ wsX4_digest := by decide +kernel
  have f_35 : (Cond.fieldLink RX4 35 "SmallSpaces" "linear" "LSmallSpaces$Linear;").before args s = true := F.1.2.2.2.2 _ (by decide +kernel)
  intro n
  induction n with
  | zero => intro x1 x3 σ H locs ls hC hl hw; exact hw.elim
  | succ n ih =>
    intro x1 x3 σ H locs ls hC hl hw hk114
    refine lv_iload_n hx hb dX4_digest_84 rfl (lv_at hl 2 rfl) ?_
    refine lv_aload_n hx hb dX4_digest_85 rfl (lv_at hl 0 rfl) ?_
    refine ss_get (C := RX4) (T := TX4) (N := 9) (ci := 4) (v := .ref (L (1))) F hC (0) u_X4 (Nat.le_of_ble_eq_true rfl) rfl rfl 0 (by decide) f_10 rfl dX4_digest_86 ?_
    refine ss_getN (C := RX0) (T := TX0) (N := 3) (ci := 0) (host := RX4) (v := .int (σ 1 1)) F hC (1) u_X0 (Nat.le_of_ble_eq_true rfl) rfl rfl 1 (by decide) (by decide +kernel) rfl dX4_digest_89 ?_
    refine lv_icmp_ge (tgt := 114) hx hb dX4_digest_92 (by decide) (fun hc => ?_) (fun hc => ?_)
    · replace hw := hw.1 hc
      exact hk114 x1 x3 σ _ _ _ hC (lv_sub hl [0, 1] rfl) hw
    · replace hw := hw.2 hc
      refine lv_lload_n hx hb dX4_digest_95 rfl (lv_at hl 1 rfl) ?_
      refine lv_aload_n hx hb dX4_digest_96 rfl (lv_at hl 0 rfl) ?_
      refine ss_get (C := RX4) (T := TX4) (N := 9) (ci := 4) (v := .ref (L (5))) F hC (0) u_X4 (Nat.le_of_ble_eq_true rfl) rfl rfl 3 (by decide) f_35 rfl dX4_digest_97 ?_
      refine lv_iload_n hx hb dX4_digest_100 rfl (lv_at hl 2 rfl) ?_
      refine ss_ki (ss_rVN (C := RX2) (host := RX4) (As := [.int (x3)]) (rest := [.long (x1)]) F ((mX2_imageNumber l D A L wr cI cZ cS σ x3) _) gX4_digest_X2_imageNumber_n167 rfl ⟨rfl, rfl⟩ dvX2_imageNumber (by decide +kernel) ⟨by decide +kernel, by decide +kernel, by decide +kernel⟩ ⟨Nat.le_of_ble_eq_true rfl, Nat.le_of_ble_eq_true rfl⟩ (ss_preV F.2.2.2.2.1 F.2.2.2.2.2 hC (ss_rec (C := RX2) (T := TX2) (N := 3) (ci := 2) F.2.2.2.2.1 hC (5) (Nat.le_of_ble_eq_true rfl) rfl rfl) hw) rfl hl.1 rfl (Nat.le_of_ble_eq_true rfl) dX4_digest_101 ⟨Nat.zero_le _, Nat.zero_le _⟩) hC (fun r14 σ13 H locs hC hw => ?_)
      refine ss_kl (ss_rS (As := [.long (x1), .int (r14)]) (rest := []) F ((mX4_fold l D A L wr cI cZ cS σ13 x1 r14) _) gX4_digest_X4_fold rfl ⟨rfl, rfl⟩ dvX4_fold ⟨Nat.le_of_ble_eq_true rfl, Nat.le_of_ble_eq_true rfl⟩ (ss_preS F.2.2.2.2.1 F.2.2.2.2.2 hC hw) rfl hl.1 rfl (Nat.le_of_ble_eq_true rfl) dX4_digest_104 ⟨Nat.zero_le _, Nat.zero_le _⟩) hC (fun r16 σ15 H locs hC hw => ?_)
      refine lv_lstore_n (lv' := [(1, .long (r16)), (0, .ref (L (0))), (3, .int (x3))]) hx hb dX4_digest_107 rfl hl (by decide) rfl (fun ls hl => ?_)
      refine lv_iinc (v := x3 + 1) (lv' := [(3, .int (x3 + 1)), (1, .long (r16)), (0, .ref (L (0)))]) hx hb dX4_digest_108 hl (k := 2) rfl rfl (by decide) rfl (fun ls hl => ?_)
      refine lv_goto (tgt := 84) hx hb dX4_digest_111 (by decide) ?_
      exact ih r16 (x3 + 1) σ15 _ _ _ hC (lv_sub hl [2, 1, 0] rfl) hw hk114

set_option maxHeartbeats 4000000 in
set_option maxRecDepth 100000 in
theorem bX4_digest  {post : Int64 → ss_S → Prop} (F : ss_F p R s m args meth c (ss_EC D A L wr cI cZ cS) cX4_digest 4 wsX4_digest RX4 (some .long) rmX4_digest)  : ∀ (σ : ss_S) (H : Heap) (locs : List Loc) (ls : Array Slot), ss_C (ss_EC D A L wr cI cZ cS) σ s H locs → lv_has ls 4 [(0, .ref (L (0)))] → wX4_digest  σ post → W p l e R s m args below meth c H locs 0 0 (MQ below (va_Ql post (ss_B (ss_EC D A L wr cI cZ cS)) A) args s 0 0 A) (F0 m 0 ls []) := by
  have hx := F.1.1
  have hb := F.1.2.1
  have u_X4 : ∀ w ∈ u_ws RX4 TX4 9, w ∈ wsX4_digest := by decide +kernel
  have f_10 : (Cond.fieldLink RX4 10 "SmallSpaces" "frame" "LSmallSpaces$Frame;").before args s = true := F.1.2.2.2.2 _ (by decide +kernel)
  have u_X0 : ∀ w ∈ u_ws RX0 TX0 3, w ∈ wsX4_digest := by decide +kernel
  have f_160 : (Cond.fieldLink RX4 160 "SmallSpaces" "greedyDone" "I").before args s = true := F.1.2.2.2.2 _ (by decide +kernel)
  have f_184 : (Cond.fieldLink RX4 184 "SmallSpaces" "roundsDone" "I").before args s = true := F.1.2.2.2.2 _ (by decide +kernel)
  intro σ H locs ls hC hl hw
  unfold wX4_digest at hw
  refine lv_ldc2 (v := 167) hx hb F.1.2.2.2.1 (F.1.2.2.2.2 (.constantLong RX4 191 (167)) (by decide +kernel)) dX4_digest_0 ?_
  refine lv_aload_n hx hb dX4_digest_3 rfl (lv_at hl 0 rfl) ?_
  refine ss_get (C := RX4) (T := TX4) (N := 9) (ci := 4) (v := .ref (L (1))) F hC (0) u_X4 (Nat.le_of_ble_eq_true rfl) rfl rfl 0 (by decide) f_10 rfl dX4_digest_4 ?_
  refine ss_getN (C := RX0) (T := TX0) (N := 3) (ci := 0) (host := RX4) (v := .int (σ 1 0)) F hC (1) u_X0 (Nat.le_of_ble_eq_true rfl) rfl rfl 0 (by decide) (by decide +kernel) rfl dX4_digest_7 ?_
  refine ss_kl (ss_rS (As := [.long (167), .int (σ 1 0)]) (rest := []) F ((mX4_fold l D A L wr cI cZ cS σ 167 (σ 1 0)) _) gX4_digest_X4_fold rfl ⟨rfl, rfl⟩ dvX4_fold ⟨Nat.le_of_ble_eq_true rfl, Nat.le_of_ble_eq_true rfl⟩ (ss_preS F.2.2.2.2.1 F.2.2.2.2.2 hC hw) rfl hl.1 rfl (Nat.le_of_ble_eq_true rfl) dX4_digest_10 ⟨Nat.zero_le _, Nat.zero_le _⟩) hC (fun r2 σ1 H locs hC hw => ?_)
  refine lv_aload_n hx hb dX4_digest_13 rfl (lv_at hl 0 rfl) ?_
  refine ss_get (C := RX4) (T := TX4) (N := 9) (ci := 4) (v := .ref (L (1))) F hC (0) u_X4 (Nat.le_of_ble_eq_true rfl) rfl rfl 0 (by decide) f_10 rfl dX4_digest_14 ?_
  refine ss_getN (C := RX0) (T := TX0) (N := 3) (ci := 0) (host := RX4) (v := .int (σ1 1 1)) F hC (1) u_X0 (Nat.le_of_ble_eq_true rfl) rfl rfl 1 (by decide) (by decide +kernel) rfl dX4_digest_17 ?_
  refine ss_kl (ss_rS (As := [.long (r2), .int (σ1 1 1)]) (rest := []) F ((mX4_fold l D A L wr cI cZ cS σ1 r2 (σ1 1 1)) _) gX4_digest_X4_fold rfl ⟨rfl, rfl⟩ dvX4_fold ⟨Nat.le_of_ble_eq_true rfl, Nat.le_of_ble_eq_true rfl⟩ (ss_preS F.2.2.2.2.1 F.2.2.2.2.2 hC hw) rfl hl.1 rfl (Nat.le_of_ble_eq_true rfl) dX4_digest_20 ⟨Nat.zero_le _, Nat.zero_le _⟩) hC (fun r4 σ3 H locs hC hw => ?_)
  refine lv_lstore_n (lv' := [(1, .long (r4)), (0, .ref (L (0)))]) hx hb dX4_digest_23 rfl hl (by decide) rfl (fun ls hl => ?_)
  refine lv_iconst (v := 0) hx hb dX4_digest_24 (by decide) ?_
  refine lv_istore_n (lv' := [(3, .int (0)), (1, .long (r4)), (0, .ref (L (0)))]) hx hb dX4_digest_25 rfl hl (by decide) rfl (fun ls hl => ?_)
  obtain ⟨n_, hw⟩ := hw
  refine tX4_digest_26 F  _ n_ r4 0 σ3 _ _ _ hC (lv_sub hl [2, 1, 0] rfl) hw ?_
  · intro x1_8 x3_8 σ_8 H locs ls hC hl hw
    refine lv_iconst (v := 0) hx hb dX4_digest_49 (by decide) ?_
    refine lv_istore_n (lv' := [(3, .int (0)), (0, .ref (L (0))), (1, .long (x1_8))]) hx hb dX4_digest_50 rfl hl (by decide) rfl (fun ls hl => ?_)
    obtain ⟨n_, hw⟩ := hw
    refine tX4_digest_51 F  _ n_ x1_8 0 σ_8 _ _ _ hC (lv_sub hl [1, 2, 0] rfl) hw ?_
    · intro x1_12 x3_12 σ_12 H locs ls hC hl hw
      refine lv_iconst (v := 0) hx hb dX4_digest_82 (by decide) ?_
      refine lv_istore_n (lv' := [(3, .int (0)), (0, .ref (L (0))), (1, .long (x1_12))]) hx hb dX4_digest_83 rfl hl (by decide) rfl (fun ls hl => ?_)
      obtain ⟨n_, hw⟩ := hw
      refine tX4_digest_84 F  _ n_ x1_12 0 σ_12 _ _ _ hC (lv_sub hl [1, 2, 0] rfl) hw ?_
      · intro x1_17 x3_17 σ_17 H locs ls hC hl hw
        refine lv_lload_n hx hb dX4_digest_114 rfl (lv_at hl 1 rfl) ?_
        refine lv_aload_n hx hb dX4_digest_115 rfl (lv_at hl 0 rfl) ?_
        refine ss_get (C := RX4) (T := TX4) (N := 9) (ci := 4) (v := .int (σ_17 0 7)) F hC (0) u_X4 (Nat.le_of_ble_eq_true rfl) rfl rfl 7 (by decide) f_160 rfl dX4_digest_116 ?_
        refine ss_kl (ss_rS (As := [.long (x1_17), .int (σ_17 0 7)]) (rest := []) F ((mX4_fold l D A L wr cI cZ cS σ_17 x1_17 (σ_17 0 7)) _) gX4_digest_X4_fold rfl ⟨rfl, rfl⟩ dvX4_fold ⟨Nat.le_of_ble_eq_true rfl, Nat.le_of_ble_eq_true rfl⟩ (ss_preS F.2.2.2.2.1 F.2.2.2.2.2 hC hw) rfl hl.1 rfl (Nat.le_of_ble_eq_true rfl) dX4_digest_119 ⟨Nat.zero_le _, Nat.zero_le _⟩) hC (fun r19 σ18 H locs hC hw => ?_)
        refine lv_aload_n hx hb dX4_digest_122 rfl (lv_at hl 0 rfl) ?_
        refine ss_get (C := RX4) (T := TX4) (N := 9) (ci := 4) (v := .int (σ18 0 8)) F hC (0) u_X4 (Nat.le_of_ble_eq_true rfl) rfl rfl 8 (by decide) f_184 rfl dX4_digest_123 ?_
        refine ss_kl (ss_rS (As := [.long (r19), .int (σ18 0 8)]) (rest := []) F ((mX4_fold l D A L wr cI cZ cS σ18 r19 (σ18 0 8)) _) gX4_digest_X4_fold rfl ⟨rfl, rfl⟩ dvX4_fold ⟨Nat.le_of_ble_eq_true rfl, Nat.le_of_ble_eq_true rfl⟩ (ss_preS F.2.2.2.2.1 F.2.2.2.2.2 hC hw) rfl hl.1 rfl (Nat.le_of_ble_eq_true rfl) dX4_digest_126 ⟨Nat.zero_le _, Nat.zero_le _⟩) hC (fun r21 σ20 H locs hC hw => ?_)
        exact ss_lret F hC hw dX4_digest_129

theorem mX4_digest (l : Launch) (D : va_G) (A : Nat → Prop) (L : Nat → Nat) (wr : va_W) (cI cZ cS : ClassId) (σ : ss_S)   : ss_ML l yX4_digest wsX4_digest rmX4_digest (ss_EC D A L wr cI cZ cS) [.ref (L (0))] σ (fun post => wX4_digest  σ post) :=
  ss_ML.of (cc := cX4_digest) (nL := 4) (ret := (some .long)) (own := RX4) (by decide) rfl rfl (Nat.le_of_ble_eq_true rfl) (fun post p e R s m below meth c H locs ls F hC hl hw => bX4_digest F  σ H locs ls hC hl hw)
end
