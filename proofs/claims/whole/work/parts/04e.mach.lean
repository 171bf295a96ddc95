section
variable {p : Program} {l : Launch} {e : Env} {R : Room} {s : State} {m : MethodId} {args : Array Value} {below : List Frame} {meth : Method} {c : Code} {D : va_G} {A : Nat → Prop} {L : Nat → Nat} {wr : va_W} {cI cZ cS : ClassId}
set_option maxHeartbeats 4000000 in
set_option maxRecDepth 100000 in
theorem bX5_in {x0 : Int64} {x2 : Int64} {x4 : Int64} {post : Int32 → ss_S → Prop} (F : ss_F p R s m args meth c (ss_EM D A L wr cI cZ cS) cX5_in 6 wsX5_in RX5 (some .boolean) rmX5_in)  : ∀ (σ : ss_S) (H : Heap) (locs : List Loc) (ls : Array Slot), ss_C (ss_EM D A L wr cI cZ cS) σ s H locs → lv_has ls 6 [(0, .long (x0)), (2, .long (x2)), (4, .long (x4))] → wX5_in x0 x2 x4 σ post → W p l e R s m args below meth c H locs 0 0 (MQ below (va_Qi post (ss_B (ss_EM D A L wr cI cZ cS)) A) args s 0 0 A) (F0 m 0 ls []) := by
  have hx := F.1.1
  have hb := F.1.2.1
  intro σ H locs ls hC hl hw
  unfold wX5_in at hw
  refine lv_lload_n hx hb dX5_in_0 rfl (lv_at hl 0 rfl) ?_
  refine lv_lload_n hx hb dX5_in_1 rfl (lv_at hl 1 rfl) ?_
  refine W.lcmp hx hb dX5_in_2 ?_
  refine lv_if_lt (tgt := 17) hx hb dX5_in_3 (by decide) (fun hc => ?_) (fun hc => ?_)
  · replace hw := hw.1 hc
    refine lv_iconst (v := 0) hx hb dX5_in_17 (by decide) ?_
    exact ss_zret F hC rfl hw dX5_in_18
  · replace hw := hw.2 hc
    refine lv_lload_n hx hb dX5_in_6 rfl (lv_at hl 0 rfl) ?_
    refine lv_lload hx hb dX5_in_7 (lv_at hl 2 rfl) ?_
    refine W.lcmp hx hb dX5_in_9 ?_
    refine lv_if_gt (tgt := 17) hx hb dX5_in_10 (by decide) (fun hc => ?_) (fun hc => ?_)
    · replace hw := hw.1 hc
      refine lv_iconst (v := 0) hx hb dX5_in_17 (by decide) ?_
      exact ss_zret F hC rfl hw dX5_in_18
    · replace hw := hw.2 hc
      refine lv_iconst (v := 1) hx hb dX5_in_13 (by decide) ?_
      refine lv_goto (tgt := 18) hx hb dX5_in_14 (by decide) ?_
      exact ss_zret F hC rfl hw dX5_in_18

theorem mX5_in (l : Launch) (D : va_G) (A : Nat → Prop) (L : Nat → Nat) (wr : va_W) (cI cZ cS : ClassId) (σ : ss_S) (x0 : Int64) (x2 : Int64) (x4 : Int64)  : ss_MI l yX5_in wsX5_in rmX5_in (ss_EM D A L wr cI cZ cS) [.long (x0), .long (x2), .long (x4)] σ (fun post => wX5_in x0 x2 x4 σ post) :=
  ss_MI.of (cc := cX5_in) (nL := 6) (ret := (some .boolean)) (own := RX5) (by decide) rfl rfl (Nat.le_of_ble_eq_true rfl) (fun post p e R s m below meth c H locs ls F hC hl hw => bX5_in F  σ H locs ls hC hl hw)

set_option maxHeartbeats 4000000 in
set_option maxRecDepth 100000 in
theorem tX5_power_4 {x0 : Int32} {x1 : Int32} {post : Int32 → ss_S → Prop} (F : ss_F p R s m args meth c (ss_EM D A L wr cI cZ cS) cX5_power 4 wsX5_power RX5 (some .int) rmX5_power)  (k19 : Int32 → Int32 → ss_S → Prop) : ∀ (n : Nat) (x2 : Int32) (x3 : Int32) (σ : ss_S) (H : Heap) (locs : List Loc) (ls : Array Slot), ss_C (ss_EM D A L wr cI cZ cS) σ s H locs → lv_has ls 4 [(0, .int (x0)), (1, .int (x1)), (2, .int (x2)), (3, .int (x3))] → lX5_power_4 x0 x1 post k19 n x2 x3 σ →
    (∀ (x2 : Int32) (x3 : Int32) (σ : ss_S) (H : Heap) (locs : List Loc) (ls : Array Slot), ss_C (ss_EM D A L wr cI cZ cS) σ s H locs → lv_has ls 4 [(2, .int (x2))] → k19 x2 x3 σ → W p l e R s m args below meth c H locs 0 0 (MQ below (va_Qi post (ss_B (ss_EM D A L wr cI cZ cS)) A) args s 0 0 A) (F0 m 19 ls [])) →
    W p l e R s m args below meth c H locs 0 0 (MQ below (va_Qi post (ss_B (ss_EM D A L wr cI cZ cS)) A) args s 0 0 A) (F0 m 4 ls []) := by
  have hx := F.1.1
  have hb := F.1.2.1
  intro n
  induction n with
  | zero => intro x2 x3 σ H locs ls hC hl hw; exact hw.elim
  | succ n ih =>
    intro x2 x3 σ H locs ls hC hl hw hk19
    refine lv_iload_n hx hb dX5_power_4 rfl (lv_at hl 3 rfl) ?_
    refine lv_iload_n hx hb dX5_power_5 rfl (lv_at hl 1 rfl) ?_
    refine lv_icmp_ge (tgt := 19) hx hb dX5_power_6 (by decide) (fun hc => ?_) (fun hc => ?_)
    · replace hw := hw.1 hc
      exact hk19 x2 x3 σ _ _ _ hC (lv_sub hl [2] rfl) hw
    · replace hw := hw.2 hc
      refine lv_iload_n hx hb dX5_power_9 rfl (lv_at hl 2 rfl) ?_
      refine lv_iload_n hx hb dX5_power_10 rfl (lv_at hl 0 rfl) ?_
      refine lv_imul hx hb dX5_power_11 ?_
      refine lv_istore_n (lv' := [(2, .int (x2 * x0)), (0, .int (x0)), (1, .int (x1)), (3, .int (x3))]) hx hb dX5_power_12 rfl hl (by decide) rfl (fun ls hl => ?_)
      refine lv_iinc (v := x3 + 1) (lv' := [(3, .int (x3 + 1)), (2, .int (x2 * x0)), (0, .int (x0)), (1, .int (x1))]) hx hb dX5_power_13 hl (k := 3) rfl rfl (by decide) rfl (fun ls hl => ?_)
      refine lv_goto (tgt := 4) hx hb dX5_power_16 (by decide) ?_
      exact ih (x2 * x0) (x3 + 1) σ _ _ _ hC (lv_sub hl [2, 3, 1, 0] rfl) hw hk19

set_option maxHeartbeats 4000000 in
set_option maxRecDepth 100000 in
theorem bX5_power {x0 : Int32} {x1 : Int32} {post : Int32 → ss_S → Prop} (F : ss_F p R s m args meth c (ss_EM D A L wr cI cZ cS) cX5_power 4 wsX5_power RX5 (some .int) rmX5_power)  : ∀ (σ : ss_S) (H : Heap) (locs : List Loc) (ls : Array Slot), ss_C (ss_EM D A L wr cI cZ cS) σ s H locs → lv_has ls 4 [(0, .int (x0)), (1, .int (x1))] → wX5_power x0 x1 σ post → W p l e R s m args below meth c H locs 0 0 (MQ below (va_Qi post (ss_B (ss_EM D A L wr cI cZ cS)) A) args s 0 0 A) (F0 m 0 ls []) := by
  have hx := F.1.1
  have hb := F.1.2.1
  intro σ H locs ls hC hl hw
  unfold wX5_power at hw
  refine lv_iconst (v := 1) hx hb dX5_power_0 (by decide) ?_
  refine lv_istore_n (lv' := [(2, .int (1)), (0, .int (x0)), (1, .int (x1))]) hx hb dX5_power_1 rfl hl (by decide) rfl (fun ls hl => ?_)
  refine lv_iconst (v := 0) hx hb dX5_power_2 (by decide) ?_
  refine lv_istore_n (lv' := [(3, .int (0)), (2, .int (1)), (0, .int (x0)), (1, .int (x1))]) hx hb dX5_power_3 rfl hl (by decide) rfl (fun ls hl => ?_)
  obtain ⟨n_, hw⟩ := hw
  refine tX5_power_4 F  _ n_ 1 0 σ _ _ _ hC (lv_sub hl [2, 3, 1, 0] rfl) hw ?_
  · intro x2_1 x3_1 σ_1 H locs ls hC hl hw
    refine lv_iload_n hx hb dX5_power_19 rfl (lv_at hl 0 rfl) ?_
    exact ss_iret F hC hw dX5_power_20

theorem mX5_power (l : Launch) (D : va_G) (A : Nat → Prop) (L : Nat → Nat) (wr : va_W) (cI cZ cS : ClassId) (σ : ss_S) (x0 : Int32) (x1 : Int32)  : ss_MI l yX5_power wsX5_power rmX5_power (ss_EM D A L wr cI cZ cS) [.int (x0), .int (x1)] σ (fun post => wX5_power x0 x1 σ post) :=
  ss_MI.of (cc := cX5_power) (nL := 4) (ret := (some .int)) (own := RX5) (by decide) rfl rfl (Nat.le_of_ble_eq_true rfl) (fun post p e R s m below meth c H locs ls F hC hl hw => bX5_power F  σ H locs ls hC hl hw)

set_option maxHeartbeats 4000000 in
set_option maxRecDepth 100000 in
theorem tX5_begin_17  {post : ss_S → Prop} (F : ss_F p R s m args meth c (ss_EM D A L wr cI cZ cS) cX5_begin 2 wsX5_begin RX5 none rmX5_begin)  (k36 : Int32 → ss_S → Prop) : ∀ (n : Nat) (x1 : Int32) (σ : ss_S) (H : Heap) (locs : List Loc) (ls : Array Slot), ss_C (ss_EM D A L wr cI cZ cS) σ s H locs → lv_has ls 2 [(0, .ref (L (0))), (1, .int (x1))] → lX5_begin_17 post k36 n x1 σ →
    (∀ (x1 : Int32) (σ : ss_S) (H : Heap) (locs : List Loc) (ls : Array Slot), ss_C (ss_EM D A L wr cI cZ cS) σ s H locs → lv_has ls 2 [(0, .ref (L (0)))] → k36 x1 σ → W p l e R s m args below meth c H locs 0 0 (MQ below (va_Qv post (ss_B (ss_EM D A L wr cI cZ cS)) A) args s 0 0 A) (F0 m 36 ls [])) →
    W p l e R s m args below meth c H locs 0 0 (MQ below (va_Qv post (ss_B (ss_EM D A L wr cI cZ cS)) A) args s 0 0 A) (F0 m 17 ls []) := by
  have hx := F.1.1
  have hb := F.1.2.1
  have u_X5 : ∀ w ∈ u_ws RX5 TX5 16, w ∈ wsX5_begin := by decide +kernel
  have f_20 : (Cond.fieldLink RX5 20 "SmallSpacesModel" "dims" "[I").before args s = true := F.1.2.2.2.2 _ (by decide +kernel)
  intro n
  induction n with
  | zero => intro x1 σ H locs ls hC hl hw; exact hw.elim
  | succ n ih =>
    intro x1 σ H locs ls hC hl hw hk36
    refine lv_iload_n hx hb dX5_begin_17 rfl (lv_at hl 1 rfl) ?_
    refine lv_bipush (v := 12) hx hb dX5_begin_18 (by decide) ?_
    refine lv_icmp_ge (tgt := 36) hx hb dX5_begin_20 (by decide) (fun hc => ?_) (fun hc => ?_)
    · replace hw := hw.1 hc
      exact hk36 x1 σ _ _ _ hC (lv_sub hl [0] rfl) hw
    · replace hw := hw.2 hc
      refine lv_aload_n hx hb dX5_begin_23 rfl (lv_at hl 0 rfl) ?_
      refine ss_get (C := RX5) (T := TX5) (N := 16) (ci := 5) (v := .ref (L (4))) F hC (0) u_X5 (Nat.le_of_ble_eq_true rfl) rfl rfl 9 (by decide) f_20 rfl dX5_begin_24 ?_
      refine lv_iload_n hx hb dX5_begin_27 rfl (lv_at hl 1 rfl) ?_
      refine lv_iconst (v := 0) hx hb dX5_begin_28 (by decide) ?_
      refine ss_iast F hC (4) 0 (Nat.le_of_ble_eq_true rfl) (fun _ => rfl) rfl hw.1 dX5_begin_29 (fun H locs hC => ?_)
      replace hw := hw.2
      refine lv_iinc (v := x1 + 1) (lv' := [(1, .int (x1 + 1)), (0, .ref (L (0)))]) hx hb dX5_begin_30 hl (k := 1) rfl rfl (by decide) rfl (fun ls hl => ?_)
      refine lv_goto (tgt := 17) hx hb dX5_begin_33 (by decide) ?_
      exact ih (x1 + 1) (u2 σ 4 (Int32.toNatClampNeg x1) 0) _ _ _ hC (lv_sub hl [1, 0] rfl) hw hk36

set_option maxHeartbeats 4000000 in
set_option maxRecDepth 100000 in
theorem tX5_begin_43  {post : ss_S → Prop} (F : ss_F p R s m args meth c (ss_EM D A L wr cI cZ cS) cX5_begin 2 wsX5_begin RX5 none rmX5_begin)  (k78 : Int32 → ss_S → Prop) : ∀ (n : Nat) (x1 : Int32) (σ : ss_S) (H : Heap) (locs : List Loc) (ls : Array Slot), ss_C (ss_EM D A L wr cI cZ cS) σ s H locs → lv_has ls 2 [(0, .ref (L (0))), (1, .int (x1))] → lX5_begin_43 post k78 n x1 σ →
    (∀ (x1 : Int32) (σ : ss_S) (H : Heap) (locs : List Loc) (ls : Array Slot), ss_C (ss_EM D A L wr cI cZ cS) σ s H locs → lv_has ls 2 [] → k78 x1 σ → W p l e R s m args below meth c H locs 0 0 (MQ below (va_Qv post (ss_B (ss_EM D A L wr cI cZ cS)) A) args s 0 0 A) (F0 m 78 ls [])) →
    W p l e R s m args below meth c H locs 0 0 (MQ below (va_Qv post (ss_B (ss_EM D A L wr cI cZ cS)) A) args s 0 0 A) (F0 m 43 ls []) := by
  have hx := F.1.1
  have hb := F.1.2.1
  have u_X5 : ∀ w ∈ u_ws RX5 TX5 16, w ∈ wsX5_begin := by decide +kernel
  have f_42 : (Cond.fieldLink RX5 42 "SmallSpacesModel" "n" "I").before args s = true := F.1.2.2.2.2 _ (by decide +kernel)
  have f_7 : (Cond.fieldLink RX5 7 "SmallSpacesModel" "images" "[I").before args s = true := F.1.2.2.2.2 _ (by decide +kernel)
  have f_38 : (Cond.fieldLink RX5 38 "SmallSpacesModel" "q" "I").before args s = true := F.1.2.2.2.2 _ (by decide +kernel)
  intro n
  induction n with
  | zero => intro x1 σ H locs ls hC hl hw; exact hw.elim
  | succ n ih =>
    intro x1 σ H locs ls hC hl hw hk78
    refine lv_iload_n hx hb dX5_begin_43 rfl (lv_at hl 1 rfl) ?_
    refine lv_aload_n hx hb dX5_begin_44 rfl (lv_at hl 0 rfl) ?_
    refine ss_get (C := RX5) (T := TX5) (N := 16) (ci := 5) (v := .int (σ 0 1)) F hC (0) u_X5 (Nat.le_of_ble_eq_true rfl) rfl rfl 1 (by decide) f_42 rfl dX5_begin_45 ?_
    refine lv_icmp_ge (tgt := 78) hx hb dX5_begin_48 (by decide) (fun hc => ?_) (fun hc => ?_)
    · replace hw := hw.1 hc
      exact hk78 x1 σ _ _ _ hC (lv_sub hl [] rfl) hw
    · replace hw := hw.2 hc
      refine lv_aload_n hx hb dX5_begin_51 rfl (lv_at hl 0 rfl) ?_
      refine ss_get (C := RX5) (T := TX5) (N := 16) (ci := 5) (v := .ref (L (1))) F hC (0) u_X5 (Nat.le_of_ble_eq_true rfl) rfl rfl 3 (by decide) f_7 rfl dX5_begin_52 ?_
      refine lv_iload_n hx hb dX5_begin_55 rfl (lv_at hl 1 rfl) ?_
      refine lv_aload_n hx hb dX5_begin_56 rfl (lv_at hl 0 rfl) ?_
      refine ss_get (C := RX5) (T := TX5) (N := 16) (ci := 5) (v := .int (σ 0 0)) F hC (0) u_X5 (Nat.le_of_ble_eq_true rfl) rfl rfl 0 (by decide) f_38 rfl dX5_begin_57 ?_
      refine lv_aload_n hx hb dX5_begin_60 rfl (lv_at hl 0 rfl) ?_
      refine ss_get (C := RX5) (T := TX5) (N := 16) (ci := 5) (v := .int (σ 0 1)) F hC (0) u_X5 (Nat.le_of_ble_eq_true rfl) rfl rfl 1 (by decide) f_42 rfl dX5_begin_61 ?_
      refine lv_iconst (v := 1) hx hb dX5_begin_64 (by decide) ?_
      refine lv_isub hx hb dX5_begin_65 ?_
      refine lv_iload_n hx hb dX5_begin_66 rfl (lv_at hl 1 rfl) ?_
      refine lv_isub hx hb dX5_begin_67 ?_
      refine ss_ki (ss_rS (As := [.int (σ 0 0), .int (((σ 0 1) - 1) - x1)]) (rest := [.int (x1), .ref (L (1))]) F ((mX5_power l D A L wr cI cZ cS σ (σ 0 0) (((σ 0 1) - 1) - x1)) _) gX5_begin_X5_power rfl ⟨rfl, rfl⟩ dvX5_power ⟨Nat.le_of_ble_eq_true rfl, Nat.le_of_ble_eq_true rfl⟩ (ss_preS F.2.2.2.2.1 F.2.2.2.2.2 hC hw) rfl hl.1 rfl (Nat.le_of_ble_eq_true rfl) dX5_begin_68 ⟨Nat.zero_le _, Nat.zero_le _⟩) hC (fun r5 σ4 H locs hC hw => ?_)
      refine ss_iast F hC (1) 0 (Nat.le_of_ble_eq_true rfl) (fun _ => rfl) rfl hw.1 dX5_begin_71 (fun H locs hC => ?_)
      replace hw := hw.2
      refine lv_iinc (v := x1 + 1) (lv' := [(1, .int (x1 + 1)), (0, .ref (L (0)))]) hx hb dX5_begin_72 hl (k := 1) rfl rfl (by decide) rfl (fun ls hl => ?_)
      refine lv_goto (tgt := 43) hx hb dX5_begin_75 (by decide) ?_
      exact ih (x1 + 1) (u2 σ4 1 (Int32.toNatClampNeg x1) r5) _ _ _ hC (lv_sub hl [1, 0] rfl) hw hk78

set_option maxHeartbeats 4000000 in
set_option maxRecDepth 100000 in
theorem bX5_begin  {post : ss_S → Prop} (F : ss_F p R s m args meth c (ss_EM D A L wr cI cZ cS) cX5_begin 2 wsX5_begin RX5 none rmX5_begin)  : ∀ (σ : ss_S) (H : Heap) (locs : List Loc) (ls : Array Slot), ss_C (ss_EM D A L wr cI cZ cS) σ s H locs → lv_has ls 2 [(0, .ref (L (0)))] → wX5_begin  σ post → W p l e R s m args below meth c H locs 0 0 (MQ below (va_Qv post (ss_B (ss_EM D A L wr cI cZ cS)) A) args s 0 0 A) (F0 m 0 ls []) := by
  have hx := F.1.1
  have hb := F.1.2.1
  have u_X5 : ∀ w ∈ u_ws RX5 TX5 16, w ∈ wsX5_begin := by decide +kernel
  have f_38 : (Cond.fieldLink RX5 38 "SmallSpacesModel" "q" "I").before args s = true := F.1.2.2.2.2 _ (by decide +kernel)
  have f_42 : (Cond.fieldLink RX5 42 "SmallSpacesModel" "n" "I").before args s = true := F.1.2.2.2.2 _ (by decide +kernel)
  have f_52 : (Cond.fieldLink RX5 52 "SmallSpacesModel" "vectors" "I").before args s = true := F.1.2.2.2.2 _ (by decide +kernel)
  have f_55 : (Cond.fieldLink RX5 55 "SmallSpacesModel" "heapMany" "I").before args s = true := F.1.2.2.2.2 _ (by decide +kernel)
  intro σ H locs ls hC hl hw
  unfold wX5_begin at hw
  refine lv_aload_n hx hb dX5_begin_0 rfl (lv_at hl 0 rfl) ?_
  refine lv_aload_n hx hb dX5_begin_1 rfl (lv_at hl 0 rfl) ?_
  refine ss_get (C := RX5) (T := TX5) (N := 16) (ci := 5) (v := .int (σ 0 0)) F hC (0) u_X5 (Nat.le_of_ble_eq_true rfl) rfl rfl 0 (by decide) f_38 rfl dX5_begin_2 ?_
  refine lv_aload_n hx hb dX5_begin_5 rfl (lv_at hl 0 rfl) ?_
  refine ss_get (C := RX5) (T := TX5) (N := 16) (ci := 5) (v := .int (σ 0 1)) F hC (0) u_X5 (Nat.le_of_ble_eq_true rfl) rfl rfl 1 (by decide) f_42 rfl dX5_begin_6 ?_
  refine ss_ki (ss_rS (As := [.int (σ 0 0), .int (σ 0 1)]) (rest := [.ref (L (0))]) F ((mX5_power l D A L wr cI cZ cS σ (σ 0 0) (σ 0 1)) _) gX5_begin_X5_power rfl ⟨rfl, rfl⟩ dvX5_power ⟨Nat.le_of_ble_eq_true rfl, Nat.le_of_ble_eq_true rfl⟩ (ss_preS F.2.2.2.2.1 F.2.2.2.2.2 hC hw) rfl hl.1 rfl (Nat.le_of_ble_eq_true rfl) dX5_begin_9 ⟨Nat.zero_le _, Nat.zero_le _⟩) hC (fun r2 σ1 H locs hC hw => ?_)
  refine ss_put (C := RX5) (T := TX5) (N := 16) (ci := 5) F hC (0) tyX5 tyX5_ok nmX5 u_X5 (Nat.le_of_ble_eq_true rfl) rfl rfl 2 (by decide) f_52 rfl (by decide +kernel) (Nat.le_of_ble_eq_true rfl) rfl dX5_begin_12 (fun H locs hC => ?_)
  refine lv_iconst (v := 0) hx hb dX5_begin_15 (by decide) ?_
  refine lv_istore_n (lv' := [(1, .int (0)), (0, .ref (L (0)))]) hx hb dX5_begin_16 rfl hl (by decide) rfl (fun ls hl => ?_)
  obtain ⟨n_, hw⟩ := hw
  refine tX5_begin_17 F  _ n_ 0 (u2 σ1 0 2 r2) _ _ _ hC (lv_sub hl [1, 0] rfl) hw ?_
  · intro x1_3 σ_3 H locs ls hC hl hw
    refine lv_aload_n hx hb dX5_begin_36 rfl (lv_at hl 0 rfl) ?_
    refine lv_iconst (v := 0) hx hb dX5_begin_37 (by decide) ?_
    refine ss_put (C := RX5) (T := TX5) (N := 16) (ci := 5) F hC (0) tyX5 tyX5_ok nmX5 u_X5 (Nat.le_of_ble_eq_true rfl) rfl rfl 13 (by decide) f_55 rfl (by decide +kernel) (Nat.le_of_ble_eq_true rfl) rfl dX5_begin_38 (fun H locs hC => ?_)
    refine lv_iconst (v := 0) hx hb dX5_begin_41 (by decide) ?_
    refine lv_istore_n (lv' := [(1, .int (0)), (0, .ref (L (0)))]) hx hb dX5_begin_42 rfl hl (by decide) rfl (fun ls hl => ?_)
    obtain ⟨n_, hw⟩ := hw
    refine tX5_begin_43 F  _ n_ 0 (u2 σ_3 0 13 0) _ _ _ hC (lv_sub hl [1, 0] rfl) hw ?_
    · intro x1_6 σ_6 H locs ls hC hl hw
      exact ss_vret F hC hw dX5_begin_78

theorem mX5_begin (l : Launch) (D : va_G) (A : Nat → Prop) (L : Nat → Nat) (wr : va_W) (cI cZ cS : ClassId) (σ : ss_S)   : ss_MV l yX5_begin wsX5_begin rmX5_begin (ss_EM D A L wr cI cZ cS) [.ref (L (0))] σ (fun post => wX5_begin  σ post) :=
  ss_MV.of (cc := cX5_begin) (nL := 2) (ret := none) (own := RX5) (by decide) rfl rfl (Nat.le_of_ble_eq_true rfl) (fun post p e R s m below meth c H locs ls F hC hl hw => bX5_begin F  σ H locs ls hC hl hw)

set_option maxHeartbeats 4000000 in
set_option maxRecDepth 100000 in
theorem bX5_field {x1 : Int32} {x2 : Int32} {post : Int32 → ss_S → Prop} (F : ss_F p R s m args meth c (ss_EM D A L wr cI cZ cS) cX5_field 4 wsX5_field RX5 (some .int) rmX5_field)  : ∀ (σ : ss_S) (H : Heap) (locs : List Loc) (ls : Array Slot), ss_C (ss_EM D A L wr cI cZ cS) σ s H locs → lv_has ls 4 [(0, .ref (L (0))), (1, .int (x1)), (2, .int (x2))] → wX5_field x1 x2 σ post → W p l e R s m args below meth c H locs 0 0 (MQ below (va_Qi post (ss_B (ss_EM D A L wr cI cZ cS)) A) args s 0 0 A) (F0 m 0 ls []) := by
  have hx := F.1.1
  have hb := F.1.2.1
  have u_X5 : ∀ w ∈ u_ws RX5 TX5 16, w ∈ wsX5_field := by decide +kernel
  have f_38 : (Cond.fieldLink RX5 38 "SmallSpacesModel" "q" "I").before args s = true := F.1.2.2.2.2 _ (by decide +kernel)
  have f_42 : (Cond.fieldLink RX5 42 "SmallSpacesModel" "n" "I").before args s = true := F.1.2.2.2.2 _ (by decide +kernel)
  have f_52 : (Cond.fieldLink RX5 52 "SmallSpacesModel" "vectors" "I").before args s = true := F.1.2.2.2.2 _ (by decide +kernel)
  intro σ H locs ls hC hl hw
  unfold wX5_field at hw
  refine lv_iload_n hx hb dX5_field_0 rfl (lv_at hl 1 rfl) ?_
  refine lv_iconst (v := 2) hx hb dX5_field_1 (by decide) ?_
  refine lv_icmp_ne (tgt := 10) hx hb dX5_field_2 (by decide) (fun hc => ?_) (fun hc => ?_)
  · replace hw := hw.1 hc
    refine lv_iload_n hx hb dX5_field_10 rfl (lv_at hl 1 rfl) ?_
    refine lv_iconst (v := 3) hx hb dX5_field_11 (by decide) ?_
    refine lv_icmp_ne (tgt := 19) hx hb dX5_field_12 (by decide) (fun hc => ?_) (fun hc => ?_)
    · replace hw := hw.1 hc
      refine lv_iload_n hx hb dX5_field_19 rfl (lv_at hl 1 rfl) ?_
      refine lv_iconst (v := 5) hx hb dX5_field_20 (by decide) ?_
      refine lv_icmp_ne (tgt := 28) hx hb dX5_field_21 (by decide) (fun hc => ?_) (fun hc => ?_)
      · replace hw := hw.1 hc
        refine lv_iconst (v := 0) hx hb dX5_field_28 (by decide) ?_
        refine lv_istore_n (lv' := [(3, .int (0)), (0, .ref (L (0))), (1, .int (x1)), (2, .int (x2))]) hx hb dX5_field_29 rfl hl (by decide) rfl (fun ls hl => ?_)
        refine lv_iload_n hx hb dX5_field_30 rfl (lv_at hl 3 rfl) ?_
        refine lv_i2l hx hb dX5_field_31 rfl ?_
        refine lv_lconst (v := 1) hx hb dX5_field_32 (by decide) ?_
        refine lv_iload_n hx hb dX5_field_33 rfl (lv_at hl 0 rfl) ?_
        refine lv_i2l hx hb dX5_field_34 rfl ?_
        refine ss_ki (ss_rS (As := [.long (Int32.toInt64 x2), .long (1), .long (Int32.toInt64 0)]) (rest := []) F ((mX5_in l D A L wr cI cZ cS σ (Int32.toInt64 x2) 1 (Int32.toInt64 0)) _) gX5_field_X5_in rfl ⟨rfl, rfl⟩ dvX5_in ⟨Nat.le_of_ble_eq_true rfl, Nat.le_of_ble_eq_true rfl⟩ (ss_preS F.2.2.2.2.1 F.2.2.2.2.2 hC hw) rfl hl.1 rfl (Nat.le_of_ble_eq_true rfl) dX5_field_35 ⟨Nat.zero_le _, Nat.zero_le _⟩) hC (fun r2 σ1 H locs hC hw => ?_)
        refine lv_if_ne (tgt := 44) hx hb dX5_field_38 (by decide) (fun hc => ?_) (fun hc => ?_)
        · replace hw := hw.1 hc
          refine lv_aload_n hx hb dX5_field_44 rfl (lv_at hl 1 rfl) ?_
          refine lv_iload_n hx hb dX5_field_45 rfl (lv_at hl 2 rfl) ?_
          refine ss_put (C := RX5) (T := TX5) (N := 16) (ci := 5) F hC (0) tyX5 tyX5_ok nmX5 u_X5 (Nat.le_of_ble_eq_true rfl) rfl rfl 0 (by decide) f_38 rfl (by decide +kernel) (Nat.le_of_ble_eq_true rfl) rfl dX5_field_46 (fun H locs hC => ?_)
          refine lv_aload_n hx hb dX5_field_49 rfl (lv_at hl 1 rfl) ?_
          refine lv_iload_n hx hb dX5_field_50 rfl (lv_at hl 3 rfl) ?_
          refine ss_put (C := RX5) (T := TX5) (N := 16) (ci := 5) F hC (0) tyX5 tyX5_ok nmX5 u_X5 (Nat.le_of_ble_eq_true rfl) rfl rfl 1 (by decide) f_42 rfl (by decide +kernel) (Nat.le_of_ble_eq_true rfl) rfl dX5_field_51 (fun H locs hC => ?_)
          refine lv_aload_n hx hb dX5_field_54 rfl (lv_at hl 1 rfl) ?_
          refine ss_kv (ss_rV (C := RX5) (As := []) (rest := []) F ((mX5_begin l D A L wr cI cZ cS (u2 (u2 σ1 0 0 x1) 0 1 x2) ) _) gX5_field_X5_begin rfl ⟨rfl, rfl⟩ ⟨rfl, dvX5_begin⟩ ⟨Nat.le_of_ble_eq_true rfl, Nat.le_of_ble_eq_true rfl⟩ (ss_preV F.2.2.2.2.1 F.2.2.2.2.2 hC (ss_rec (C := RX5) (T := TX5) (N := 16) (ci := 5) F.2.2.2.2.1 hC (0) (Nat.le_of_ble_eq_true rfl) rfl rfl) hw) rfl hl.1 rfl (Nat.le_of_ble_eq_true rfl) dX5_field_55 ⟨Nat.zero_le _, Nat.zero_le _⟩) hC (fun σ3 H locs hC hw => ?_)
          refine lv_aload_n hx hb dX5_field_58 rfl (lv_at hl 1 rfl) ?_
          refine ss_get (C := RX5) (T := TX5) (N := 16) (ci := 5) (v := .int (σ3 0 2)) F hC (0) u_X5 (Nat.le_of_ble_eq_true rfl) rfl rfl 2 (by decide) f_52 rfl dX5_field_59 ?_
          exact ss_iret F hC hw dX5_field_62
        · replace hw := hw.2 hc
          refine lv_bipush (v := -102) hx hb dX5_field_41 (by decide) ?_
          exact ss_iret F hC hw dX5_field_43
      · replace hw := hw.2 hc
        refine lv_iconst (v := 4) hx hb dX5_field_24 (by decide) ?_
        refine lv_goto (tgt := 29) hx hb dX5_field_25 (by decide) ?_
        refine lv_istore_n (lv' := [(3, .int (4)), (0, .ref (L (0))), (1, .int (x1)), (2, .int (x2))]) hx hb dX5_field_29 rfl hl (by decide) rfl (fun ls hl => ?_)
        refine lv_iload_n hx hb dX5_field_30 rfl (lv_at hl 3 rfl) ?_
        refine lv_i2l hx hb dX5_field_31 rfl ?_
        refine lv_lconst (v := 1) hx hb dX5_field_32 (by decide) ?_
        refine lv_iload_n hx hb dX5_field_33 rfl (lv_at hl 0 rfl) ?_
        refine lv_i2l hx hb dX5_field_34 rfl ?_
        refine ss_ki (ss_rS (As := [.long (Int32.toInt64 x2), .long (1), .long (Int32.toInt64 4)]) (rest := []) F ((mX5_in l D A L wr cI cZ cS σ (Int32.toInt64 x2) 1 (Int32.toInt64 4)) _) gX5_field_X5_in rfl ⟨rfl, rfl⟩ dvX5_in ⟨Nat.le_of_ble_eq_true rfl, Nat.le_of_ble_eq_true rfl⟩ (ss_preS F.2.2.2.2.1 F.2.2.2.2.2 hC hw) rfl hl.1 rfl (Nat.le_of_ble_eq_true rfl) dX5_field_35 ⟨Nat.zero_le _, Nat.zero_le _⟩) hC (fun r5 σ4 H locs hC hw => ?_)
        refine lv_if_ne (tgt := 44) hx hb dX5_field_38 (by decide) (fun hc => ?_) (fun hc => ?_)
        · replace hw := hw.1 hc
          refine lv_aload_n hx hb dX5_field_44 rfl (lv_at hl 1 rfl) ?_
          refine lv_iload_n hx hb dX5_field_45 rfl (lv_at hl 2 rfl) ?_
          refine ss_put (C := RX5) (T := TX5) (N := 16) (ci := 5) F hC (0) tyX5 tyX5_ok nmX5 u_X5 (Nat.le_of_ble_eq_true rfl) rfl rfl 0 (by decide) f_38 rfl (by decide +kernel) (Nat.le_of_ble_eq_true rfl) rfl dX5_field_46 (fun H locs hC => ?_)
          refine lv_aload_n hx hb dX5_field_49 rfl (lv_at hl 1 rfl) ?_
          refine lv_iload_n hx hb dX5_field_50 rfl (lv_at hl 3 rfl) ?_
          refine ss_put (C := RX5) (T := TX5) (N := 16) (ci := 5) F hC (0) tyX5 tyX5_ok nmX5 u_X5 (Nat.le_of_ble_eq_true rfl) rfl rfl 1 (by decide) f_42 rfl (by decide +kernel) (Nat.le_of_ble_eq_true rfl) rfl dX5_field_51 (fun H locs hC => ?_)
          refine lv_aload_n hx hb dX5_field_54 rfl (lv_at hl 1 rfl) ?_
          refine ss_kv (ss_rV (C := RX5) (As := []) (rest := []) F ((mX5_begin l D A L wr cI cZ cS (u2 (u2 σ4 0 0 x1) 0 1 x2) ) _) gX5_field_X5_begin rfl ⟨rfl, rfl⟩ ⟨rfl, dvX5_begin⟩ ⟨Nat.le_of_ble_eq_true rfl, Nat.le_of_ble_eq_true rfl⟩ (ss_preV F.2.2.2.2.1 F.2.2.2.2.2 hC (ss_rec (C := RX5) (T := TX5) (N := 16) (ci := 5) F.2.2.2.2.1 hC (0) (Nat.le_of_ble_eq_true rfl) rfl rfl) hw) rfl hl.1 rfl (Nat.le_of_ble_eq_true rfl) dX5_field_55 ⟨Nat.zero_le _, Nat.zero_le _⟩) hC (fun σ6 H locs hC hw => ?_)
          refine lv_aload_n hx hb dX5_field_58 rfl (lv_at hl 1 rfl) ?_
          refine ss_get (C := RX5) (T := TX5) (N := 16) (ci := 5) (v := .int (σ6 0 2)) F hC (0) u_X5 (Nat.le_of_ble_eq_true rfl) rfl rfl 2 (by decide) f_52 rfl dX5_field_59 ?_
          exact ss_iret F hC hw dX5_field_62
        · replace hw := hw.2 hc
          refine lv_bipush (v := -102) hx hb dX5_field_41 (by decide) ?_
          exact ss_iret F hC hw dX5_field_43
    · replace hw := hw.2 hc
      refine lv_iconst (v := 5) hx hb dX5_field_15 (by decide) ?_
      refine lv_goto (tgt := 29) hx hb dX5_field_16 (by decide) ?_
      refine lv_istore_n (lv' := [(3, .int (5)), (0, .ref (L (0))), (1, .int (x1)), (2, .int (x2))]) hx hb dX5_field_29 rfl hl (by decide) rfl (fun ls hl => ?_)
      refine lv_iload_n hx hb dX5_field_30 rfl (lv_at hl 3 rfl) ?_
      refine lv_i2l hx hb dX5_field_31 rfl ?_
      refine lv_lconst (v := 1) hx hb dX5_field_32 (by decide) ?_
      refine lv_iload_n hx hb dX5_field_33 rfl (lv_at hl 0 rfl) ?_
      refine lv_i2l hx hb dX5_field_34 rfl ?_
      refine ss_ki (ss_rS (As := [.long (Int32.toInt64 x2), .long (1), .long (Int32.toInt64 5)]) (rest := []) F ((mX5_in l D A L wr cI cZ cS σ (Int32.toInt64 x2) 1 (Int32.toInt64 5)) _) gX5_field_X5_in rfl ⟨rfl, rfl⟩ dvX5_in ⟨Nat.le_of_ble_eq_true rfl, Nat.le_of_ble_eq_true rfl⟩ (ss_preS F.2.2.2.2.1 F.2.2.2.2.2 hC hw) rfl hl.1 rfl (Nat.le_of_ble_eq_true rfl) dX5_field_35 ⟨Nat.zero_le _, Nat.zero_le _⟩) hC (fun r8 σ7 H locs hC hw => ?_)
      refine lv_if_ne (tgt := 44) hx hb dX5_field_38 (by decide) (fun hc => ?_) (fun hc => ?_)
      · replace hw := hw.1 hc
        refine lv_aload_n hx hb dX5_field_44 rfl (lv_at hl 1 rfl) ?_
        refine lv_iload_n hx hb dX5_field_45 rfl (lv_at hl 2 rfl) ?_
        refine ss_put (C := RX5) (T := TX5) (N := 16) (ci := 5) F hC (0) tyX5 tyX5_ok nmX5 u_X5 (Nat.le_of_ble_eq_true rfl) rfl rfl 0 (by decide) f_38 rfl (by decide +kernel) (Nat.le_of_ble_eq_true rfl) rfl dX5_field_46 (fun H locs hC => ?_)
        refine lv_aload_n hx hb dX5_field_49 rfl (lv_at hl 1 rfl) ?_
        refine lv_iload_n hx hb dX5_field_50 rfl (lv_at hl 3 rfl) ?_
        refine ss_put (C := RX5) (T := TX5) (N := 16) (ci := 5) F hC (0) tyX5 tyX5_ok nmX5 u_X5 (Nat.le_of_ble_eq_true rfl) rfl rfl 1 (by decide) f_42 rfl (by decide +kernel) (Nat.le_of_ble_eq_true rfl) rfl dX5_field_51 (fun H locs hC => ?_)
        refine lv_aload_n hx hb dX5_field_54 rfl (lv_at hl 1 rfl) ?_
        refine ss_kv (ss_rV (C := RX5) (As := []) (rest := []) F ((mX5_begin l D A L wr cI cZ cS (u2 (u2 σ7 0 0 x1) 0 1 x2) ) _) gX5_field_X5_begin rfl ⟨rfl, rfl⟩ ⟨rfl, dvX5_begin⟩ ⟨Nat.le_of_ble_eq_true rfl, Nat.le_of_ble_eq_true rfl⟩ (ss_preV F.2.2.2.2.1 F.2.2.2.2.2 hC (ss_rec (C := RX5) (T := TX5) (N := 16) (ci := 5) F.2.2.2.2.1 hC (0) (Nat.le_of_ble_eq_true rfl) rfl rfl) hw) rfl hl.1 rfl (Nat.le_of_ble_eq_true rfl) dX5_field_55 ⟨Nat.zero_le _, Nat.zero_le _⟩) hC (fun σ9 H locs hC hw => ?_)
        refine lv_aload_n hx hb dX5_field_58 rfl (lv_at hl 1 rfl) ?_
        refine ss_get (C := RX5) (T := TX5) (N := 16) (ci := 5) (v := .int (σ9 0 2)) F hC (0) u_X5 (Nat.le_of_ble_eq_true rfl) rfl rfl 2 (by decide) f_52 rfl dX5_field_59 ?_
        exact ss_iret F hC hw dX5_field_62
      · replace hw := hw.2 hc
        refine lv_bipush (v := -102) hx hb dX5_field_41 (by decide) ?_
        exact ss_iret F hC hw dX5_field_43
  · replace hw := hw.2 hc
    refine lv_bipush (v := 6) hx hb dX5_field_5 (by decide) ?_
    refine lv_goto (tgt := 29) hx hb dX5_field_7 (by decide) ?_
    refine lv_istore_n (lv' := [(3, .int (6)), (0, .ref (L (0))), (1, .int (x1)), (2, .int (x2))]) hx hb dX5_field_29 rfl hl (by decide) rfl (fun ls hl => ?_)
    refine lv_iload_n hx hb dX5_field_30 rfl (lv_at hl 3 rfl) ?_
    refine lv_i2l hx hb dX5_field_31 rfl ?_
    refine lv_lconst (v := 1) hx hb dX5_field_32 (by decide) ?_
    refine lv_iload_n hx hb dX5_field_33 rfl (lv_at hl 0 rfl) ?_
    refine lv_i2l hx hb dX5_field_34 rfl ?_
    refine ss_ki (ss_rS (As := [.long (Int32.toInt64 x2), .long (1), .long (Int32.toInt64 6)]) (rest := []) F ((mX5_in l D A L wr cI cZ cS σ (Int32.toInt64 x2) 1 (Int32.toInt64 6)) _) gX5_field_X5_in rfl ⟨rfl, rfl⟩ dvX5_in ⟨Nat.le_of_ble_eq_true rfl, Nat.le_of_ble_eq_true rfl⟩ (ss_preS F.2.2.2.2.1 F.2.2.2.2.2 hC hw) rfl hl.1 rfl (Nat.le_of_ble_eq_true rfl) dX5_field_35 ⟨Nat.zero_le _, Nat.zero_le _⟩) hC (fun r11 σ10 H locs hC hw => ?_)
    refine lv_if_ne (tgt := 44) hx hb dX5_field_38 (by decide) (fun hc => ?_) (fun hc => ?_)
    · replace hw := hw.1 hc
      refine lv_aload_n hx hb dX5_field_44 rfl (lv_at hl 1 rfl) ?_
      refine lv_iload_n hx hb dX5_field_45 rfl (lv_at hl 2 rfl) ?_
      refine ss_put (C := RX5) (T := TX5) (N := 16) (ci := 5) F hC (0) tyX5 tyX5_ok nmX5 u_X5 (Nat.le_of_ble_eq_true rfl) rfl rfl 0 (by decide) f_38 rfl (by decide +kernel) (Nat.le_of_ble_eq_true rfl) rfl dX5_field_46 (fun H locs hC => ?_)
      refine lv_aload_n hx hb dX5_field_49 rfl (lv_at hl 1 rfl) ?_
      refine lv_iload_n hx hb dX5_field_50 rfl (lv_at hl 3 rfl) ?_
      refine ss_put (C := RX5) (T := TX5) (N := 16) (ci := 5) F hC (0) tyX5 tyX5_ok nmX5 u_X5 (Nat.le_of_ble_eq_true rfl) rfl rfl 1 (by decide) f_42 rfl (by decide +kernel) (Nat.le_of_ble_eq_true rfl) rfl dX5_field_51 (fun H locs hC => ?_)
      refine lv_aload_n hx hb dX5_field_54 rfl (lv_at hl 1 rfl) ?_
      refine ss_kv (ss_rV (C := RX5) (As := []) (rest := []) F ((mX5_begin l D A L wr cI cZ cS (u2 (u2 σ10 0 0 x1) 0 1 x2) ) _) gX5_field_X5_begin rfl ⟨rfl, rfl⟩ ⟨rfl, dvX5_begin⟩ ⟨Nat.le_of_ble_eq_true rfl, Nat.le_of_ble_eq_true rfl⟩ (ss_preV F.2.2.2.2.1 F.2.2.2.2.2 hC (ss_rec (C := RX5) (T := TX5) (N := 16) (ci := 5) F.2.2.2.2.1 hC (0) (Nat.le_of_ble_eq_true rfl) rfl rfl) hw) rfl hl.1 rfl (Nat.le_of_ble_eq_true rfl) dX5_field_55 ⟨Nat.zero_le _, Nat.zero_le _⟩) hC (fun σ12 H locs hC hw => ?_)
      refine lv_aload_n hx hb dX5_field_58 rfl (lv_at hl 1 rfl) ?_
      refine ss_get (C := RX5) (T := TX5) (N := 16) (ci := 5) (v := .int (σ12 0 2)) F hC (0) u_X5 (Nat.le_of_ble_eq_true rfl) rfl rfl 2 (by decide) f_52 rfl dX5_field_59 ?_
      exact ss_iret F hC hw dX5_field_62
    · replace hw := hw.2 hc
      refine lv_bipush (v := -102) hx hb dX5_field_41 (by decide) ?_
      exact ss_iret F hC hw dX5_field_43

theorem mX5_field (l : Launch) (D : va_G) (A : Nat → Prop) (L : Nat → Nat) (wr : va_W) (cI cZ cS : ClassId) (σ : ss_S) (x1 : Int32) (x2 : Int32)  : ss_MI l yX5_field wsX5_field rmX5_field (ss_EM D A L wr cI cZ cS) [.ref (L (0)), .int (x1), .int (x2)] σ (fun post => wX5_field x1 x2 σ post) :=
  ss_MI.of (cc := cX5_field) (nL := 4) (ret := (some .int)) (own := RX5) (by decide) rfl rfl (Nat.le_of_ble_eq_true rfl) (fun post p e R s m below meth c H locs ls F hC hl hw => bX5_field F  σ H locs ls hC hl hw)

set_option maxHeartbeats 4000000 in
set_option maxRecDepth 100000 in
theorem bX5_figure {x1 : Int32} {x2 : Int32} {post : Int32 → ss_S → Prop} (F : ss_F p R s m args meth c (ss_EM D A L wr cI cZ cS) cX5_figure 3 wsX5_figure RX5 (some .int) rmX5_figure)  : ∀ (σ : ss_S) (H : Heap) (locs : List Loc) (ls : Array Slot), ss_C (ss_EM D A L wr cI cZ cS) σ s H locs → lv_has ls 3 [(0, .ref (L (0))), (1, .int (x1)), (2, .int (x2))] → wX5_figure x1 x2 σ post → W p l e R s m args below meth c H locs 0 0 (MQ below (va_Qi post (ss_B (ss_EM D A L wr cI cZ cS)) A) args s 0 0 A) (F0 m 0 ls []) := by
  have hx := F.1.1
  have hb := F.1.2.1
  have u_X5 : ∀ w ∈ u_ws RX5 TX5 16, w ∈ wsX5_figure := by decide +kernel
  have f_38 : (Cond.fieldLink RX5 38 "SmallSpacesModel" "q" "I").before args s = true := F.1.2.2.2.2 _ (by decide +kernel)
  have f_42 : (Cond.fieldLink RX5 42 "SmallSpacesModel" "n" "I").before args s = true := F.1.2.2.2.2 _ (by decide +kernel)
  intro σ H locs ls hC hl hw
  unfold wX5_figure at hw
  refine lv_iload_n hx hb dX5_figure_0 rfl (lv_at hl 1 rfl) ?_
  refine lv_aload_n hx hb dX5_figure_1 rfl (lv_at hl 0 rfl) ?_
  refine ss_get (C := RX5) (T := TX5) (N := 16) (ci := 5) (v := .int (σ 0 0)) F hC (0) u_X5 (Nat.le_of_ble_eq_true rfl) rfl rfl 0 (by decide) f_38 rfl dX5_figure_2 ?_
  refine lv_aload_n hx hb dX5_figure_5 rfl (lv_at hl 0 rfl) ?_
  refine ss_get (C := RX5) (T := TX5) (N := 16) (ci := 5) (v := .int (σ 0 1)) F hC (0) u_X5 (Nat.le_of_ble_eq_true rfl) rfl rfl 1 (by decide) f_42 rfl dX5_figure_6 ?_
  refine lv_iconst (v := 1) hx hb dX5_figure_9 (by decide) ?_
  refine lv_isub hx hb dX5_figure_10 ?_
  refine lv_iload_n hx hb dX5_figure_11 rfl (lv_at hl 2 rfl) ?_
  refine lv_isub hx hb dX5_figure_12 ?_
  refine ss_ki (ss_rS (As := [.int (σ 0 0), .int (((σ 0 1) - 1) - x2)]) (rest := [.int (x1)]) F ((mX5_power l D A L wr cI cZ cS σ (σ 0 0) (((σ 0 1) - 1) - x2)) _) gX5_figure_X5_power rfl ⟨rfl, rfl⟩ dvX5_power ⟨Nat.le_of_ble_eq_true rfl, Nat.le_of_ble_eq_true rfl⟩ (ss_preS F.2.2.2.2.1 F.2.2.2.2.2 hC hw) rfl hl.1 rfl (Nat.le_of_ble_eq_true rfl) dX5_figure_13 ⟨Nat.zero_le _, Nat.zero_le _⟩) hC (fun r2 σ1 H locs hC hw => ?_)
  refine lv_idiv hx hb dX5_figure_16 hw.1 ?_
  replace hw := hw.2
  refine lv_aload_n hx hb dX5_figure_17 rfl (lv_at hl 0 rfl) ?_
  refine ss_get (C := RX5) (T := TX5) (N := 16) (ci := 5) (v := .int (σ1 0 0)) F hC (0) u_X5 (Nat.le_of_ble_eq_true rfl) rfl rfl 0 (by decide) f_38 rfl dX5_figure_18 ?_
  refine lv_irem hx hb dX5_figure_21 hw.1 ?_
  replace hw := hw.2
  exact ss_iret F hC hw dX5_figure_22

theorem mX5_figure (l : Launch) (D : va_G) (A : Nat → Prop) (L : Nat → Nat) (wr : va_W) (cI cZ cS : ClassId) (σ : ss_S) (x1 : Int32) (x2 : Int32)  : ss_MI l yX5_figure wsX5_figure rmX5_figure (ss_EM D A L wr cI cZ cS) [.ref (L (0)), .int (x1), .int (x2)] σ (fun post => wX5_figure x1 x2 σ post) :=
  ss_MI.of (cc := cX5_figure) (nL := 3) (ret := (some .int)) (own := RX5) (by decide) rfl rfl (Nat.le_of_ble_eq_true rfl) (fun post p e R s m below meth c H locs ls F hC hl hw => bX5_figure F  σ H locs ls hC hl hw)

set_option maxHeartbeats 4000000 in
set_option maxRecDepth 100000 in
theorem bX5_isVector {x1 : Int32} {post : Int32 → ss_S → Prop} (F : ss_F p R s m args meth c (ss_EM D A L wr cI cZ cS) cX5_isVector 2 wsX5_isVector RX5 (some .boolean) rmX5_isVector)  : ∀ (σ : ss_S) (H : Heap) (locs : List Loc) (ls : Array Slot), ss_C (ss_EM D A L wr cI cZ cS) σ s H locs → lv_has ls 2 [(0, .ref (L (0))), (1, .int (x1))] → wX5_isVector x1 σ post → W p l e R s m args below meth c H locs 0 0 (MQ below (va_Qi post (ss_B (ss_EM D A L wr cI cZ cS)) A) args s 0 0 A) (F0 m 0 ls []) := by
  have hx := F.1.1
  have hb := F.1.2.1
  have u_X5 : ∀ w ∈ u_ws RX5 TX5 16, w ∈ wsX5_isVector := by decide +kernel
  have f_52 : (Cond.fieldLink RX5 52 "SmallSpacesModel" "vectors" "I").before args s = true := F.1.2.2.2.2 _ (by decide +kernel)
  intro σ H locs ls hC hl hw
  unfold wX5_isVector at hw
  refine lv_iload_n hx hb dX5_isVector_0 rfl (lv_at hl 1 rfl) ?_
  refine lv_i2l hx hb dX5_isVector_1 rfl ?_
  refine lv_lconst (v := 0) hx hb dX5_isVector_2 (by decide) ?_
  refine lv_aload_n hx hb dX5_isVector_3 rfl (lv_at hl 0 rfl) ?_
  refine ss_get (C := RX5) (T := TX5) (N := 16) (ci := 5) (v := .int (σ 0 2)) F hC (0) u_X5 (Nat.le_of_ble_eq_true rfl) rfl rfl 2 (by decide) f_52 rfl dX5_isVector_4 ?_
  refine lv_iconst (v := 1) hx hb dX5_isVector_7 (by decide) ?_
  refine lv_isub hx hb dX5_isVector_8 ?_
  refine lv_i2l hx hb dX5_isVector_9 rfl ?_
  refine ss_ki (ss_rS (As := [.long (Int32.toInt64 x1), .long (0), .long (Int32.toInt64 ((σ 0 2) - 1))]) (rest := []) F ((mX5_in l D A L wr cI cZ cS σ (Int32.toInt64 x1) 0 (Int32.toInt64 ((σ 0 2) - 1))) _) gX5_isVector_X5_in rfl ⟨rfl, rfl⟩ dvX5_in ⟨Nat.le_of_ble_eq_true rfl, Nat.le_of_ble_eq_true rfl⟩ (ss_preS F.2.2.2.2.1 F.2.2.2.2.2 hC hw) rfl hl.1 rfl (Nat.le_of_ble_eq_true rfl) dX5_isVector_10 ⟨Nat.zero_le _, Nat.zero_le _⟩) hC (fun r2 σ1 H locs hC hw => ?_)
  exact ss_zret F hC hw.1 hw.2 dX5_isVector_13

theorem mX5_isVector (l : Launch) (D : va_G) (A : Nat → Prop) (L : Nat → Nat) (wr : va_W) (cI cZ cS : ClassId) (σ : ss_S) (x1 : Int32)  : ss_MI l yX5_isVector wsX5_isVector rmX5_isVector (ss_EM D A L wr cI cZ cS) [.ref (L (0)), .int (x1)] σ (fun post => wX5_isVector x1 σ post) :=
  ss_MI.of (cc := cX5_isVector) (nL := 2) (ret := (some .boolean)) (own := RX5) (by decide) rfl rfl (Nat.le_of_ble_eq_true rfl) (fun post p e R s m below meth c H locs ls F hC hl hw => bX5_isVector F  σ H locs ls hC hl hw)

set_option maxHeartbeats 4000000 in
set_option maxRecDepth 100000 in
theorem tX5_sum_6 {x1 : Int32} {x2 : Int32} {x3 : Int32} {post : Int32 → ss_S → Prop} (F : ss_F p R s m args meth c (ss_EM D A L wr cI cZ cS) cX5_sum 6 wsX5_sum RX5 (some .int) rmX5_sum)  (k53 : Int32 → Int32 → ss_S → Prop) : ∀ (n : Nat) (x4 : Int32) (x5 : Int32) (σ : ss_S) (H : Heap) (locs : List Loc) (ls : Array Slot), ss_C (ss_EM D A L wr cI cZ cS) σ s H locs → lv_has ls 6 [(0, .ref (L (0))), (1, .int (x1)), (2, .int (x2)), (3, .int (x3)), (4, .int (x4)), (5, .int (x5))] → lX5_sum_6 x1 x2 x3 post k53 n x4 x5 σ →
    (∀ (x4 : Int32) (x5 : Int32) (σ : ss_S) (H : Heap) (locs : List Loc) (ls : Array Slot), ss_C (ss_EM D A L wr cI cZ cS) σ s H locs → lv_has ls 6 [(4, .int (x4))] → k53 x4 x5 σ → W p l e R s m args below meth c H locs 0 0 (MQ below (va_Qi post (ss_B (ss_EM D A L wr cI cZ cS)) A) args s 0 0 A) (F0 m 53 ls [])) →
    W p l e R s m args below meth c H locs 0 0 (MQ below (va_Qi post (ss_B (ss_EM D A L wr cI cZ cS)) A) args s 0 0 A) (F0 m 6 ls []) := by
  have hx := F.1.1
  have hb := F.1.2.1
  have u_X5 : ∀ w ∈ u_ws RX5 TX5 16, w ∈ wsX5_sum := by decide +kernel
  have f_42 : (Cond.fieldLink RX5 42 "SmallSpacesModel" "n" "I").before args s = true := F.1.2.2.2.2 _ (by decide +kernel)
  have f_38 : (Cond.fieldLink RX5 38 "SmallSpacesModel" "q" "I").before args s = true := F.1.2.2.2.2 _ (by decide +kernel)
  intro n
  induction n with
  | zero => intro x4 x5 σ H locs ls hC hl hw; exact hw.elim
  | succ n ih =>
    intro x4 x5 σ H locs ls hC hl hw hk53
    refine lv_iload hx hb dX5_sum_6 (lv_at hl 5 rfl) ?_
    refine lv_aload_n hx hb dX5_sum_8 rfl (lv_at hl 0 rfl) ?_
    refine ss_get (C := RX5) (T := TX5) (N := 16) (ci := 5) (v := .int (σ 0 1)) F hC (0) u_X5 (Nat.le_of_ble_eq_true rfl) rfl rfl 1 (by decide) f_42 rfl dX5_sum_9 ?_
    refine lv_icmp_ge (tgt := 53) hx hb dX5_sum_12 (by decide) (fun hc => ?_) (fun hc => ?_)
    · replace hw := hw.1 hc
      exact hk53 x4 x5 σ _ _ _ hC (lv_sub hl [4] rfl) hw
    · replace hw := hw.2 hc
      refine lv_iload hx hb dX5_sum_15 (lv_at hl 4 rfl) ?_
      refine lv_aload_n hx hb dX5_sum_17 rfl (lv_at hl 0 rfl) ?_
      refine ss_get (C := RX5) (T := TX5) (N := 16) (ci := 5) (v := .int (σ 0 0)) F hC (0) u_X5 (Nat.le_of_ble_eq_true rfl) rfl rfl 0 (by decide) f_38 rfl dX5_sum_18 ?_
      refine lv_imul hx hb dX5_sum_21 ?_
      refine lv_aload_n hx hb dX5_sum_22 rfl (lv_at hl 0 rfl) ?_
      refine lv_iload_n hx hb dX5_sum_23 rfl (lv_at hl 1 rfl) ?_
      refine lv_iload hx hb dX5_sum_24 (lv_at hl 5 rfl) ?_
      refine ss_ki (ss_rV (C := RX5) (As := [.int (x1), .int (x5)]) (rest := [.int (x4 * (σ 0 0))]) F ((mX5_figure l D A L wr cI cZ cS σ x1 x5) _) gX5_sum_X5_figure rfl ⟨rfl, rfl⟩ ⟨rfl, dvX5_figure⟩ ⟨Nat.le_of_ble_eq_true rfl, Nat.le_of_ble_eq_true rfl⟩ (ss_preV F.2.2.2.2.1 F.2.2.2.2.2 hC (ss_rec (C := RX5) (T := TX5) (N := 16) (ci := 5) F.2.2.2.2.1 hC (0) (Nat.le_of_ble_eq_true rfl) rfl rfl) hw) rfl hl.1 rfl (Nat.le_of_ble_eq_true rfl) dX5_sum_26 ⟨Nat.zero_le _, Nat.zero_le _⟩) hC (fun r2 σ1 H locs hC hw => ?_)
      refine lv_iload_n hx hb dX5_sum_29 rfl (lv_at hl 3 rfl) ?_
      refine lv_aload_n hx hb dX5_sum_30 rfl (lv_at hl 0 rfl) ?_
      refine lv_iload_n hx hb dX5_sum_31 rfl (lv_at hl 2 rfl) ?_
      refine lv_iload hx hb dX5_sum_32 (lv_at hl 5 rfl) ?_
      refine ss_ki (ss_rV (C := RX5) (As := [.int (x2), .int (x5)]) (rest := [.int (x3), .int (r2), .int (x4 * (σ 0 0))]) F ((mX5_figure l D A L wr cI cZ cS σ1 x2 x5) _) gX5_sum_X5_figure rfl ⟨rfl, rfl⟩ ⟨rfl, dvX5_figure⟩ ⟨Nat.le_of_ble_eq_true rfl, Nat.le_of_ble_eq_true rfl⟩ (ss_preV F.2.2.2.2.1 F.2.2.2.2.2 hC (ss_rec (C := RX5) (T := TX5) (N := 16) (ci := 5) F.2.2.2.2.1 hC (0) (Nat.le_of_ble_eq_true rfl) rfl rfl) hw) rfl hl.1 rfl (Nat.le_of_ble_eq_true rfl) dX5_sum_34 ⟨Nat.zero_le _, Nat.zero_le _⟩) hC (fun r4 σ3 H locs hC hw => ?_)
      refine lv_imul hx hb dX5_sum_37 ?_
      refine lv_iadd hx hb dX5_sum_38 ?_
      refine lv_aload_n hx hb dX5_sum_39 rfl (lv_at hl 0 rfl) ?_
      refine ss_get (C := RX5) (T := TX5) (N := 16) (ci := 5) (v := .int (σ3 0 0)) F hC (0) u_X5 (Nat.le_of_ble_eq_true rfl) rfl rfl 0 (by decide) f_38 rfl dX5_sum_40 ?_
      refine lv_irem hx hb dX5_sum_43 hw.1 ?_
      replace hw := hw.2
      refine lv_iadd hx hb dX5_sum_44 ?_
      refine lv_istore (lv' := [(4, .int ((x4 * (σ 0 0)) + ((r2 + (x3 * r4)) - (r2 + (x3 * r4)) / (σ3 0 0) * (σ3 0 0)))), (0, .ref (L (0))), (1, .int (x1)), (2, .int (x2)), (3, .int (x3)), (5, .int (x5))]) hx hb dX5_sum_45 hl (by decide) rfl (fun ls hl => ?_)
      refine lv_iinc (v := x5 + 1) (lv' := [(5, .int (x5 + 1)), (4, .int ((x4 * (σ 0 0)) + ((r2 + (x3 * r4)) - (r2 + (x3 * r4)) / (σ3 0 0) * (σ3 0 0)))), (0, .ref (L (0))), (1, .int (x1)), (2, .int (x2)), (3, .int (x3))]) hx hb dX5_sum_47 hl (k := 5) rfl rfl (by decide) rfl (fun ls hl => ?_)
      refine lv_goto (tgt := 6) hx hb dX5_sum_50 (by decide) ?_
      exact ih ((x4 * (σ 0 0)) + ((r2 + (x3 * r4)) - (r2 + (x3 * r4)) / (σ3 0 0) * (σ3 0 0))) (x5 + 1) σ3 _ _ _ hC (lv_sub hl [2, 3, 4, 5, 1, 0] rfl) hw hk53

set_option maxHeartbeats 4000000 in
set_option maxRecDepth 100000 in
theorem bX5_sum {x1 : Int32} {x2 : Int32} {x3 : Int32} {post : Int32 → ss_S → Prop} (F : ss_F p R s m args meth c (ss_EM D A L wr cI cZ cS) cX5_sum 6 wsX5_sum RX5 (some .int) rmX5_sum)  : ∀ (σ : ss_S) (H : Heap) (locs : List Loc) (ls : Array Slot), ss_C (ss_EM D A L wr cI cZ cS) σ s H locs → lv_has ls 6 [(0, .ref (L (0))), (1, .int (x1)), (2, .int (x2)), (3, .int (x3))] → wX5_sum x1 x2 x3 σ post → W p l e R s m args below meth c H locs 0 0 (MQ below (va_Qi post (ss_B (ss_EM D A L wr cI cZ cS)) A) args s 0 0 A) (F0 m 0 ls []) := by
  have hx := F.1.1
  have hb := F.1.2.1
  intro σ H locs ls hC hl hw
  unfold wX5_sum at hw
  refine lv_iconst (v := 0) hx hb dX5_sum_0 (by decide) ?_
  refine lv_istore (lv' := [(4, .int (0)), (0, .ref (L (0))), (1, .int (x1)), (2, .int (x2)), (3, .int (x3))]) hx hb dX5_sum_1 hl (by decide) rfl (fun ls hl => ?_)
  refine lv_iconst (v := 0) hx hb dX5_sum_3 (by decide) ?_
  refine lv_istore (lv' := [(5, .int (0)), (4, .int (0)), (0, .ref (L (0))), (1, .int (x1)), (2, .int (x2)), (3, .int (x3))]) hx hb dX5_sum_4 hl (by decide) rfl (fun ls hl => ?_)
  obtain ⟨n_, hw⟩ := hw
  refine tX5_sum_6 F  _ n_ 0 0 σ _ _ _ hC (lv_sub hl [2, 3, 4, 5, 1, 0] rfl) hw ?_
  · intro x4_5 x5_5 σ_5 H locs ls hC hl hw
    refine lv_iload hx hb dX5_sum_53 (lv_at hl 0 rfl) ?_
    exact ss_iret F hC hw dX5_sum_55

theorem mX5_sum (l : Launch) (D : va_G) (A : Nat → Prop) (L : Nat → Nat) (wr : va_W) (cI cZ cS : ClassId) (σ : ss_S) (x1 : Int32) (x2 : Int32) (x3 : Int32)  : ss_MI l yX5_sum wsX5_sum rmX5_sum (ss_EM D A L wr cI cZ cS) [.ref (L (0)), .int (x1), .int (x2), .int (x3)] σ (fun post => wX5_sum x1 x2 x3 σ post) :=
  ss_MI.of (cc := cX5_sum) (nL := 6) (ret := (some .int)) (own := RX5) (by decide) rfl rfl (Nat.le_of_ble_eq_true rfl) (fun post p e R s m below meth c H locs ls F hC hl hw => bX5_sum F  σ H locs ls hC hl hw)

set_option maxHeartbeats 4000000 in
set_option maxRecDepth 100000 in
theorem bX5_plus {x1 : Int32} {x2 : Int32} {x3 : Int32} {post : Int32 → ss_S → Prop} (F : ss_F p R s m args meth c (ss_EM D A L wr cI cZ cS) cX5_plus 4 wsX5_plus RX5 (some .int) rmX5_plus)  : ∀ (σ : ss_S) (H : Heap) (locs : List Loc) (ls : Array Slot), ss_C (ss_EM D A L wr cI cZ cS) σ s H locs → lv_has ls 4 [(0, .ref (L (0))), (1, .int (x1)), (2, .int (x2)), (3, .int (x3))] → wX5_plus x1 x2 x3 σ post → W p l e R s m args below meth c H locs 0 0 (MQ below (va_Qi post (ss_B (ss_EM D A L wr cI cZ cS)) A) args s 0 0 A) (F0 m 0 ls []) := by
  have hx := F.1.1
  have hb := F.1.2.1
  have u_X5 : ∀ w ∈ u_ws RX5 TX5 16, w ∈ wsX5_plus := by decide +kernel
  have f_38 : (Cond.fieldLink RX5 38 "SmallSpacesModel" "q" "I").before args s = true := F.1.2.2.2.2 _ (by decide +kernel)
  intro σ H locs ls hC hl hw
  unfold wX5_plus at hw
  refine lv_aload_n hx hb dX5_plus_0 rfl (lv_at hl 0 rfl) ?_
  refine lv_iload_n hx hb dX5_plus_1 rfl (lv_at hl 1 rfl) ?_
  refine ss_ki (ss_rV (C := RX5) (As := [.int (x1)]) (rest := []) F ((mX5_isVector l D A L wr cI cZ cS σ x1) _) gX5_plus_X5_isVector rfl ⟨rfl, rfl⟩ ⟨rfl, dvX5_isVector⟩ ⟨Nat.le_of_ble_eq_true rfl, Nat.le_of_ble_eq_true rfl⟩ (ss_preV F.2.2.2.2.1 F.2.2.2.2.2 hC (ss_rec (C := RX5) (T := TX5) (N := 16) (ci := 5) F.2.2.2.2.1 hC (0) (Nat.le_of_ble_eq_true rfl) rfl rfl) hw) rfl hl.1 rfl (Nat.le_of_ble_eq_true rfl) dX5_plus_2 ⟨Nat.zero_le _, Nat.zero_le _⟩) hC (fun r2 σ1 H locs hC hw => ?_)
  refine lv_if_eq (tgt := 16) hx hb dX5_plus_5 (by decide) (fun hc => ?_) (fun hc => ?_)
  · replace hw := hw.1 hc
    refine lv_bipush (v := -101) hx hb dX5_plus_16 (by decide) ?_
    exact ss_iret F hC hw dX5_plus_18
  · replace hw := hw.2 hc
    refine lv_aload_n hx hb dX5_plus_8 rfl (lv_at hl 0 rfl) ?_
    refine lv_iload_n hx hb dX5_plus_9 rfl (lv_at hl 2 rfl) ?_
    refine ss_ki (ss_rV (C := RX5) (As := [.int (x2)]) (rest := []) F ((mX5_isVector l D A L wr cI cZ cS σ1 x2) _) gX5_plus_X5_isVector rfl ⟨rfl, rfl⟩ ⟨rfl, dvX5_isVector⟩ ⟨Nat.le_of_ble_eq_true rfl, Nat.le_of_ble_eq_true rfl⟩ (ss_preV F.2.2.2.2.1 F.2.2.2.2.2 hC (ss_rec (C := RX5) (T := TX5) (N := 16) (ci := 5) F.2.2.2.2.1 hC (0) (Nat.le_of_ble_eq_true rfl) rfl rfl) hw) rfl hl.1 rfl (Nat.le_of_ble_eq_true rfl) dX5_plus_10 ⟨Nat.zero_le _, Nat.zero_le _⟩) hC (fun r4 σ3 H locs hC hw => ?_)
    refine lv_if_ne (tgt := 19) hx hb dX5_plus_13 (by decide) (fun hc => ?_) (fun hc => ?_)
    · replace hw := hw.1 hc
      refine lv_iload_n hx hb dX5_plus_19 rfl (lv_at hl 3 rfl) ?_
      refine lv_i2l hx hb dX5_plus_20 rfl ?_
      refine lv_lconst (v := 0) hx hb dX5_plus_21 (by decide) ?_
      refine lv_aload_n hx hb dX5_plus_22 rfl (lv_at hl 0 rfl) ?_
      refine ss_get (C := RX5) (T := TX5) (N := 16) (ci := 5) (v := .int (σ3 0 0)) F hC (0) u_X5 (Nat.le_of_ble_eq_true rfl) rfl rfl 0 (by decide) f_38 rfl dX5_plus_23 ?_
      refine lv_iconst (v := 1) hx hb dX5_plus_26 (by decide) ?_
      refine lv_isub hx hb dX5_plus_27 ?_
      refine lv_i2l hx hb dX5_plus_28 rfl ?_
      refine ss_ki (ss_rS (As := [.long (Int32.toInt64 x3), .long (0), .long (Int32.toInt64 ((σ3 0 0) - 1))]) (rest := []) F ((mX5_in l D A L wr cI cZ cS σ3 (Int32.toInt64 x3) 0 (Int32.toInt64 ((σ3 0 0) - 1))) _) gX5_plus_X5_in rfl ⟨rfl, rfl⟩ dvX5_in ⟨Nat.le_of_ble_eq_true rfl, Nat.le_of_ble_eq_true rfl⟩ (ss_preS F.2.2.2.2.1 F.2.2.2.2.2 hC hw) rfl hl.1 rfl (Nat.le_of_ble_eq_true rfl) dX5_plus_29 ⟨Nat.zero_le _, Nat.zero_le _⟩) hC (fun r6 σ5 H locs hC hw => ?_)
      refine lv_if_eq (tgt := 45) hx hb dX5_plus_32 (by decide) (fun hc => ?_) (fun hc => ?_)
      · replace hw := hw.1 hc
        refine lv_bipush (v := -102) hx hb dX5_plus_45 (by decide) ?_
        exact ss_iret F hC hw dX5_plus_47
      · replace hw := hw.2 hc
        refine lv_aload_n hx hb dX5_plus_35 rfl (lv_at hl 0 rfl) ?_
        refine lv_iload_n hx hb dX5_plus_36 rfl (lv_at hl 1 rfl) ?_
        refine lv_iload_n hx hb dX5_plus_37 rfl (lv_at hl 2 rfl) ?_
        refine lv_iload_n hx hb dX5_plus_38 rfl (lv_at hl 3 rfl) ?_
        refine ss_ki (ss_rV (C := RX5) (As := [.int (x1), .int (x2), .int (x3)]) (rest := []) F ((mX5_sum l D A L wr cI cZ cS σ5 x1 x2 x3) _) gX5_plus_X5_sum rfl ⟨rfl, rfl⟩ ⟨rfl, dvX5_sum⟩ ⟨Nat.le_of_ble_eq_true rfl, Nat.le_of_ble_eq_true rfl⟩ (ss_preV F.2.2.2.2.1 F.2.2.2.2.2 hC (ss_rec (C := RX5) (T := TX5) (N := 16) (ci := 5) F.2.2.2.2.1 hC (0) (Nat.le_of_ble_eq_true rfl) rfl rfl) hw) rfl hl.1 rfl (Nat.le_of_ble_eq_true rfl) dX5_plus_39 ⟨Nat.zero_le _, Nat.zero_le _⟩) hC (fun r8 σ7 H locs hC hw => ?_)
        refine lv_goto (tgt := 47) hx hb dX5_plus_42 (by decide) ?_
        exact ss_iret F hC hw dX5_plus_47
    · replace hw := hw.2 hc
      refine lv_bipush (v := -101) hx hb dX5_plus_16 (by decide) ?_
      exact ss_iret F hC hw dX5_plus_18

theorem mX5_plus (l : Launch) (D : va_G) (A : Nat → Prop) (L : Nat → Nat) (wr : va_W) (cI cZ cS : ClassId) (σ : ss_S) (x1 : Int32) (x2 : Int32) (x3 : Int32)  : ss_MI l yX5_plus wsX5_plus rmX5_plus (ss_EM D A L wr cI cZ cS) [.ref (L (0)), .int (x1), .int (x2), .int (x3)] σ (fun post => wX5_plus x1 x2 x3 σ post) :=
  ss_MI.of (cc := cX5_plus) (nL := 4) (ret := (some .int)) (own := RX5) (by decide) rfl rfl (Nat.le_of_ble_eq_true rfl) (fun post p e R s m below meth c H locs ls F hC hl hw => bX5_plus F  σ H locs ls hC hl hw)

set_option maxHeartbeats 4000000 in
set_option maxRecDepth 100000 in
theorem tX5_product_5 {x1 : Int32} {x2 : Int32} {post : Int32 → ss_S → Prop} (F : ss_F p R s m args meth c (ss_EM D A L wr cI cZ cS) cX5_product 5 wsX5_product RX5 (some .int) rmX5_product)  (k38 : Int32 → Int32 → ss_S → Prop) : ∀ (n : Nat) (x3 : Int32) (x4 : Int32) (σ : ss_S) (H : Heap) (locs : List Loc) (ls : Array Slot), ss_C (ss_EM D A L wr cI cZ cS) σ s H locs → lv_has ls 5 [(0, .ref (L (0))), (1, .int (x1)), (2, .int (x2)), (3, .int (x3)), (4, .int (x4))] → lX5_product_5 x1 x2 post k38 n x3 x4 σ →
    (∀ (x3 : Int32) (x4 : Int32) (σ : ss_S) (H : Heap) (locs : List Loc) (ls : Array Slot), ss_C (ss_EM D A L wr cI cZ cS) σ s H locs → lv_has ls 5 [(0, .ref (L (0))), (3, .int (x3))] → k38 x3 x4 σ → W p l e R s m args below meth c H locs 0 0 (MQ below (va_Qi post (ss_B (ss_EM D A L wr cI cZ cS)) A) args s 0 0 A) (F0 m 38 ls [])) →
    W p l e R s m args below meth c H locs 0 0 (MQ below (va_Qi post (ss_B (ss_EM D A L wr cI cZ cS)) A) args s 0 0 A) (F0 m 5 ls []) := by
  have hx := F.1.1
  have hb := F.1.2.1
  have u_X5 : ∀ w ∈ u_ws RX5 TX5 16, w ∈ wsX5_product := by decide +kernel
  have f_42 : (Cond.fieldLink RX5 42 "SmallSpacesModel" "n" "I").before args s = true := F.1.2.2.2.2 _ (by decide +kernel)
  intro n
  induction n with
  | zero => intro x3 x4 σ H locs ls hC hl hw; exact hw.elim
  | succ n ih =>
    intro x3 x4 σ H locs ls hC hl hw hk38
    refine lv_iload hx hb dX5_product_5 (lv_at hl 4 rfl) ?_
    refine lv_aload_n hx hb dX5_product_7 rfl (lv_at hl 0 rfl) ?_
    refine ss_get (C := RX5) (T := TX5) (N := 16) (ci := 5) (v := .int (σ 0 1)) F hC (0) u_X5 (Nat.le_of_ble_eq_true rfl) rfl rfl 1 (by decide) f_42 rfl dX5_product_8 ?_
    refine lv_icmp_ge (tgt := 38) hx hb dX5_product_11 (by decide) (fun hc => ?_) (fun hc => ?_)
    · replace hw := hw.1 hc
      exact hk38 x3 x4 σ _ _ _ hC (lv_sub hl [0, 3] rfl) hw
    · replace hw := hw.2 hc
      refine lv_iload_n hx hb dX5_product_14 rfl (lv_at hl 3 rfl) ?_
      refine lv_aload_n hx hb dX5_product_15 rfl (lv_at hl 0 rfl) ?_
      refine lv_iload_n hx hb dX5_product_16 rfl (lv_at hl 1 rfl) ?_
      refine lv_iload hx hb dX5_product_17 (lv_at hl 4 rfl) ?_
      refine ss_ki (ss_rV (C := RX5) (As := [.int (x1), .int (x4)]) (rest := [.int (x3)]) F ((mX5_figure l D A L wr cI cZ cS σ x1 x4) _) gX5_product_X5_figure rfl ⟨rfl, rfl⟩ ⟨rfl, dvX5_figure⟩ ⟨Nat.le_of_ble_eq_true rfl, Nat.le_of_ble_eq_true rfl⟩ (ss_preV F.2.2.2.2.1 F.2.2.2.2.2 hC (ss_rec (C := RX5) (T := TX5) (N := 16) (ci := 5) F.2.2.2.2.1 hC (0) (Nat.le_of_ble_eq_true rfl) rfl rfl) hw) rfl hl.1 rfl (Nat.le_of_ble_eq_true rfl) dX5_product_19 ⟨Nat.zero_le _, Nat.zero_le _⟩) hC (fun r2 σ1 H locs hC hw => ?_)
      refine lv_aload_n hx hb dX5_product_22 rfl (lv_at hl 0 rfl) ?_
      refine lv_iload_n hx hb dX5_product_23 rfl (lv_at hl 2 rfl) ?_
      refine lv_iload hx hb dX5_product_24 (lv_at hl 4 rfl) ?_
      refine ss_ki (ss_rV (C := RX5) (As := [.int (x2), .int (x4)]) (rest := [.int (r2), .int (x3)]) F ((mX5_figure l D A L wr cI cZ cS σ1 x2 x4) _) gX5_product_X5_figure rfl ⟨rfl, rfl⟩ ⟨rfl, dvX5_figure⟩ ⟨Nat.le_of_ble_eq_true rfl, Nat.le_of_ble_eq_true rfl⟩ (ss_preV F.2.2.2.2.1 F.2.2.2.2.2 hC (ss_rec (C := RX5) (T := TX5) (N := 16) (ci := 5) F.2.2.2.2.1 hC (0) (Nat.le_of_ble_eq_true rfl) rfl rfl) hw) rfl hl.1 rfl (Nat.le_of_ble_eq_true rfl) dX5_product_26 ⟨Nat.zero_le _, Nat.zero_le _⟩) hC (fun r4 σ3 H locs hC hw => ?_)
      refine lv_imul hx hb dX5_product_29 ?_
      refine lv_iadd hx hb dX5_product_30 ?_
      refine lv_istore_n (lv' := [(3, .int (x3 + (r2 * r4))), (0, .ref (L (0))), (1, .int (x1)), (2, .int (x2)), (4, .int (x4))]) hx hb dX5_product_31 rfl hl (by decide) rfl (fun ls hl => ?_)
      refine lv_iinc (v := x4 + 1) (lv' := [(4, .int (x4 + 1)), (3, .int (x3 + (r2 * r4))), (0, .ref (L (0))), (1, .int (x1)), (2, .int (x2))]) hx hb dX5_product_32 hl (k := 4) rfl rfl (by decide) rfl (fun ls hl => ?_)
      refine lv_goto (tgt := 5) hx hb dX5_product_35 (by decide) ?_
      exact ih (x3 + (r2 * r4)) (x4 + 1) σ3 _ _ _ hC (lv_sub hl [2, 3, 4, 1, 0] rfl) hw hk38

set_option maxHeartbeats 4000000 in
set_option maxRecDepth 100000 in
theorem bX5_product {x1 : Int32} {x2 : Int32} {post : Int32 → ss_S → Prop} (F : ss_F p R s m args meth c (ss_EM D A L wr cI cZ cS) cX5_product 5 wsX5_product RX5 (some .int) rmX5_product)  : ∀ (σ : ss_S) (H : Heap) (locs : List Loc) (ls : Array Slot), ss_C (ss_EM D A L wr cI cZ cS) σ s H locs → lv_has ls 5 [(0, .ref (L (0))), (1, .int (x1)), (2, .int (x2))] → wX5_product x1 x2 σ post → W p l e R s m args below meth c H locs 0 0 (MQ below (va_Qi post (ss_B (ss_EM D A L wr cI cZ cS)) A) args s 0 0 A) (F0 m 0 ls []) := by
  have hx := F.1.1
  have hb := F.1.2.1
  have u_X5 : ∀ w ∈ u_ws RX5 TX5 16, w ∈ wsX5_product := by decide +kernel
  have f_38 : (Cond.fieldLink RX5 38 "SmallSpacesModel" "q" "I").before args s = true := F.1.2.2.2.2 _ (by decide +kernel)
  intro σ H locs ls hC hl hw
  unfold wX5_product at hw
  refine lv_iconst (v := 0) hx hb dX5_product_0 (by decide) ?_
  refine lv_istore_n (lv' := [(3, .int (0)), (0, .ref (L (0))), (1, .int (x1)), (2, .int (x2))]) hx hb dX5_product_1 rfl hl (by decide) rfl (fun ls hl => ?_)
  refine lv_iconst (v := 0) hx hb dX5_product_2 (by decide) ?_
  refine lv_istore (lv' := [(4, .int (0)), (3, .int (0)), (0, .ref (L (0))), (1, .int (x1)), (2, .int (x2))]) hx hb dX5_product_3 hl (by decide) rfl (fun ls hl => ?_)
  obtain ⟨n_, hw⟩ := hw
  refine tX5_product_5 F  _ n_ 0 0 σ _ _ _ hC (lv_sub hl [2, 3, 4, 1, 0] rfl) hw ?_
  · intro x3_5 x4_5 σ_5 H locs ls hC hl hw
    refine lv_iload_n hx hb dX5_product_38 rfl (lv_at hl 1 rfl) ?_
    refine lv_aload_n hx hb dX5_product_39 rfl (lv_at hl 0 rfl) ?_
    refine ss_get (C := RX5) (T := TX5) (N := 16) (ci := 5) (v := .int (σ_5 0 0)) F hC (0) u_X5 (Nat.le_of_ble_eq_true rfl) rfl rfl 0 (by decide) f_38 rfl dX5_product_40 ?_
    refine lv_irem hx hb dX5_product_43 hw.1 ?_
    replace hw := hw.2
    exact ss_iret F hC hw dX5_product_44

theorem mX5_product (l : Launch) (D : va_G) (A : Nat → Prop) (L : Nat → Nat) (wr : va_W) (cI cZ cS : ClassId) (σ : ss_S) (x1 : Int32) (x2 : Int32)  : ss_MI l yX5_product wsX5_product rmX5_product (ss_EM D A L wr cI cZ cS) [.ref (L (0)), .int (x1), .int (x2)] σ (fun post => wX5_product x1 x2 σ post) :=
  ss_MI.of (cc := cX5_product) (nL := 5) (ret := (some .int)) (own := RX5) (by decide) rfl rfl (Nat.le_of_ble_eq_true rfl) (fun post p e R s m below meth c H locs ls F hC hl hw => bX5_product F  σ H locs ls hC hl hw)

set_option maxHeartbeats 4000000 in
set_option maxRecDepth 100000 in
theorem bX5_times {x1 : Int32} {x2 : Int32} {post : Int32 → ss_S → Prop} (F : ss_F p R s m args meth c (ss_EM D A L wr cI cZ cS) cX5_times 3 wsX5_times RX5 (some .int) rmX5_times)  : ∀ (σ : ss_S) (H : Heap) (locs : List Loc) (ls : Array Slot), ss_C (ss_EM D A L wr cI cZ cS) σ s H locs → lv_has ls 3 [(0, .ref (L (0))), (1, .int (x1)), (2, .int (x2))] → wX5_times x1 x2 σ post → W p l e R s m args below meth c H locs 0 0 (MQ below (va_Qi post (ss_B (ss_EM D A L wr cI cZ cS)) A) args s 0 0 A) (F0 m 0 ls []) := by
  have hx := F.1.1
  have hb := F.1.2.1
  intro σ H locs ls hC hl hw
  unfold wX5_times at hw
  refine lv_aload_n hx hb dX5_times_0 rfl (lv_at hl 0 rfl) ?_
  refine lv_iload_n hx hb dX5_times_1 rfl (lv_at hl 1 rfl) ?_
  refine ss_ki (ss_rV (C := RX5) (As := [.int (x1)]) (rest := []) F ((mX5_isVector l D A L wr cI cZ cS σ x1) _) gX5_times_X5_isVector rfl ⟨rfl, rfl⟩ ⟨rfl, dvX5_isVector⟩ ⟨Nat.le_of_ble_eq_true rfl, Nat.le_of_ble_eq_true rfl⟩ (ss_preV F.2.2.2.2.1 F.2.2.2.2.2 hC (ss_rec (C := RX5) (T := TX5) (N := 16) (ci := 5) F.2.2.2.2.1 hC (0) (Nat.le_of_ble_eq_true rfl) rfl rfl) hw) rfl hl.1 rfl (Nat.le_of_ble_eq_true rfl) dX5_times_2 ⟨Nat.zero_le _, Nat.zero_le _⟩) hC (fun r2 σ1 H locs hC hw => ?_)
  refine lv_if_eq (tgt := 25) hx hb dX5_times_5 (by decide) (fun hc => ?_) (fun hc => ?_)
  · replace hw := hw.1 hc
    refine lv_bipush (v := -101) hx hb dX5_times_25 (by decide) ?_
    exact ss_iret F hC hw dX5_times_27
  · replace hw := hw.2 hc
    refine lv_aload_n hx hb dX5_times_8 rfl (lv_at hl 0 rfl) ?_
    refine lv_iload_n hx hb dX5_times_9 rfl (lv_at hl 2 rfl) ?_
    refine ss_ki (ss_rV (C := RX5) (As := [.int (x2)]) (rest := []) F ((mX5_isVector l D A L wr cI cZ cS σ1 x2) _) gX5_times_X5_isVector rfl ⟨rfl, rfl⟩ ⟨rfl, dvX5_isVector⟩ ⟨Nat.le_of_ble_eq_true rfl, Nat.le_of_ble_eq_true rfl⟩ (ss_preV F.2.2.2.2.1 F.2.2.2.2.2 hC (ss_rec (C := RX5) (T := TX5) (N := 16) (ci := 5) F.2.2.2.2.1 hC (0) (Nat.le_of_ble_eq_true rfl) rfl rfl) hw) rfl hl.1 rfl (Nat.le_of_ble_eq_true rfl) dX5_times_10 ⟨Nat.zero_le _, Nat.zero_le _⟩) hC (fun r4 σ3 H locs hC hw => ?_)
    refine lv_if_eq (tgt := 25) hx hb dX5_times_13 (by decide) (fun hc => ?_) (fun hc => ?_)
    · replace hw := hw.1 hc
      refine lv_bipush (v := -101) hx hb dX5_times_25 (by decide) ?_
      exact ss_iret F hC hw dX5_times_27
    · replace hw := hw.2 hc
      refine lv_aload_n hx hb dX5_times_16 rfl (lv_at hl 0 rfl) ?_
      refine lv_iload_n hx hb dX5_times_17 rfl (lv_at hl 1 rfl) ?_
      refine lv_iload_n hx hb dX5_times_18 rfl (lv_at hl 2 rfl) ?_
      refine ss_ki (ss_rV (C := RX5) (As := [.int (x1), .int (x2)]) (rest := []) F ((mX5_product l D A L wr cI cZ cS σ3 x1 x2) _) gX5_times_X5_product rfl ⟨rfl, rfl⟩ ⟨rfl, dvX5_product⟩ ⟨Nat.le_of_ble_eq_true rfl, Nat.le_of_ble_eq_true rfl⟩ (ss_preV F.2.2.2.2.1 F.2.2.2.2.2 hC (ss_rec (C := RX5) (T := TX5) (N := 16) (ci := 5) F.2.2.2.2.1 hC (0) (Nat.le_of_ble_eq_true rfl) rfl rfl) hw) rfl hl.1 rfl (Nat.le_of_ble_eq_true rfl) dX5_times_19 ⟨Nat.zero_le _, Nat.zero_le _⟩) hC (fun r6 σ5 H locs hC hw => ?_)
      refine lv_goto (tgt := 27) hx hb dX5_times_22 (by decide) ?_
      exact ss_iret F hC hw dX5_times_27

theorem mX5_times (l : Launch) (D : va_G) (A : Nat → Prop) (L : Nat → Nat) (wr : va_W) (cI cZ cS : ClassId) (σ : ss_S) (x1 : Int32) (x2 : Int32)  : ss_MI l yX5_times wsX5_times rmX5_times (ss_EM D A L wr cI cZ cS) [.ref (L (0)), .int (x1), .int (x2)] σ (fun post => wX5_times x1 x2 σ post) :=
  ss_MI.of (cc := cX5_times) (nL := 3) (ret := (some .int)) (own := RX5) (by decide) rfl rfl (Nat.le_of_ble_eq_true rfl) (fun post p e R s m below meth c H locs ls F hC hl hw => bX5_times F  σ H locs ls hC hl hw)

set_option maxHeartbeats 4000000 in
set_option maxRecDepth 100000 in
theorem tX5_settle_14 {x1 : Int32} {x2 : Int32} {post : ss_S → Prop} (F : ss_F p R s m args meth c (ss_EM D A L wr cI cZ cS) cX5_settle 8 wsX5_settle RX5 none rmX5_settle)  (k42 : Int32 → ss_S → Prop) : ∀ (n : Nat) (x3 : Int32) (σ : ss_S) (H : Heap) (locs : List Loc) (ls : Array Slot), ss_C (ss_EM D A L wr cI cZ cS) σ s H locs → lv_has ls 8 [(0, .ref (L (0))), (1, .int (x1)), (2, .int (x2)), (3, .int (x3))] → lX5_settle_14 x1 x2 post k42 n x3 σ →
    (∀ (x3 : Int32) (σ : ss_S) (H : Heap) (locs : List Loc) (ls : Array Slot), ss_C (ss_EM D A L wr cI cZ cS) σ s H locs → lv_has ls 8 [(0, .ref (L (0))), (1, .int (x1)), (2, .int (x2)), (3, .int (x3))] → k42 x3 σ → W p l e R s m args below meth c H locs 0 0 (MQ below (va_Qv post (ss_B (ss_EM D A L wr cI cZ cS)) A) args s 0 0 A) (F0 m 42 ls [])) →
    W p l e R s m args below meth c H locs 0 0 (MQ below (va_Qv post (ss_B (ss_EM D A L wr cI cZ cS)) A) args s 0 0 A) (F0 m 14 ls []) := by
  have hx := F.1.1
  have hb := F.1.2.1
  have u_X5 : ∀ w ∈ u_ws RX5 TX5 16, w ∈ wsX5_settle := by decide +kernel
  have f_76 : (Cond.fieldLink RX5 76 "SmallSpacesModel" "worked" "I").before args s = true := F.1.2.2.2.2 _ (by decide +kernel)
  have f_13 : (Cond.fieldLink RX5 13 "SmallSpacesModel" "work" "[I").before args s = true := F.1.2.2.2.2 _ (by decide +kernel)
  intro n
  induction n with
  | zero => intro x3 σ H locs ls hC hl hw; exact hw.elim
  | succ n ih =>
    intro x3 σ H locs ls hC hl hw hk42
    refine lv_iload_n hx hb dX5_settle_14 rfl (lv_at hl 3 rfl) ?_
    refine lv_aload_n hx hb dX5_settle_15 rfl (lv_at hl 0 rfl) ?_
    refine ss_get (C := RX5) (T := TX5) (N := 16) (ci := 5) (v := .int (σ 0 7)) F hC (0) u_X5 (Nat.le_of_ble_eq_true rfl) rfl rfl 7 (by decide) f_76 rfl dX5_settle_16 ?_
    refine lv_icmp_ge (tgt := 42) hx hb dX5_settle_19 (by decide) (fun hc => ?_) (fun hc => ?_)
    · replace hw := hw.1 hc
      exact hk42 x3 σ _ _ _ hC (lv_sub hl [0, 1, 2, 3] rfl) hw
    · replace hw := hw.2 hc
      refine lv_aload_n hx hb dX5_settle_22 rfl (lv_at hl 0 rfl) ?_
      refine lv_aload_n hx hb dX5_settle_23 rfl (lv_at hl 0 rfl) ?_
      refine ss_get (C := RX5) (T := TX5) (N := 16) (ci := 5) (v := .ref (L (2))) F hC (0) u_X5 (Nat.le_of_ble_eq_true rfl) rfl rfl 6 (by decide) f_13 rfl dX5_settle_24 ?_
      refine lv_iload_n hx hb dX5_settle_27 rfl (lv_at hl 3 rfl) ?_
      refine ss_iald F hC (2) 0 (Nat.le_of_ble_eq_true rfl) (fun _ => rfl) rfl hw.1 dX5_settle_28 ?_
      replace hw := hw.2
      refine lv_iload_n hx hb dX5_settle_29 rfl (lv_at hl 2 rfl) ?_
      refine ss_ki (ss_rV (C := RX5) (As := [.int (σ 2 (Int32.toNatClampNeg x3)), .int (x2)]) (rest := []) F ((mX5_figure l D A L wr cI cZ cS σ (σ 2 (Int32.toNatClampNeg x3)) x2) _) gX5_settle_X5_figure rfl ⟨rfl, rfl⟩ ⟨rfl, dvX5_figure⟩ ⟨Nat.le_of_ble_eq_true rfl, Nat.le_of_ble_eq_true rfl⟩ (ss_preV F.2.2.2.2.1 F.2.2.2.2.2 hC (ss_rec (C := RX5) (T := TX5) (N := 16) (ci := 5) F.2.2.2.2.1 hC (0) (Nat.le_of_ble_eq_true rfl) rfl rfl) hw) rfl hl.1 rfl (Nat.le_of_ble_eq_true rfl) dX5_settle_30 ⟨Nat.zero_le _, Nat.zero_le _⟩) hC (fun r2 σ1 H locs hC hw => ?_)
      refine lv_if_ne (tgt := 42) hx hb dX5_settle_33 (by decide) (fun hc => ?_) (fun hc => ?_)
      · replace hw := hw.1 hc
        exact hk42 x3 σ1 _ _ _ hC (lv_sub hl [0, 1, 2, 3] rfl) hw
      · replace hw := hw.2 hc
        refine lv_iinc (v := x3 + 1) (lv' := [(3, .int (x3 + 1)), (0, .ref (L (0))), (1, .int (x1)), (2, .int (x2))]) hx hb dX5_settle_36 hl (k := 3) rfl rfl (by decide) rfl (fun ls hl => ?_)
        refine lv_goto (tgt := 14) hx hb dX5_settle_39 (by decide) ?_
        exact ih (x3 + 1) σ1 _ _ _ hC (lv_sub hl [1, 2, 3, 0] rfl) hw hk42

set_option maxHeartbeats 4000000 in
set_option maxRecDepth 100000 in
theorem tX5_settle_73 {x1 : Int32} {x2 : Int32} {x4 : Int32} {post : ss_S → Prop} (F : ss_F p R s m args meth c (ss_EM D A L wr cI cZ cS) cX5_settle 8 wsX5_settle RX5 none rmX5_settle)  (k98 : Int32 → ss_S → Prop) : ∀ (n : Nat) (x5 : Int32) (σ : ss_S) (H : Heap) (locs : List Loc) (ls : Array Slot), ss_C (ss_EM D A L wr cI cZ cS) σ s H locs → lv_has ls 8 [(0, .ref (L (0))), (1, .int (x1)), (2, .int (x2)), (4, .int (x4)), (5, .int (x5))] → lX5_settle_73 x1 x2 x4 post k98 n x5 σ →
    (∀ (x5 : Int32) (σ : ss_S) (H : Heap) (locs : List Loc) (ls : Array Slot), ss_C (ss_EM D A L wr cI cZ cS) σ s H locs → lv_has ls 8 [(0, .ref (L (0))), (1, .int (x1)), (2, .int (x2)), (4, .int (x4)), (5, .int (x5))] → k98 x5 σ → W p l e R s m args below meth c H locs 0 0 (MQ below (va_Qv post (ss_B (ss_EM D A L wr cI cZ cS)) A) args s 0 0 A) (F0 m 98 ls [])) →
    W p l e R s m args below meth c H locs 0 0 (MQ below (va_Qv post (ss_B (ss_EM D A L wr cI cZ cS)) A) args s 0 0 A) (F0 m 73 ls []) := by
  have hx := F.1.1
  have hb := F.1.2.1
  have u_X5 : ∀ w ∈ u_ws RX5 TX5 16, w ∈ wsX5_settle := by decide +kernel
  have f_38 : (Cond.fieldLink RX5 38 "SmallSpacesModel" "q" "I").before args s = true := F.1.2.2.2.2 _ (by decide +kernel)
  intro n
  induction n with
  | zero => intro x5 σ H locs ls hC hl hw; exact hw.elim
  | succ n ih =>
    intro x5 σ H locs ls hC hl hw hk98
    refine lv_iload hx hb dX5_settle_73 (lv_at hl 4 rfl) ?_
    refine lv_aload_n hx hb dX5_settle_75 rfl (lv_at hl 0 rfl) ?_
    refine lv_iload hx hb dX5_settle_76 (lv_at hl 3 rfl) ?_
    refine lv_iload_n hx hb dX5_settle_78 rfl (lv_at hl 2 rfl) ?_
    refine ss_ki (ss_rV (C := RX5) (As := [.int (x4), .int (x2)]) (rest := [.int (x5)]) F ((mX5_figure l D A L wr cI cZ cS σ x4 x2) _) gX5_settle_X5_figure rfl ⟨rfl, rfl⟩ ⟨rfl, dvX5_figure⟩ ⟨Nat.le_of_ble_eq_true rfl, Nat.le_of_ble_eq_true rfl⟩ (ss_preV F.2.2.2.2.1 F.2.2.2.2.2 hC (ss_rec (C := RX5) (T := TX5) (N := 16) (ci := 5) F.2.2.2.2.1 hC (0) (Nat.le_of_ble_eq_true rfl) rfl rfl) hw) rfl hl.1 rfl (Nat.le_of_ble_eq_true rfl) dX5_settle_79 ⟨Nat.zero_le _, Nat.zero_le _⟩) hC (fun r5 σ4 H locs hC hw => ?_)
    refine lv_imul hx hb dX5_settle_82 ?_
    refine lv_aload_n hx hb dX5_settle_83 rfl (lv_at hl 0 rfl) ?_
    refine ss_get (C := RX5) (T := TX5) (N := 16) (ci := 5) (v := .int (σ4 0 0)) F hC (0) u_X5 (Nat.le_of_ble_eq_true rfl) rfl rfl 0 (by decide) f_38 rfl dX5_settle_84 ?_
    refine lv_irem hx hb dX5_settle_87 hw.1 ?_
    replace hw := hw.2
    refine lv_iconst (v := 1) hx hb dX5_settle_88 (by decide) ?_
    refine lv_icmp_eq (tgt := 98) hx hb dX5_settle_89 (by decide) (fun hc => ?_) (fun hc => ?_)
    · replace hw := hw.1 hc
      exact hk98 x5 σ4 _ _ _ hC (lv_sub hl [0, 1, 2, 3, 4] rfl) hw
    · replace hw := hw.2 hc
      refine lv_iinc (v := x5 + 1) (lv' := [(5, .int (x5 + 1)), (0, .ref (L (0))), (1, .int (x1)), (2, .int (x2)), (4, .int (x4))]) hx hb dX5_settle_92 hl (k := 4) rfl rfl (by decide) rfl (fun ls hl => ?_)
      refine lv_goto (tgt := 73) hx hb dX5_settle_95 (by decide) ?_
      exact ih (x5 + 1) σ4 _ _ _ hC (lv_sub hl [1, 2, 3, 4, 0] rfl) hw hk98

set_option maxHeartbeats 4000000 in
set_option maxRecDepth 100000 in
theorem tX5_settle_120 {x1 : Int32} {x2 : Int32} {x4 : Int32} {post : ss_S → Prop} (F : ss_F p R s m args meth c (ss_EM D A L wr cI cZ cS) cX5_settle 8 wsX5_settle RX5 none rmX5_settle)  (k187 : Int32 → ss_S → Prop) : ∀ (n : Nat) (x6 : Int32) (σ : ss_S) (H : Heap) (locs : List Loc) (ls : Array Slot), ss_C (ss_EM D A L wr cI cZ cS) σ s H locs → lv_has ls 8 [(0, .ref (L (0))), (1, .int (x1)), (2, .int (x2)), (4, .int (x4)), (6, .int (x6))] → lX5_settle_120 x1 x2 x4 post k187 n x6 σ →
    (∀ (x6 : Int32) (σ : ss_S) (H : Heap) (locs : List Loc) (ls : Array Slot), ss_C (ss_EM D A L wr cI cZ cS) σ s H locs → lv_has ls 8 [(0, .ref (L (0))), (1, .int (x1)), (2, .int (x2))] → k187 x6 σ → W p l e R s m args below meth c H locs 0 0 (MQ below (va_Qv post (ss_B (ss_EM D A L wr cI cZ cS)) A) args s 0 0 A) (F0 m 187 ls [])) →
    W p l e R s m args below meth c H locs 0 0 (MQ below (va_Qv post (ss_B (ss_EM D A L wr cI cZ cS)) A) args s 0 0 A) (F0 m 120 ls []) := by
  have hx := F.1.1
  have hb := F.1.2.1
  have u_X5 : ∀ w ∈ u_ws RX5 TX5 16, w ∈ wsX5_settle := by decide +kernel
  have f_76 : (Cond.fieldLink RX5 76 "SmallSpacesModel" "worked" "I").before args s = true := F.1.2.2.2.2 _ (by decide +kernel)
  have f_13 : (Cond.fieldLink RX5 13 "SmallSpacesModel" "work" "[I").before args s = true := F.1.2.2.2.2 _ (by decide +kernel)
  have f_38 : (Cond.fieldLink RX5 38 "SmallSpacesModel" "q" "I").before args s = true := F.1.2.2.2.2 _ (by decide +kernel)
  intro n
  induction n with
  | zero => intro x6 σ H locs ls hC hl hw; exact hw.elim
  | succ n ih =>
    intro x6 σ H locs ls hC hl hw hk187
    refine lv_iload hx hb dX5_settle_120 (lv_at hl 4 rfl) ?_
    refine lv_aload_n hx hb dX5_settle_122 rfl (lv_at hl 0 rfl) ?_
    refine ss_get (C := RX5) (T := TX5) (N := 16) (ci := 5) (v := .int (σ 0 7)) F hC (0) u_X5 (Nat.le_of_ble_eq_true rfl) rfl rfl 7 (by decide) f_76 rfl dX5_settle_123 ?_
    refine lv_icmp_ge (tgt := 187) hx hb dX5_settle_126 (by decide) (fun hc => ?_) (fun hc => ?_)
    · replace hw := hw.1 hc
      exact hk187 x6 σ _ _ _ hC (lv_sub hl [0, 1, 2] rfl) hw
    · replace hw := hw.2 hc
      refine lv_aload_n hx hb dX5_settle_129 rfl (lv_at hl 0 rfl) ?_
      refine lv_aload_n hx hb dX5_settle_130 rfl (lv_at hl 0 rfl) ?_
      refine ss_get (C := RX5) (T := TX5) (N := 16) (ci := 5) (v := .ref (L (2))) F hC (0) u_X5 (Nat.le_of_ble_eq_true rfl) rfl rfl 6 (by decide) f_13 rfl dX5_settle_131 ?_
      refine lv_iload hx hb dX5_settle_134 (lv_at hl 4 rfl) ?_
      refine ss_iald F hC (2) 0 (Nat.le_of_ble_eq_true rfl) (fun _ => rfl) rfl hw.1 dX5_settle_136 ?_
      replace hw := hw.2
      refine lv_iload_n hx hb dX5_settle_137 rfl (lv_at hl 2 rfl) ?_
      refine ss_ki (ss_rV (C := RX5) (As := [.int (σ 2 (Int32.toNatClampNeg x6)), .int (x2)]) (rest := []) F ((mX5_figure l D A L wr cI cZ cS σ (σ 2 (Int32.toNatClampNeg x6)) x2) _) gX5_settle_X5_figure rfl ⟨rfl, rfl⟩ ⟨rfl, dvX5_figure⟩ ⟨Nat.le_of_ble_eq_true rfl, Nat.le_of_ble_eq_true rfl⟩ (ss_preV F.2.2.2.2.1 F.2.2.2.2.2 hC (ss_rec (C := RX5) (T := TX5) (N := 16) (ci := 5) F.2.2.2.2.1 hC (0) (Nat.le_of_ble_eq_true rfl) rfl rfl) hw) rfl hl.1 rfl (Nat.le_of_ble_eq_true rfl) dX5_settle_138 ⟨Nat.zero_le _, Nat.zero_le _⟩) hC (fun r10 σ9 H locs hC hw => ?_)
      refine lv_istore (lv' := [(7, .int (r10)), (0, .ref (L (0))), (1, .int (x1)), (2, .int (x2)), (4, .int (x4)), (6, .int (x6))]) hx hb dX5_settle_141 hl (by decide) rfl (fun ls hl => ?_)
      refine lv_iload hx hb dX5_settle_143 (lv_at hl 5 rfl) ?_
      refine lv_iload_n hx hb dX5_settle_145 rfl (lv_at hl 2 rfl) ?_
      refine lv_icmp_eq (tgt := 181) hx hb dX5_settle_146 (by decide) (fun hc => ?_) (fun hc => ?_)
      · replace hw := hw.1 hc
        refine lv_iinc (v := x6 + 1) (lv' := [(6, .int (x6 + 1)), (7, .int (r10)), (0, .ref (L (0))), (1, .int (x1)), (2, .int (x2)), (4, .int (x4))]) hx hb dX5_settle_181 hl (k := 5) rfl rfl (by decide) rfl (fun ls hl => ?_)
        refine lv_goto (tgt := 120) hx hb dX5_settle_184 (by decide) ?_
        exact ih (x6 + 1) σ9 _ _ _ hC (lv_sub hl [2, 3, 4, 5, 0] rfl) hw hk187
      · replace hw := hw.2 hc
        refine lv_iload hx hb dX5_settle_149 (lv_at hl 0 rfl) ?_
        refine lv_if_eq (tgt := 181) hx hb dX5_settle_151 (by decide) (fun hc => ?_) (fun hc => ?_)
        · replace hw := hw.1 hc
          refine lv_iinc (v := x6 + 1) (lv' := [(6, .int (x6 + 1)), (7, .int (r10)), (0, .ref (L (0))), (1, .int (x1)), (2, .int (x2)), (4, .int (x4))]) hx hb dX5_settle_181 hl (k := 5) rfl rfl (by decide) rfl (fun ls hl => ?_)
          refine lv_goto (tgt := 120) hx hb dX5_settle_184 (by decide) ?_
          exact ih (x6 + 1) σ9 _ _ _ hC (lv_sub hl [2, 3, 4, 5, 0] rfl) hw hk187
        · replace hw := hw.2 hc
          refine lv_aload_n hx hb dX5_settle_154 rfl (lv_at hl 1 rfl) ?_
          refine ss_get (C := RX5) (T := TX5) (N := 16) (ci := 5) (v := .ref (L (2))) F hC (0) u_X5 (Nat.le_of_ble_eq_true rfl) rfl rfl 6 (by decide) f_13 rfl dX5_settle_155 ?_
          refine lv_iload hx hb dX5_settle_158 (lv_at hl 5 rfl) ?_
          refine lv_aload_n hx hb dX5_settle_160 rfl (lv_at hl 1 rfl) ?_
          refine lv_aload_n hx hb dX5_settle_161 rfl (lv_at hl 1 rfl) ?_
          refine ss_get (C := RX5) (T := TX5) (N := 16) (ci := 5) (v := .ref (L (2))) F hC (0) u_X5 (Nat.le_of_ble_eq_true rfl) rfl rfl 6 (by decide) f_13 rfl dX5_settle_162 ?_
          refine lv_iload hx hb dX5_settle_165 (lv_at hl 5 rfl) ?_
          refine ss_iald F hC (2) 0 (Nat.le_of_ble_eq_true rfl) (fun _ => rfl) rfl hw.1 dX5_settle_167 ?_
          replace hw := hw.2
          refine lv_iload hx hb dX5_settle_168 (lv_at hl 4 rfl) ?_
          refine lv_aload_n hx hb dX5_settle_170 rfl (lv_at hl 1 rfl) ?_
          refine ss_get (C := RX5) (T := TX5) (N := 16) (ci := 5) (v := .int (σ9 0 0)) F hC (0) u_X5 (Nat.le_of_ble_eq_true rfl) rfl rfl 0 (by decide) f_38 rfl dX5_settle_171 ?_
          refine lv_iload hx hb dX5_settle_174 (lv_at hl 0 rfl) ?_
          refine lv_isub hx hb dX5_settle_176 ?_
          refine ss_ki (ss_rV (C := RX5) (As := [.int (σ9 2 (Int32.toNatClampNeg x6)), .int (x4), .int ((σ9 0 0) - r10)]) (rest := [.int (x6), .ref (L (2))]) F ((mX5_sum l D A L wr cI cZ cS σ9 (σ9 2 (Int32.toNatClampNeg x6)) x4 ((σ9 0 0) - r10)) _) gX5_settle_X5_sum rfl ⟨rfl, rfl⟩ ⟨rfl, dvX5_sum⟩ ⟨Nat.le_of_ble_eq_true rfl, Nat.le_of_ble_eq_true rfl⟩ (ss_preV F.2.2.2.2.1 F.2.2.2.2.2 hC (ss_rec (C := RX5) (T := TX5) (N := 16) (ci := 5) F.2.2.2.2.1 hC (0) (Nat.le_of_ble_eq_true rfl) rfl rfl) hw) rfl hl.1 rfl (Nat.le_of_ble_eq_true rfl) dX5_settle_177 ⟨Nat.zero_le _, Nat.zero_le _⟩) hC (fun r12 σ11 H locs hC hw => ?_)
          refine ss_iast F hC (2) 0 (Nat.le_of_ble_eq_true rfl) (fun _ => rfl) rfl hw.1 dX5_settle_180 (fun H locs hC => ?_)
          replace hw := hw.2
          refine lv_iinc (v := x6 + 1) (lv' := [(6, .int (x6 + 1)), (7, .int (r10)), (0, .ref (L (0))), (1, .int (x1)), (2, .int (x2)), (4, .int (x4))]) hx hb dX5_settle_181 hl (k := 5) rfl rfl (by decide) rfl (fun ls hl => ?_)
          refine lv_goto (tgt := 120) hx hb dX5_settle_184 (by decide) ?_
          exact ih (x6 + 1) (u2 σ11 2 (Int32.toNatClampNeg x6) r12) _ _ _ hC (lv_sub hl [2, 3, 4, 5, 0] rfl) hw hk187

set_option maxHeartbeats 4000000 in
set_option maxRecDepth 100000 in
theorem tX5_settle_4  {post : ss_S → Prop} (F : ss_F p R s m args meth c (ss_EM D A L wr cI cZ cS) cX5_settle 8 wsX5_settle RX5 none rmX5_settle)  (k196 : Int32 → Int32 → ss_S → Prop) : ∀ (n : Nat) (x1 : Int32) (x2 : Int32) (σ : ss_S) (H : Heap) (locs : List Loc) (ls : Array Slot), ss_C (ss_EM D A L wr cI cZ cS) σ s H locs → lv_has ls 8 [(0, .ref (L (0))), (1, .int (x1)), (2, .int (x2))] → lX5_settle_4 post k196 n x1 x2 σ →
    (∀ (x1 : Int32) (x2 : Int32) (σ : ss_S) (H : Heap) (locs : List Loc) (ls : Array Slot), ss_C (ss_EM D A L wr cI cZ cS) σ s H locs → lv_has ls 8 [(0, .ref (L (0))), (1, .int (x1))] → k196 x1 x2 σ → W p l e R s m args below meth c H locs 0 0 (MQ below (va_Qv post (ss_B (ss_EM D A L wr cI cZ cS)) A) args s 0 0 A) (F0 m 196 ls [])) →
    W p l e R s m args below meth c H locs 0 0 (MQ below (va_Qv post (ss_B (ss_EM D A L wr cI cZ cS)) A) args s 0 0 A) (F0 m 4 ls []) := by
  have hx := F.1.1
  have hb := F.1.2.1
  have u_X5 : ∀ w ∈ u_ws RX5 TX5 16, w ∈ wsX5_settle := by decide +kernel
  have f_42 : (Cond.fieldLink RX5 42 "SmallSpacesModel" "n" "I").before args s = true := F.1.2.2.2.2 _ (by decide +kernel)
  have f_76 : (Cond.fieldLink RX5 76 "SmallSpacesModel" "worked" "I").before args s = true := F.1.2.2.2.2 _ (by decide +kernel)
  have f_13 : (Cond.fieldLink RX5 13 "SmallSpacesModel" "work" "[I").before args s = true := F.1.2.2.2.2 _ (by decide +kernel)
  intro n
  induction n with
  | zero => intro x1 x2 σ H locs ls hC hl hw; exact hw.elim
  | succ n ih =>
    intro x1 x2 σ H locs ls hC hl hw hk196
    refine lv_iload_n hx hb dX5_settle_4 rfl (lv_at hl 2 rfl) ?_
    refine lv_aload_n hx hb dX5_settle_5 rfl (lv_at hl 0 rfl) ?_
    refine ss_get (C := RX5) (T := TX5) (N := 16) (ci := 5) (v := .int (σ 0 1)) F hC (0) u_X5 (Nat.le_of_ble_eq_true rfl) rfl rfl 1 (by decide) f_42 rfl dX5_settle_6 ?_
    refine lv_icmp_ge (tgt := 196) hx hb dX5_settle_9 (by decide) (fun hc => ?_) (fun hc => ?_)
    · replace hw := hw.1 hc
      exact hk196 x1 x2 σ _ _ _ hC (lv_sub hl [0, 1] rfl) hw
    · replace hw := hw.2 hc
      refine lv_iload_n hx hb dX5_settle_12 rfl (lv_at hl 1 rfl) ?_
      refine lv_istore_n (lv' := [(3, .int (x1)), (0, .ref (L (0))), (1, .int (x1)), (2, .int (x2))]) hx hb dX5_settle_13 rfl hl (by decide) rfl (fun ls hl => ?_)
      obtain ⟨n_, hw⟩ := hw
      refine tX5_settle_14 F  _ n_ x1 σ _ _ _ hC (lv_sub hl [1, 2, 3, 0] rfl) hw ?_
      · intro x3_3 σ_3 H locs ls hC hl hw
        refine lv_iload_n hx hb dX5_settle_42 rfl (lv_at hl 3 rfl) ?_
        refine lv_aload_n hx hb dX5_settle_43 rfl (lv_at hl 0 rfl) ?_
        refine ss_get (C := RX5) (T := TX5) (N := 16) (ci := 5) (v := .int (σ_3 0 7)) F hC (0) u_X5 (Nat.le_of_ble_eq_true rfl) rfl rfl 7 (by decide) f_76 rfl dX5_settle_44 ?_
        refine lv_icmp_ge (tgt := 190) hx hb dX5_settle_47 (by decide) (fun hc => ?_) (fun hc => ?_)
        · replace hw := hw.1 hc
          refine lv_iinc (v := x2 + 1) (lv' := [(2, .int (x2 + 1)), (0, .ref (L (0))), (1, .int (x1)), (3, .int (x3_3))]) hx hb dX5_settle_190 hl (k := 2) rfl rfl (by decide) rfl (fun ls hl => ?_)
          refine lv_goto (tgt := 4) hx hb dX5_settle_193 (by decide) ?_
          exact ih x1 (x2 + 1) σ_3 _ _ _ hC (lv_sub hl [1, 2, 0] rfl) hw hk196
        · replace hw := hw.2 hc
          refine lv_aload_n hx hb dX5_settle_50 rfl (lv_at hl 0 rfl) ?_
          refine ss_get (C := RX5) (T := TX5) (N := 16) (ci := 5) (v := .ref (L (2))) F hC (0) u_X5 (Nat.le_of_ble_eq_true rfl) rfl rfl 6 (by decide) f_13 rfl dX5_settle_51 ?_
          refine lv_iload_n hx hb dX5_settle_54 rfl (lv_at hl 3 rfl) ?_
          refine ss_iald F hC (2) 0 (Nat.le_of_ble_eq_true rfl) (fun _ => rfl) rfl hw.1 dX5_settle_55 ?_
          replace hw := hw.2
          refine lv_istore (lv' := [(4, .int (σ_3 2 (Int32.toNatClampNeg x3_3))), (0, .ref (L (0))), (1, .int (x1)), (2, .int (x2)), (3, .int (x3_3))]) hx hb dX5_settle_56 hl (by decide) rfl (fun ls hl => ?_)
          refine lv_aload_n hx hb dX5_settle_58 rfl (lv_at hl 1 rfl) ?_
          refine ss_get (C := RX5) (T := TX5) (N := 16) (ci := 5) (v := .ref (L (2))) F hC (0) u_X5 (Nat.le_of_ble_eq_true rfl) rfl rfl 6 (by decide) f_13 rfl dX5_settle_59 ?_
          refine lv_iload_n hx hb dX5_settle_62 rfl (lv_at hl 4 rfl) ?_
          refine lv_aload_n hx hb dX5_settle_63 rfl (lv_at hl 1 rfl) ?_
          refine ss_get (C := RX5) (T := TX5) (N := 16) (ci := 5) (v := .ref (L (2))) F hC (0) u_X5 (Nat.le_of_ble_eq_true rfl) rfl rfl 6 (by decide) f_13 rfl dX5_settle_64 ?_
          refine lv_iload_n hx hb dX5_settle_67 rfl (lv_at hl 2 rfl) ?_
          refine ss_iald F hC (2) 0 (Nat.le_of_ble_eq_true rfl) (fun _ => rfl) rfl hw.1 dX5_settle_68 ?_
          replace hw := hw.2
          refine ss_iast F hC (2) 0 (Nat.le_of_ble_eq_true rfl) (fun _ => rfl) rfl hw.1 dX5_settle_69 (fun H locs hC => ?_)
          replace hw := hw.2
          refine lv_iconst (v := 1) hx hb dX5_settle_70 (by decide) ?_
          refine lv_istore (lv' := [(5, .int (1)), (4, .int (σ_3 2 (Int32.toNatClampNeg x3_3))), (0, .ref (L (0))), (1, .int (x1)), (2, .int (x2)), (3, .int (x3_3))]) hx hb dX5_settle_71 hl (by decide) rfl (fun ls hl => ?_)
          obtain ⟨n_, hw⟩ := hw
          refine tX5_settle_73 F  _ n_ 1 (u2 σ_3 2 (Int32.toNatClampNeg x3_3) (σ_3 2 (Int32.toNatClampNeg x1))) _ _ _ hC (lv_sub hl [2, 3, 4, 1, 0] rfl) hw ?_
          · intro x5_6 σ_6 H locs ls hC hl hw
            refine lv_aload_n hx hb dX5_settle_98 rfl (lv_at hl 0 rfl) ?_
            refine lv_iconst (v := 0) hx hb dX5_settle_99 (by decide) ?_
            refine lv_iload hx hb dX5_settle_100 (lv_at hl 3 rfl) ?_
            refine lv_iload hx hb dX5_settle_102 (lv_at hl 4 rfl) ?_
            refine ss_ki (ss_rV (C := RX5) (As := [.int (0), .int (σ_3 2 (Int32.toNatClampNeg x3_3)), .int (x5_6)]) (rest := []) F ((mX5_sum l D A L wr cI cZ cS σ_6 0 (σ_3 2 (Int32.toNatClampNeg x3_3)) x5_6) _) gX5_settle_X5_sum rfl ⟨rfl, rfl⟩ ⟨rfl, dvX5_sum⟩ ⟨Nat.le_of_ble_eq_true rfl, Nat.le_of_ble_eq_true rfl⟩ (ss_preV F.2.2.2.2.1 F.2.2.2.2.2 hC (ss_rec (C := RX5) (T := TX5) (N := 16) (ci := 5) F.2.2.2.2.1 hC (0) (Nat.le_of_ble_eq_true rfl) rfl rfl) hw) rfl hl.1 rfl (Nat.le_of_ble_eq_true rfl) dX5_settle_104 ⟨Nat.zero_le _, Nat.zero_le _⟩) hC (fun r8 σ7 H locs hC hw => ?_)
            refine lv_istore (lv' := [(4, .int (r8)), (0, .ref (L (0))), (1, .int (x1)), (2, .int (x2)), (5, .int (x5_6))]) hx hb dX5_settle_107 hl (by decide) rfl (fun ls hl => ?_)
            refine lv_aload_n hx hb dX5_settle_109 rfl (lv_at hl 1 rfl) ?_
            refine ss_get (C := RX5) (T := TX5) (N := 16) (ci := 5) (v := .ref (L (2))) F hC (0) u_X5 (Nat.le_of_ble_eq_true rfl) rfl rfl 6 (by decide) f_13 rfl dX5_settle_110 ?_
            refine lv_iload_n hx hb dX5_settle_113 rfl (lv_at hl 2 rfl) ?_
            refine lv_iload hx hb dX5_settle_114 (lv_at hl 0 rfl) ?_
            refine ss_iast F hC (2) 0 (Nat.le_of_ble_eq_true rfl) (fun _ => rfl) rfl hw.1 dX5_settle_116 (fun H locs hC => ?_)
            replace hw := hw.2
            refine lv_iconst (v := 0) hx hb dX5_settle_117 (by decide) ?_
            refine lv_istore (lv' := [(6, .int (0)), (4, .int (r8)), (0, .ref (L (0))), (1, .int (x1)), (2, .int (x2)), (5, .int (x5_6))]) hx hb dX5_settle_118 hl (by decide) rfl (fun ls hl => ?_)
            obtain ⟨n_, hw⟩ := hw
            refine tX5_settle_120 F  _ n_ 0 (u2 σ7 2 (Int32.toNatClampNeg x1) r8) _ _ _ hC (lv_sub hl [2, 3, 4, 1, 0] rfl) hw ?_
            · intro x6_13 σ_13 H locs ls hC hl hw
              refine lv_iinc (v := x1 + 1) (lv' := [(1, .int (x1 + 1)), (0, .ref (L (0))), (2, .int (x2))]) hx hb dX5_settle_187 hl (k := 1) rfl rfl (by decide) rfl (fun ls hl => ?_)
              refine lv_iinc (v := x2 + 1) (lv' := [(2, .int (x2 + 1)), (1, .int (x1 + 1)), (0, .ref (L (0)))]) hx hb dX5_settle_190 hl (k := 2) rfl rfl (by decide) rfl (fun ls hl => ?_)
              refine lv_goto (tgt := 4) hx hb dX5_settle_193 (by decide) ?_
              exact ih (x1 + 1) (x2 + 1) σ_13 _ _ _ hC (lv_sub hl [2, 1, 0] rfl) hw hk196

set_option maxHeartbeats 4000000 in
set_option maxRecDepth 100000 in
theorem bX5_settle  {post : ss_S → Prop} (F : ss_F p R s m args meth c (ss_EM D A L wr cI cZ cS) cX5_settle 8 wsX5_settle RX5 none rmX5_settle)  : ∀ (σ : ss_S) (H : Heap) (locs : List Loc) (ls : Array Slot), ss_C (ss_EM D A L wr cI cZ cS) σ s H locs → lv_has ls 8 [(0, .ref (L (0)))] → wX5_settle  σ post → W p l e R s m args below meth c H locs 0 0 (MQ below (va_Qv post (ss_B (ss_EM D A L wr cI cZ cS)) A) args s 0 0 A) (F0 m 0 ls []) := by
  have hx := F.1.1
  have hb := F.1.2.1
  have u_X5 : ∀ w ∈ u_ws RX5 TX5 16, w ∈ wsX5_settle := by decide +kernel
  have f_76 : (Cond.fieldLink RX5 76 "SmallSpacesModel" "worked" "I").before args s = true := F.1.2.2.2.2 _ (by decide +kernel)
  intro σ H locs ls hC hl hw
  unfold wX5_settle at hw
  refine lv_iconst (v := 0) hx hb dX5_settle_0 (by decide) ?_
  refine lv_istore_n (lv' := [(1, .int (0)), (0, .ref (L (0)))]) hx hb dX5_settle_1 rfl hl (by decide) rfl (fun ls hl => ?_)
  refine lv_iconst (v := 0) hx hb dX5_settle_2 (by decide) ?_
  refine lv_istore_n (lv' := [(2, .int (0)), (1, .int (0)), (0, .ref (L (0)))]) hx hb dX5_settle_3 rfl hl (by decide) rfl (fun ls hl => ?_)
  obtain ⟨n_, hw⟩ := hw
  refine tX5_settle_4 F  _ n_ 0 0 σ _ _ _ hC (lv_sub hl [2, 1, 0] rfl) hw ?_
  · intro x1_14 x2_14 σ_14 H locs ls hC hl hw
    refine lv_aload_n hx hb dX5_settle_196 rfl (lv_at hl 0 rfl) ?_
    refine lv_iload_n hx hb dX5_settle_197 rfl (lv_at hl 1 rfl) ?_
    refine ss_put (C := RX5) (T := TX5) (N := 16) (ci := 5) F hC (0) tyX5 tyX5_ok nmX5 u_X5 (Nat.le_of_ble_eq_true rfl) rfl rfl 7 (by decide) f_76 rfl (by decide +kernel) (Nat.le_of_ble_eq_true rfl) rfl dX5_settle_198 (fun H locs hC => ?_)
    exact ss_vret F hC hw dX5_settle_201

theorem mX5_settle (l : Launch) (D : va_G) (A : Nat → Prop) (L : Nat → Nat) (wr : va_W) (cI cZ cS : ClassId) (σ : ss_S)   : ss_MV l yX5_settle wsX5_settle rmX5_settle (ss_EM D A L wr cI cZ cS) [.ref (L (0))] σ (fun post => wX5_settle  σ post) :=
  ss_MV.of (cc := cX5_settle) (nL := 8) (ret := none) (own := RX5) (by decide) rfl rfl (Nat.le_of_ble_eq_true rfl) (fun post p e R s m below meth c H locs ls F hC hl hw => bX5_settle F  σ H locs ls hC hl hw)

set_option maxHeartbeats 4000000 in
set_option maxRecDepth 100000 in
theorem tX5_pivot_2 {x1 : Int32} {post : Int32 → ss_S → Prop} (F : ss_F p R s m args meth c (ss_EM D A L wr cI cZ cS) cX5_pivot 3 wsX5_pivot RX5 (some .int) rmX5_pivot)  (k17 : Int32 → ss_S → Prop) : ∀ (n : Nat) (x2 : Int32) (σ : ss_S) (H : Heap) (locs : List Loc) (ls : Array Slot), ss_C (ss_EM D A L wr cI cZ cS) σ s H locs → lv_has ls 3 [(0, .ref (L (0))), (1, .int (x1)), (2, .int (x2))] → lX5_pivot_2 x1 post k17 n x2 σ →
    (∀ (x2 : Int32) (σ : ss_S) (H : Heap) (locs : List Loc) (ls : Array Slot), ss_C (ss_EM D A L wr cI cZ cS) σ s H locs → lv_has ls 3 [(2, .int (x2))] → k17 x2 σ → W p l e R s m args below meth c H locs 0 0 (MQ below (va_Qi post (ss_B (ss_EM D A L wr cI cZ cS)) A) args s 0 0 A) (F0 m 17 ls [])) →
    W p l e R s m args below meth c H locs 0 0 (MQ below (va_Qi post (ss_B (ss_EM D A L wr cI cZ cS)) A) args s 0 0 A) (F0 m 2 ls []) := by
  have hx := F.1.1
  have hb := F.1.2.1
  intro n
  induction n with
  | zero => intro x2 σ H locs ls hC hl hw; exact hw.elim
  | succ n ih =>
    intro x2 σ H locs ls hC hl hw hk17
    refine lv_aload_n hx hb dX5_pivot_2 rfl (lv_at hl 0 rfl) ?_
    refine lv_iload_n hx hb dX5_pivot_3 rfl (lv_at hl 1 rfl) ?_
    refine lv_iload_n hx hb dX5_pivot_4 rfl (lv_at hl 2 rfl) ?_
    refine ss_ki (ss_rV (C := RX5) (As := [.int (x1), .int (x2)]) (rest := []) F ((mX5_figure l D A L wr cI cZ cS σ x1 x2) _) gX5_pivot_X5_figure rfl ⟨rfl, rfl⟩ ⟨rfl, dvX5_figure⟩ ⟨Nat.le_of_ble_eq_true rfl, Nat.le_of_ble_eq_true rfl⟩ (ss_preV F.2.2.2.2.1 F.2.2.2.2.2 hC (ss_rec (C := RX5) (T := TX5) (N := 16) (ci := 5) F.2.2.2.2.1 hC (0) (Nat.le_of_ble_eq_true rfl) rfl rfl) hw) rfl hl.1 rfl (Nat.le_of_ble_eq_true rfl) dX5_pivot_5 ⟨Nat.zero_le _, Nat.zero_le _⟩) hC (fun r2 σ1 H locs hC hw => ?_)
    refine lv_if_ne (tgt := 17) hx hb dX5_pivot_8 (by decide) (fun hc => ?_) (fun hc => ?_)
    · replace hw := hw.1 hc
      exact hk17 x2 σ1 _ _ _ hC (lv_sub hl [2] rfl) hw
    · replace hw := hw.2 hc
      refine lv_iinc (v := x2 + 1) (lv' := [(2, .int (x2 + 1)), (0, .ref (L (0))), (1, .int (x1))]) hx hb dX5_pivot_11 hl (k := 2) rfl rfl (by decide) rfl (fun ls hl => ?_)
      refine lv_goto (tgt := 2) hx hb dX5_pivot_14 (by decide) ?_
      exact ih (x2 + 1) σ1 _ _ _ hC (lv_sub hl [1, 2, 0] rfl) hw hk17

set_option maxHeartbeats 4000000 in
set_option maxRecDepth 100000 in
theorem bX5_pivot {x1 : Int32} {post : Int32 → ss_S → Prop} (F : ss_F p R s m args meth c (ss_EM D A L wr cI cZ cS) cX5_pivot 3 wsX5_pivot RX5 (some .int) rmX5_pivot)  : ∀ (σ : ss_S) (H : Heap) (locs : List Loc) (ls : Array Slot), ss_C (ss_EM D A L wr cI cZ cS) σ s H locs → lv_has ls 3 [(0, .ref (L (0))), (1, .int (x1))] → wX5_pivot x1 σ post → W p l e R s m args below meth c H locs 0 0 (MQ below (va_Qi post (ss_B (ss_EM D A L wr cI cZ cS)) A) args s 0 0 A) (F0 m 0 ls []) := by
  have hx := F.1.1
  have hb := F.1.2.1
  intro σ H locs ls hC hl hw
  unfold wX5_pivot at hw
  refine lv_iconst (v := 0) hx hb dX5_pivot_0 (by decide) ?_
  refine lv_istore_n (lv' := [(2, .int (0)), (0, .ref (L (0))), (1, .int (x1))]) hx hb dX5_pivot_1 rfl hl (by decide) rfl (fun ls hl => ?_)
  obtain ⟨n_, hw⟩ := hw
  refine tX5_pivot_2 F  _ n_ 0 σ _ _ _ hC (lv_sub hl [1, 2, 0] rfl) hw ?_
  · intro x2_3 σ_3 H locs ls hC hl hw
    refine lv_iload_n hx hb dX5_pivot_17 rfl (lv_at hl 0 rfl) ?_
    exact ss_iret F hC hw dX5_pivot_18

theorem mX5_pivot (l : Launch) (D : va_G) (A : Nat → Prop) (L : Nat → Nat) (wr : va_W) (cI cZ cS : ClassId) (σ : ss_S) (x1 : Int32)  : ss_MI l yX5_pivot wsX5_pivot rmX5_pivot (ss_EM D A L wr cI cZ cS) [.ref (L (0)), .int (x1)] σ (fun post => wX5_pivot x1 σ post) :=
  ss_MI.of (cc := cX5_pivot) (nL := 3) (ret := (some .int)) (own := RX5) (by decide) rfl rfl (Nat.le_of_ble_eq_true rfl) (fun post p e R s m below meth c H locs ls F hC hl hw => bX5_pivot F  σ H locs ls hC hl hw)

set_option maxHeartbeats 4000000 in
set_option maxRecDepth 100000 in
theorem tX5_turn_7 {x1 : Int32} {post : ss_S → Prop} (F : ss_F p R s m args meth c (ss_EM D A L wr cI cZ cS) cX5_turn 6 wsX5_turn RX5 none rmX5_turn)  (k26 : Int32 → ss_S → Prop) : ∀ (n : Nat) (x2 : Int32) (σ : ss_S) (H : Heap) (locs : List Loc) (ls : Array Slot), ss_C (ss_EM D A L wr cI cZ cS) σ s H locs → lv_has ls 6 [(0, .ref (L (0))), (1, .int (x1)), (2, .int (x2))] → lX5_turn_7 x1 post k26 n x2 σ →
    (∀ (x2 : Int32) (σ : ss_S) (H : Heap) (locs : List Loc) (ls : Array Slot), ss_C (ss_EM D A L wr cI cZ cS) σ s H locs → lv_has ls 6 [(0, .ref (L (0))), (1, .int (x1))] → k26 x2 σ → W p l e R s m args below meth c H locs 0 0 (MQ below (va_Qv post (ss_B (ss_EM D A L wr cI cZ cS)) A) args s 0 0 A) (F0 m 26 ls [])) →
    W p l e R s m args below meth c H locs 0 0 (MQ below (va_Qv post (ss_B (ss_EM D A L wr cI cZ cS)) A) args s 0 0 A) (F0 m 7 ls []) := by
  have hx := F.1.1
  have hb := F.1.2.1
  have u_X5 : ∀ w ∈ u_ws RX5 TX5 16, w ∈ wsX5_turn := by decide +kernel
  have f_16 : (Cond.fieldLink RX5 16 "SmallSpacesModel" "isPivot" "[Z").before args s = true := F.1.2.2.2.2 _ (by decide +kernel)
  intro n
  induction n with
  | zero => intro x2 σ H locs ls hC hl hw; exact hw.elim
  | succ n ih =>
    intro x2 σ H locs ls hC hl hw hk26
    refine lv_iload_n hx hb dX5_turn_7 rfl (lv_at hl 2 rfl) ?_
    refine lv_bipush (v := 6) hx hb dX5_turn_8 (by decide) ?_
    refine lv_icmp_ge (tgt := 26) hx hb dX5_turn_10 (by decide) (fun hc => ?_) (fun hc => ?_)
    · replace hw := hw.1 hc
      exact hk26 x2 σ _ _ _ hC (lv_sub hl [0, 1] rfl) hw
    · replace hw := hw.2 hc
      refine lv_aload_n hx hb dX5_turn_13 rfl (lv_at hl 0 rfl) ?_
      refine ss_get (C := RX5) (T := TX5) (N := 16) (ci := 5) (v := .ref (L (3))) F hC (0) u_X5 (Nat.le_of_ble_eq_true rfl) rfl rfl 8 (by decide) f_16 rfl dX5_turn_14 ?_
      refine lv_iload_n hx hb dX5_turn_17 rfl (lv_at hl 2 rfl) ?_
      refine lv_iconst (v := 0) hx hb dX5_turn_18 (by decide) ?_
      refine ss_zast F hC (3) 1 (Nat.le_of_ble_eq_true rfl) (fun _ => rfl) rfl hw.1 dX5_turn_19 (fun H locs hC => ?_)
      replace hw := hw.2
      refine lv_iinc (v := x2 + 1) (lv' := [(2, .int (x2 + 1)), (0, .ref (L (0))), (1, .int (x1))]) hx hb dX5_turn_20 hl (k := 2) rfl rfl (by decide) rfl (fun ls hl => ?_)
      refine lv_goto (tgt := 7) hx hb dX5_turn_23 (by decide) ?_
      exact ih (x2 + 1) (u2 σ 3 (Int32.toNatClampNeg x2) (vp_nar .boolean 0)) _ _ _ hC (lv_sub hl [1, 2, 0] rfl) hw hk26

set_option maxHeartbeats 4000000 in
set_option maxRecDepth 100000 in
theorem tX5_turn_28 {x1 : Int32} {post : ss_S → Prop} (F : ss_F p R s m args meth c (ss_EM D A L wr cI cZ cS) cX5_turn 6 wsX5_turn RX5 none rmX5_turn)  (k55 : Int32 → ss_S → Prop) : ∀ (n : Nat) (x2 : Int32) (σ : ss_S) (H : Heap) (locs : List Loc) (ls : Array Slot), ss_C (ss_EM D A L wr cI cZ cS) σ s H locs → lv_has ls 6 [(0, .ref (L (0))), (1, .int (x1)), (2, .int (x2))] → lX5_turn_28 x1 post k55 n x2 σ →
    (∀ (x2 : Int32) (σ : ss_S) (H : Heap) (locs : List Loc) (ls : Array Slot), ss_C (ss_EM D A L wr cI cZ cS) σ s H locs → lv_has ls 6 [(0, .ref (L (0))), (1, .int (x1))] → k55 x2 σ → W p l e R s m args below meth c H locs 0 0 (MQ below (va_Qv post (ss_B (ss_EM D A L wr cI cZ cS)) A) args s 0 0 A) (F0 m 55 ls [])) →
    W p l e R s m args below meth c H locs 0 0 (MQ below (va_Qv post (ss_B (ss_EM D A L wr cI cZ cS)) A) args s 0 0 A) (F0 m 28 ls []) := by
  have hx := F.1.1
  have hb := F.1.2.1
  have u_X5 : ∀ w ∈ u_ws RX5 TX5 16, w ∈ wsX5_turn := by decide +kernel
  have f_16 : (Cond.fieldLink RX5 16 "SmallSpacesModel" "isPivot" "[Z").before args s = true := F.1.2.2.2.2 _ (by decide +kernel)
  have f_13 : (Cond.fieldLink RX5 13 "SmallSpacesModel" "work" "[I").before args s = true := F.1.2.2.2.2 _ (by decide +kernel)
  intro n
  induction n with
  | zero => intro x2 σ H locs ls hC hl hw; exact hw.elim
  | succ n ih =>
    intro x2 σ H locs ls hC hl hw hk55
    refine lv_iload_n hx hb dX5_turn_28 rfl (lv_at hl 2 rfl) ?_
    refine lv_iload_n hx hb dX5_turn_29 rfl (lv_at hl 1 rfl) ?_
    refine lv_icmp_ge (tgt := 55) hx hb dX5_turn_30 (by decide) (fun hc => ?_) (fun hc => ?_)
    · replace hw := hw.1 hc
      exact hk55 x2 σ _ _ _ hC (lv_sub hl [0, 1] rfl) hw
    · replace hw := hw.2 hc
      refine lv_aload_n hx hb dX5_turn_33 rfl (lv_at hl 0 rfl) ?_
      refine ss_get (C := RX5) (T := TX5) (N := 16) (ci := 5) (v := .ref (L (3))) F hC (0) u_X5 (Nat.le_of_ble_eq_true rfl) rfl rfl 8 (by decide) f_16 rfl dX5_turn_34 ?_
      refine lv_aload_n hx hb dX5_turn_37 rfl (lv_at hl 0 rfl) ?_
      refine lv_aload_n hx hb dX5_turn_38 rfl (lv_at hl 0 rfl) ?_
      refine ss_get (C := RX5) (T := TX5) (N := 16) (ci := 5) (v := .ref (L (2))) F hC (0) u_X5 (Nat.le_of_ble_eq_true rfl) rfl rfl 6 (by decide) f_13 rfl dX5_turn_39 ?_
      refine lv_iload_n hx hb dX5_turn_42 rfl (lv_at hl 2 rfl) ?_
      refine ss_iald F hC (2) 0 (Nat.le_of_ble_eq_true rfl) (fun _ => rfl) rfl hw.1 dX5_turn_43 ?_
      replace hw := hw.2
      refine ss_ki (ss_rV (C := RX5) (As := [.int (σ 2 (Int32.toNatClampNeg x2))]) (rest := [.ref (L (3))]) F ((mX5_pivot l D A L wr cI cZ cS σ (σ 2 (Int32.toNatClampNeg x2))) _) gX5_turn_X5_pivot rfl ⟨rfl, rfl⟩ ⟨rfl, dvX5_pivot⟩ ⟨Nat.le_of_ble_eq_true rfl, Nat.le_of_ble_eq_true rfl⟩ (ss_preV F.2.2.2.2.1 F.2.2.2.2.2 hC (ss_rec (C := RX5) (T := TX5) (N := 16) (ci := 5) F.2.2.2.2.1 hC (0) (Nat.le_of_ble_eq_true rfl) rfl rfl) hw) rfl hl.1 rfl (Nat.le_of_ble_eq_true rfl) dX5_turn_44 ⟨Nat.zero_le _, Nat.zero_le _⟩) hC (fun r3 σ2 H locs hC hw => ?_)
      refine lv_iconst (v := 1) hx hb dX5_turn_47 (by decide) ?_
      refine ss_zast F hC (3) 1 (Nat.le_of_ble_eq_true rfl) (fun _ => rfl) rfl hw.1 dX5_turn_48 (fun H locs hC => ?_)
      replace hw := hw.2
      refine lv_iinc (v := x2 + 1) (lv' := [(2, .int (x2 + 1)), (0, .ref (L (0))), (1, .int (x1))]) hx hb dX5_turn_49 hl (k := 2) rfl rfl (by decide) rfl (fun ls hl => ?_)
      refine lv_goto (tgt := 28) hx hb dX5_turn_52 (by decide) ?_
      exact ih (x2 + 1) (u2 σ2 3 (Int32.toNatClampNeg r3) (vp_nar .boolean 1)) _ _ _ hC (lv_sub hl [1, 2, 0] rfl) hw hk55

set_option maxHeartbeats 4000000 in
set_option maxRecDepth 100000 in
theorem tX5_turn_96 {x1 : Int32} {x2 : Int32} {x3 : Int32} {post : ss_S → Prop} (F : ss_F p R s m args meth c (ss_EM D A L wr cI cZ cS) cX5_turn 6 wsX5_turn RX5 none rmX5_turn)  (k161 : Int32 → Int32 → ss_S → Prop) : ∀ (n : Nat) (x4 : Int32) (x5 : Int32) (σ : ss_S) (H : Heap) (locs : List Loc) (ls : Array Slot), ss_C (ss_EM D A L wr cI cZ cS) σ s H locs → lv_has ls 6 [(0, .ref (L (0))), (1, .int (x1)), (2, .int (x2)), (3, .int (x3)), (4, .int (x4)), (5, .int (x5))] → lX5_turn_96 x1 x2 x3 post k161 n x4 x5 σ →
    (∀ (x4 : Int32) (x5 : Int32) (σ : ss_S) (H : Heap) (locs : List Loc) (ls : Array Slot), ss_C (ss_EM D A L wr cI cZ cS) σ s H locs → lv_has ls 6 [(0, .ref (L (0))), (1, .int (x1)), (2, .int (x2)), (3, .int (x3)), (4, .int (x4))] → k161 x4 x5 σ → W p l e R s m args below meth c H locs 0 0 (MQ below (va_Qv post (ss_B (ss_EM D A L wr cI cZ cS)) A) args s 0 0 A) (F0 m 161 ls [])) →
    W p l e R s m args below meth c H locs 0 0 (MQ below (va_Qv post (ss_B (ss_EM D A L wr cI cZ cS)) A) args s 0 0 A) (F0 m 96 ls []) := by
  have hx := F.1.1
  have hb := F.1.2.1
  have u_X5 : ∀ w ∈ u_ws RX5 TX5 16, w ∈ wsX5_turn := by decide +kernel
  have f_38 : (Cond.fieldLink RX5 38 "SmallSpacesModel" "q" "I").before args s = true := F.1.2.2.2.2 _ (by decide +kernel)
  have f_13 : (Cond.fieldLink RX5 13 "SmallSpacesModel" "work" "[I").before args s = true := F.1.2.2.2.2 _ (by decide +kernel)
  have f_42 : (Cond.fieldLink RX5 42 "SmallSpacesModel" "n" "I").before args s = true := F.1.2.2.2.2 _ (by decide +kernel)
  intro n
  induction n with
  | zero => intro x4 x5 σ H locs ls hC hl hw; exact hw.elim
  | succ n ih =>
    intro x4 x5 σ H locs ls hC hl hw hk161
    refine lv_iload hx hb dX5_turn_96 (lv_at hl 5 rfl) ?_
    refine lv_iload_n hx hb dX5_turn_98 rfl (lv_at hl 1 rfl) ?_
    refine lv_icmp_ge (tgt := 161) hx hb dX5_turn_99 (by decide) (fun hc => ?_) (fun hc => ?_)
    · replace hw := hw.1 hc
      exact hk161 x4 x5 σ _ _ _ hC (lv_sub hl [0, 1, 2, 3, 4] rfl) hw
    · replace hw := hw.2 hc
      refine lv_iload hx hb dX5_turn_102 (lv_at hl 4 rfl) ?_
      refine lv_aload_n hx hb dX5_turn_104 rfl (lv_at hl 0 rfl) ?_
      refine ss_get (C := RX5) (T := TX5) (N := 16) (ci := 5) (v := .int (σ 0 0)) F hC (0) u_X5 (Nat.le_of_ble_eq_true rfl) rfl rfl 0 (by decide) f_38 rfl dX5_turn_105 ?_
      refine lv_aload_n hx hb dX5_turn_108 rfl (lv_at hl 0 rfl) ?_
      refine lv_aload_n hx hb dX5_turn_109 rfl (lv_at hl 0 rfl) ?_
      refine ss_get (C := RX5) (T := TX5) (N := 16) (ci := 5) (v := .ref (L (2))) F hC (0) u_X5 (Nat.le_of_ble_eq_true rfl) rfl rfl 6 (by decide) f_13 rfl dX5_turn_110 ?_
      refine lv_iload hx hb dX5_turn_113 (lv_at hl 5 rfl) ?_
      refine ss_iald F hC (2) 0 (Nat.le_of_ble_eq_true rfl) (fun _ => rfl) rfl hw.1 dX5_turn_115 ?_
      replace hw := hw.2
      refine lv_iload_n hx hb dX5_turn_116 rfl (lv_at hl 3 rfl) ?_
      refine ss_ki (ss_rV (C := RX5) (As := [.int (σ 2 (Int32.toNatClampNeg x5)), .int (x3)]) (rest := [.int (σ 0 0), .int (x4)]) F ((mX5_figure l D A L wr cI cZ cS σ (σ 2 (Int32.toNatClampNeg x5)) x3) _) gX5_turn_X5_figure rfl ⟨rfl, rfl⟩ ⟨rfl, dvX5_figure⟩ ⟨Nat.le_of_ble_eq_true rfl, Nat.le_of_ble_eq_true rfl⟩ (ss_preV F.2.2.2.2.1 F.2.2.2.2.2 hC (ss_rec (C := RX5) (T := TX5) (N := 16) (ci := 5) F.2.2.2.2.1 hC (0) (Nat.le_of_ble_eq_true rfl) rfl rfl) hw) rfl hl.1 rfl (Nat.le_of_ble_eq_true rfl) dX5_turn_117 ⟨Nat.zero_le _, Nat.zero_le _⟩) hC (fun r8 σ7 H locs hC hw => ?_)
      refine lv_isub hx hb dX5_turn_120 ?_
      refine lv_aload_n hx hb dX5_turn_121 rfl (lv_at hl 0 rfl) ?_
      refine ss_get (C := RX5) (T := TX5) (N := 16) (ci := 5) (v := .int (σ7 0 0)) F hC (0) u_X5 (Nat.le_of_ble_eq_true rfl) rfl rfl 0 (by decide) f_38 rfl dX5_turn_122 ?_
      refine lv_irem hx hb dX5_turn_125 hw.1 ?_
      replace hw := hw.2
      refine lv_aload_n hx hb dX5_turn_126 rfl (lv_at hl 0 rfl) ?_
      refine ss_get (C := RX5) (T := TX5) (N := 16) (ci := 5) (v := .int (σ7 0 0)) F hC (0) u_X5 (Nat.le_of_ble_eq_true rfl) rfl rfl 0 (by decide) f_38 rfl dX5_turn_127 ?_
      refine lv_aload_n hx hb dX5_turn_130 rfl (lv_at hl 0 rfl) ?_
      refine ss_get (C := RX5) (T := TX5) (N := 16) (ci := 5) (v := .int (σ7 0 1)) F hC (0) u_X5 (Nat.le_of_ble_eq_true rfl) rfl rfl 1 (by decide) f_42 rfl dX5_turn_131 ?_
      refine lv_iconst (v := 1) hx hb dX5_turn_134 (by decide) ?_
      refine lv_isub hx hb dX5_turn_135 ?_
      refine lv_aload_n hx hb dX5_turn_136 rfl (lv_at hl 0 rfl) ?_
      refine lv_aload_n hx hb dX5_turn_137 rfl (lv_at hl 0 rfl) ?_
      refine ss_get (C := RX5) (T := TX5) (N := 16) (ci := 5) (v := .ref (L (2))) F hC (0) u_X5 (Nat.le_of_ble_eq_true rfl) rfl rfl 6 (by decide) f_13 rfl dX5_turn_138 ?_
      refine lv_iload hx hb dX5_turn_141 (lv_at hl 5 rfl) ?_
      refine ss_iald F hC (2) 0 (Nat.le_of_ble_eq_true rfl) (fun _ => rfl) rfl hw.1 dX5_turn_143 ?_
      replace hw := hw.2
      refine ss_ki (ss_rV (C := RX5) (As := [.int (σ7 2 (Int32.toNatClampNeg x5))]) (rest := [.int ((σ7 0 1) - 1), .int (σ7 0 0), .int (((σ 0 0) - r8) - ((σ 0 0) - r8) / (σ7 0 0) * (σ7 0 0)), .int (x4)]) F ((mX5_pivot l D A L wr cI cZ cS σ7 (σ7 2 (Int32.toNatClampNeg x5))) _) gX5_turn_X5_pivot rfl ⟨rfl, rfl⟩ ⟨rfl, dvX5_pivot⟩ ⟨Nat.le_of_ble_eq_true rfl, Nat.le_of_ble_eq_true rfl⟩ (ss_preV F.2.2.2.2.1 F.2.2.2.2.2 hC (ss_rec (C := RX5) (T := TX5) (N := 16) (ci := 5) F.2.2.2.2.1 hC (0) (Nat.le_of_ble_eq_true rfl) rfl rfl) hw) rfl hl.1 rfl (Nat.le_of_ble_eq_true rfl) dX5_turn_144 ⟨Nat.zero_le _, Nat.zero_le _⟩) hC (fun r10 σ9 H locs hC hw => ?_)
      refine lv_isub hx hb dX5_turn_147 ?_
      refine ss_ki (ss_rS (As := [.int (σ7 0 0), .int (((σ7 0 1) - 1) - r10)]) (rest := [.int (((σ 0 0) - r8) - ((σ 0 0) - r8) / (σ7 0 0) * (σ7 0 0)), .int (x4)]) F ((mX5_power l D A L wr cI cZ cS σ9 (σ7 0 0) (((σ7 0 1) - 1) - r10)) _) gX5_turn_X5_power rfl ⟨rfl, rfl⟩ dvX5_power ⟨Nat.le_of_ble_eq_true rfl, Nat.le_of_ble_eq_true rfl⟩ (ss_preS F.2.2.2.2.1 F.2.2.2.2.2 hC hw) rfl hl.1 rfl (Nat.le_of_ble_eq_true rfl) dX5_turn_148 ⟨Nat.zero_le _, Nat.zero_le _⟩) hC (fun r12 σ11 H locs hC hw => ?_)
      refine lv_imul hx hb dX5_turn_151 ?_
      refine lv_iadd hx hb dX5_turn_152 ?_
      refine lv_istore (lv' := [(4, .int (x4 + ((((σ 0 0) - r8) - ((σ 0 0) - r8) / (σ7 0 0) * (σ7 0 0)) * r12))), (0, .ref (L (0))), (1, .int (x1)), (2, .int (x2)), (3, .int (x3)), (5, .int (x5))]) hx hb dX5_turn_153 hl (by decide) rfl (fun ls hl => ?_)
      refine lv_iinc (v := x5 + 1) (lv' := [(5, .int (x5 + 1)), (4, .int (x4 + ((((σ 0 0) - r8) - ((σ 0 0) - r8) / (σ7 0 0) * (σ7 0 0)) * r12))), (0, .ref (L (0))), (1, .int (x1)), (2, .int (x2)), (3, .int (x3))]) hx hb dX5_turn_155 hl (k := 5) rfl rfl (by decide) rfl (fun ls hl => ?_)
      refine lv_goto (tgt := 96) hx hb dX5_turn_158 (by decide) ?_
      exact ih (x4 + ((((σ 0 0) - r8) - ((σ 0 0) - r8) / (σ7 0 0) * (σ7 0 0)) * r12)) (x5 + 1) σ11 _ _ _ hC (lv_sub hl [2, 3, 4, 5, 1, 0] rfl) hw hk161

set_option maxHeartbeats 4000000 in
set_option maxRecDepth 100000 in
theorem tX5_turn_59 {x1 : Int32} {post : ss_S → Prop} (F : ss_F p R s m args meth c (ss_EM D A L wr cI cZ cS) cX5_turn 6 wsX5_turn RX5 none rmX5_turn)  (k178 : Int32 → Int32 → ss_S → Prop) : ∀ (n : Nat) (x2 : Int32) (x3 : Int32) (σ : ss_S) (H : Heap) (locs : List Loc) (ls : Array Slot), ss_C (ss_EM D A L wr cI cZ cS) σ s H locs → lv_has ls 6 [(0, .ref (L (0))), (1, .int (x1)), (2, .int (x2)), (3, .int (x3))] → lX5_turn_59 x1 post k178 n x2 x3 σ →
    (∀ (x2 : Int32) (x3 : Int32) (σ : ss_S) (H : Heap) (locs : List Loc) (ls : Array Slot), ss_C (ss_EM D A L wr cI cZ cS) σ s H locs → lv_has ls 6 [(0, .ref (L (0))), (1, .int (x1)), (2, .int (x2))] → k178 x2 x3 σ → W p l e R s m args below meth c H locs 0 0 (MQ below (va_Qv post (ss_B (ss_EM D A L wr cI cZ cS)) A) args s 0 0 A) (F0 m 178 ls [])) →
    W p l e R s m args below meth c H locs 0 0 (MQ below (va_Qv post (ss_B (ss_EM D A L wr cI cZ cS)) A) args s 0 0 A) (F0 m 59 ls []) := by
  have hx := F.1.1
  have hb := F.1.2.1
  have u_X5 : ∀ w ∈ u_ws RX5 TX5 16, w ∈ wsX5_turn := by decide +kernel
  have f_42 : (Cond.fieldLink RX5 42 "SmallSpacesModel" "n" "I").before args s = true := F.1.2.2.2.2 _ (by decide +kernel)
  have f_16 : (Cond.fieldLink RX5 16 "SmallSpacesModel" "isPivot" "[Z").before args s = true := F.1.2.2.2.2 _ (by decide +kernel)
  have f_38 : (Cond.fieldLink RX5 38 "SmallSpacesModel" "q" "I").before args s = true := F.1.2.2.2.2 _ (by decide +kernel)
  have f_13 : (Cond.fieldLink RX5 13 "SmallSpacesModel" "work" "[I").before args s = true := F.1.2.2.2.2 _ (by decide +kernel)
  intro n
  induction n with
  | zero => intro x2 x3 σ H locs ls hC hl hw; exact hw.elim
  | succ n ih =>
    intro x2 x3 σ H locs ls hC hl hw hk178
    refine lv_iload_n hx hb dX5_turn_59 rfl (lv_at hl 3 rfl) ?_
    refine lv_aload_n hx hb dX5_turn_60 rfl (lv_at hl 0 rfl) ?_
    refine ss_get (C := RX5) (T := TX5) (N := 16) (ci := 5) (v := .int (σ 0 1)) F hC (0) u_X5 (Nat.le_of_ble_eq_true rfl) rfl rfl 1 (by decide) f_42 rfl dX5_turn_61 ?_
    refine lv_icmp_ge (tgt := 178) hx hb dX5_turn_64 (by decide) (fun hc => ?_) (fun hc => ?_)
    · replace hw := hw.1 hc
      exact hk178 x2 x3 σ _ _ _ hC (lv_sub hl [0, 1, 2] rfl) hw
    · replace hw := hw.2 hc
      refine lv_aload_n hx hb dX5_turn_67 rfl (lv_at hl 0 rfl) ?_
      refine ss_get (C := RX5) (T := TX5) (N := 16) (ci := 5) (v := .ref (L (3))) F hC (0) u_X5 (Nat.le_of_ble_eq_true rfl) rfl rfl 8 (by decide) f_16 rfl dX5_turn_68 ?_
      refine lv_iload_n hx hb dX5_turn_71 rfl (lv_at hl 3 rfl) ?_
      refine ss_zald F hC (3) 1 (Nat.le_of_ble_eq_true rfl) (fun _ => rfl) rfl hw.1 dX5_turn_72 ?_
      replace hw := hw.2
      refine lv_if_ne (tgt := 172) hx hb dX5_turn_73 (by decide) (fun hc => ?_) (fun hc => ?_)
      · replace hw := hw.1 hc
        refine lv_iinc (v := x3 + 1) (lv' := [(3, .int (x3 + 1)), (0, .ref (L (0))), (1, .int (x1)), (2, .int (x2))]) hx hb dX5_turn_172 hl (k := 3) rfl rfl (by decide) rfl (fun ls hl => ?_)
        refine lv_goto (tgt := 59) hx hb dX5_turn_175 (by decide) ?_
        exact ih x2 (x3 + 1) σ _ _ _ hC (lv_sub hl [1, 2, 3, 0] rfl) hw hk178
      · replace hw := hw.2 hc
        refine lv_aload_n hx hb dX5_turn_76 rfl (lv_at hl 0 rfl) ?_
        refine ss_get (C := RX5) (T := TX5) (N := 16) (ci := 5) (v := .int (σ 0 0)) F hC (0) u_X5 (Nat.le_of_ble_eq_true rfl) rfl rfl 0 (by decide) f_38 rfl dX5_turn_77 ?_
        refine lv_aload_n hx hb dX5_turn_80 rfl (lv_at hl 0 rfl) ?_
        refine ss_get (C := RX5) (T := TX5) (N := 16) (ci := 5) (v := .int (σ 0 1)) F hC (0) u_X5 (Nat.le_of_ble_eq_true rfl) rfl rfl 1 (by decide) f_42 rfl dX5_turn_81 ?_
        refine lv_iconst (v := 1) hx hb dX5_turn_84 (by decide) ?_
        refine lv_isub hx hb dX5_turn_85 ?_
        refine lv_iload_n hx hb dX5_turn_86 rfl (lv_at hl 3 rfl) ?_
        refine lv_isub hx hb dX5_turn_87 ?_
        refine ss_ki (ss_rS (As := [.int (σ 0 0), .int (((σ 0 1) - 1) - x3)]) (rest := []) F ((mX5_power l D A L wr cI cZ cS σ (σ 0 0) (((σ 0 1) - 1) - x3)) _) gX5_turn_X5_power rfl ⟨rfl, rfl⟩ dvX5_power ⟨Nat.le_of_ble_eq_true rfl, Nat.le_of_ble_eq_true rfl⟩ (ss_preS F.2.2.2.2.1 F.2.2.2.2.2 hC hw) rfl hl.1 rfl (Nat.le_of_ble_eq_true rfl) dX5_turn_88 ⟨Nat.zero_le _, Nat.zero_le _⟩) hC (fun r6 σ5 H locs hC hw => ?_)
        refine lv_istore (lv' := [(4, .int (r6)), (0, .ref (L (0))), (1, .int (x1)), (2, .int (x2)), (3, .int (x3))]) hx hb dX5_turn_91 hl (by decide) rfl (fun ls hl => ?_)
        refine lv_iconst (v := 0) hx hb dX5_turn_93 (by decide) ?_
        refine lv_istore (lv' := [(5, .int (0)), (4, .int (r6)), (0, .ref (L (0))), (1, .int (x1)), (2, .int (x2)), (3, .int (x3))]) hx hb dX5_turn_94 hl (by decide) rfl (fun ls hl => ?_)
        obtain ⟨n_, hw⟩ := hw
        refine tX5_turn_96 F  _ n_ r6 0 σ5 _ _ _ hC (lv_sub hl [2, 3, 4, 5, 1, 0] rfl) hw ?_
        · intro x4_13 x5_13 σ_13 H locs ls hC hl hw
          refine lv_aload_n hx hb dX5_turn_161 rfl (lv_at hl 0 rfl) ?_
          refine ss_get (C := RX5) (T := TX5) (N := 16) (ci := 5) (v := .ref (L (2))) F hC (0) u_X5 (Nat.le_of_ble_eq_true rfl) rfl rfl 6 (by decide) f_13 rfl dX5_turn_162 ?_
          refine lv_iload_n hx hb dX5_turn_165 rfl (lv_at hl 2 rfl) ?_
          refine lv_iload hx hb dX5_turn_166 (lv_at hl 4 rfl) ?_
          refine ss_iast F hC (2) 0 (Nat.le_of_ble_eq_true rfl) (fun _ => rfl) rfl hw.1 dX5_turn_168 (fun H locs hC => ?_)
          replace hw := hw.2
          refine lv_iinc (v := x2 + 1) (lv' := [(2, .int (x2 + 1)), (0, .ref (L (0))), (1, .int (x1)), (3, .int (x3)), (4, .int (x4_13))]) hx hb dX5_turn_169 hl (k := 2) rfl rfl (by decide) rfl (fun ls hl => ?_)
          refine lv_iinc (v := x3 + 1) (lv' := [(3, .int (x3 + 1)), (2, .int (x2 + 1)), (0, .ref (L (0))), (1, .int (x1)), (4, .int (x4_13))]) hx hb dX5_turn_172 hl (k := 3) rfl rfl (by decide) rfl (fun ls hl => ?_)
          refine lv_goto (tgt := 59) hx hb dX5_turn_175 (by decide) ?_
          exact ih (x2 + 1) (x3 + 1) (u2 σ_13 2 (Int32.toNatClampNeg x2) x4_13) _ _ _ hC (lv_sub hl [2, 3, 1, 0] rfl) hw hk178

set_option maxHeartbeats 4000000 in
set_option maxRecDepth 100000 in
theorem tX5_turn_187 {x1 : Int32} {post : ss_S → Prop} (F : ss_F p R s m args meth c (ss_EM D A L wr cI cZ cS) cX5_turn 6 wsX5_turn RX5 none rmX5_turn)  (k215 : Int32 → ss_S → Prop) : ∀ (n : Nat) (x3 : Int32) (σ : ss_S) (H : Heap) (locs : List Loc) (ls : Array Slot), ss_C (ss_EM D A L wr cI cZ cS) σ s H locs → lv_has ls 6 [(0, .ref (L (0))), (1, .int (x1)), (3, .int (x3))] → lX5_turn_187 x1 post k215 n x3 σ →
    (∀ (x3 : Int32) (σ : ss_S) (H : Heap) (locs : List Loc) (ls : Array Slot), ss_C (ss_EM D A L wr cI cZ cS) σ s H locs → lv_has ls 6 [(0, .ref (L (0)))] → k215 x3 σ → W p l e R s m args below meth c H locs 0 0 (MQ below (va_Qv post (ss_B (ss_EM D A L wr cI cZ cS)) A) args s 0 0 A) (F0 m 215 ls [])) →
    W p l e R s m args below meth c H locs 0 0 (MQ below (va_Qv post (ss_B (ss_EM D A L wr cI cZ cS)) A) args s 0 0 A) (F0 m 187 ls []) := by
  have hx := F.1.1
  have hb := F.1.2.1
  have u_X5 : ∀ w ∈ u_ws RX5 TX5 16, w ∈ wsX5_turn := by decide +kernel
  have f_76 : (Cond.fieldLink RX5 76 "SmallSpacesModel" "worked" "I").before args s = true := F.1.2.2.2.2 _ (by decide +kernel)
  have f_13 : (Cond.fieldLink RX5 13 "SmallSpacesModel" "work" "[I").before args s = true := F.1.2.2.2.2 _ (by decide +kernel)
  intro n
  induction n with
  | zero => intro x3 σ H locs ls hC hl hw; exact hw.elim
  | succ n ih =>
    intro x3 σ H locs ls hC hl hw hk215
    refine lv_iload_n hx hb dX5_turn_187 rfl (lv_at hl 2 rfl) ?_
    refine lv_aload_n hx hb dX5_turn_188 rfl (lv_at hl 0 rfl) ?_
    refine ss_get (C := RX5) (T := TX5) (N := 16) (ci := 5) (v := .int (σ 0 7)) F hC (0) u_X5 (Nat.le_of_ble_eq_true rfl) rfl rfl 7 (by decide) f_76 rfl dX5_turn_189 ?_
    refine lv_icmp_ge (tgt := 215) hx hb dX5_turn_192 (by decide) (fun hc => ?_) (fun hc => ?_)
    · replace hw := hw.1 hc
      exact hk215 x3 σ _ _ _ hC (lv_sub hl [0] rfl) hw
    · replace hw := hw.2 hc
      refine lv_aload_n hx hb dX5_turn_195 rfl (lv_at hl 0 rfl) ?_
      refine ss_get (C := RX5) (T := TX5) (N := 16) (ci := 5) (v := .ref (L (2))) F hC (0) u_X5 (Nat.le_of_ble_eq_true rfl) rfl rfl 6 (by decide) f_13 rfl dX5_turn_196 ?_
      refine lv_iload_n hx hb dX5_turn_199 rfl (lv_at hl 2 rfl) ?_
      refine lv_aload_n hx hb dX5_turn_200 rfl (lv_at hl 0 rfl) ?_
      refine ss_get (C := RX5) (T := TX5) (N := 16) (ci := 5) (v := .ref (L (2))) F hC (0) u_X5 (Nat.le_of_ble_eq_true rfl) rfl rfl 6 (by decide) f_13 rfl dX5_turn_201 ?_
      refine lv_iload_n hx hb dX5_turn_204 rfl (lv_at hl 1 rfl) ?_
      refine lv_iload_n hx hb dX5_turn_205 rfl (lv_at hl 2 rfl) ?_
      refine lv_iadd hx hb dX5_turn_206 ?_
      refine ss_iald F hC (2) 0 (Nat.le_of_ble_eq_true rfl) (fun _ => rfl) rfl hw.1 dX5_turn_207 ?_
      replace hw := hw.2
      refine ss_iast F hC (2) 0 (Nat.le_of_ble_eq_true rfl) (fun _ => rfl) rfl hw.1 dX5_turn_208 (fun H locs hC => ?_)
      replace hw := hw.2
      refine lv_iinc (v := x3 + 1) (lv' := [(3, .int (x3 + 1)), (0, .ref (L (0))), (1, .int (x1))]) hx hb dX5_turn_209 hl (k := 2) rfl rfl (by decide) rfl (fun ls hl => ?_)
      refine lv_goto (tgt := 187) hx hb dX5_turn_212 (by decide) ?_
      exact ih (x3 + 1) (u2 σ 2 (Int32.toNatClampNeg x3) (σ 2 (Int32.toNatClampNeg (x1 + x3)))) _ _ _ hC (lv_sub hl [1, 2, 0] rfl) hw hk215

set_option maxHeartbeats 4000000 in
set_option maxRecDepth 100000 in
theorem bX5_turn  {post : ss_S → Prop} (F : ss_F p R s m args meth c (ss_EM D A L wr cI cZ cS) cX5_turn 6 wsX5_turn RX5 none rmX5_turn)  : ∀ (σ : ss_S) (H : Heap) (locs : List Loc) (ls : Array Slot), ss_C (ss_EM D A L wr cI cZ cS) σ s H locs → lv_has ls 6 [(0, .ref (L (0)))] → wX5_turn  σ post → W p l e R s m args below meth c H locs 0 0 (MQ below (va_Qv post (ss_B (ss_EM D A L wr cI cZ cS)) A) args s 0 0 A) (F0 m 0 ls []) := by
  have hx := F.1.1
  have hb := F.1.2.1
  have u_X5 : ∀ w ∈ u_ws RX5 TX5 16, w ∈ wsX5_turn := by decide +kernel
  have f_76 : (Cond.fieldLink RX5 76 "SmallSpacesModel" "worked" "I").before args s = true := F.1.2.2.2.2 _ (by decide +kernel)
  intro σ H locs ls hC hl hw
  unfold wX5_turn at hw
  refine lv_aload_n hx hb dX5_turn_0 rfl (lv_at hl 0 rfl) ?_
  refine ss_get (C := RX5) (T := TX5) (N := 16) (ci := 5) (v := .int (σ 0 7)) F hC (0) u_X5 (Nat.le_of_ble_eq_true rfl) rfl rfl 7 (by decide) f_76 rfl dX5_turn_1 ?_
  refine lv_istore_n (lv' := [(1, .int (σ 0 7)), (0, .ref (L (0)))]) hx hb dX5_turn_4 rfl hl (by decide) rfl (fun ls hl => ?_)
  refine lv_iconst (v := 0) hx hb dX5_turn_5 (by decide) ?_
  refine lv_istore_n (lv' := [(2, .int (0)), (1, .int (σ 0 7)), (0, .ref (L (0)))]) hx hb dX5_turn_6 rfl hl (by decide) rfl (fun ls hl => ?_)
  obtain ⟨n_, hw⟩ := hw
  refine tX5_turn_7 F  _ n_ 0 σ _ _ _ hC (lv_sub hl [2, 1, 0] rfl) hw ?_
  · intro x2_1 σ_1 H locs ls hC hl hw
    refine lv_iconst (v := 0) hx hb dX5_turn_26 (by decide) ?_
    refine lv_istore_n (lv' := [(2, .int (0)), (0, .ref (L (0))), (1, .int (σ 0 7))]) hx hb dX5_turn_27 rfl hl (by decide) rfl (fun ls hl => ?_)
    obtain ⟨n_, hw⟩ := hw
    refine tX5_turn_28 F  _ n_ 0 σ_1 _ _ _ hC (lv_sub hl [1, 2, 0] rfl) hw ?_
    · intro x2_4 σ_4 H locs ls hC hl hw
      refine lv_iload_n hx hb dX5_turn_55 rfl (lv_at hl 1 rfl) ?_
      refine lv_istore_n (lv' := [(2, .int (σ 0 7)), (0, .ref (L (0))), (1, .int (σ 0 7))]) hx hb dX5_turn_56 rfl hl (by decide) rfl (fun ls hl => ?_)
      refine lv_iconst (v := 0) hx hb dX5_turn_57 (by decide) ?_
      refine lv_istore_n (lv' := [(3, .int (0)), (2, .int (σ 0 7)), (0, .ref (L (0))), (1, .int (σ 0 7))]) hx hb dX5_turn_58 rfl hl (by decide) rfl (fun ls hl => ?_)
      obtain ⟨n_, hw⟩ := hw
      refine tX5_turn_59 F  _ n_ (σ 0 7) 0 σ_4 _ _ _ hC (lv_sub hl [2, 3, 1, 0] rfl) hw ?_
      · intro x2_14 x3_14 σ_14 H locs ls hC hl hw
        refine lv_aload_n hx hb dX5_turn_178 rfl (lv_at hl 0 rfl) ?_
        refine lv_iload_n hx hb dX5_turn_179 rfl (lv_at hl 2 rfl) ?_
        refine lv_iload_n hx hb dX5_turn_180 rfl (lv_at hl 1 rfl) ?_
        refine lv_isub hx hb dX5_turn_181 ?_
        refine ss_put (C := RX5) (T := TX5) (N := 16) (ci := 5) F hC (0) tyX5 tyX5_ok nmX5 u_X5 (Nat.le_of_ble_eq_true rfl) rfl rfl 7 (by decide) f_76 rfl (by decide +kernel) (Nat.le_of_ble_eq_true rfl) rfl dX5_turn_182 (fun H locs hC => ?_)
        refine lv_iconst (v := 0) hx hb dX5_turn_185 (by decide) ?_
        refine lv_istore_n (lv' := [(3, .int (0)), (0, .ref (L (0))), (1, .int (σ 0 7)), (2, .int (x2_14))]) hx hb dX5_turn_186 rfl hl (by decide) rfl (fun ls hl => ?_)
        obtain ⟨n_, hw⟩ := hw
        refine tX5_turn_187 F  _ n_ 0 (u2 σ_14 0 7 (x2_14 - (σ 0 7))) _ _ _ hC (lv_sub hl [1, 2, 0] rfl) hw ?_
        · intro x3_15 σ_15 H locs ls hC hl hw
          refine lv_aload_n hx hb dX5_turn_215 rfl (lv_at hl 0 rfl) ?_
          refine ss_kv (ss_rV (C := RX5) (As := []) (rest := []) F ((mX5_settle l D A L wr cI cZ cS σ_15 ) _) gX5_turn_X5_settle rfl ⟨rfl, rfl⟩ ⟨rfl, dvX5_settle⟩ ⟨Nat.le_of_ble_eq_true rfl, Nat.le_of_ble_eq_true rfl⟩ (ss_preV F.2.2.2.2.1 F.2.2.2.2.2 hC (ss_rec (C := RX5) (T := TX5) (N := 16) (ci := 5) F.2.2.2.2.1 hC (0) (Nat.le_of_ble_eq_true rfl) rfl rfl) hw) rfl hl.1 rfl (Nat.le_of_ble_eq_true rfl) dX5_turn_216 ⟨Nat.zero_le _, Nat.zero_le _⟩) hC (fun σ16 H locs hC hw => ?_)
          exact ss_vret F hC hw dX5_turn_219

theorem mX5_turn (l : Launch) (D : va_G) (A : Nat → Prop) (L : Nat → Nat) (wr : va_W) (cI cZ cS : ClassId) (σ : ss_S)   : ss_MV l yX5_turn wsX5_turn rmX5_turn (ss_EM D A L wr cI cZ cS) [.ref (L (0))] σ (fun post => wX5_turn  σ post) :=
  ss_MV.of (cc := cX5_turn) (nL := 6) (ret := none) (own := RX5) (by decide) rfl rfl (Nat.le_of_ble_eq_true rfl) (fun post p e R s m below meth c H locs ls F hC hl hw => bX5_turn F  σ H locs ls hC hl hw)

set_option maxHeartbeats 4000000 in
set_option maxRecDepth 100000 in
theorem bX5_isSlot {x0 : Int32} {post : Int32 → ss_S → Prop} (F : ss_F p R s m args meth c (ss_EM D A L wr cI cZ cS) cX5_isSlot 1 wsX5_isSlot RX5 (some .boolean) rmX5_isSlot)  : ∀ (σ : ss_S) (H : Heap) (locs : List Loc) (ls : Array Slot), ss_C (ss_EM D A L wr cI cZ cS) σ s H locs → lv_has ls 1 [(0, .int (x0))] → wX5_isSlot x0 σ post → W p l e R s m args below meth c H locs 0 0 (MQ below (va_Qi post (ss_B (ss_EM D A L wr cI cZ cS)) A) args s 0 0 A) (F0 m 0 ls []) := by
  have hx := F.1.1
  have hb := F.1.2.1
  intro σ H locs ls hC hl hw
  unfold wX5_isSlot at hw
  refine lv_iload_n hx hb dX5_isSlot_0 rfl (lv_at hl 0 rfl) ?_
  refine lv_i2l hx hb dX5_isSlot_1 rfl ?_
  refine lv_lconst (v := 0) hx hb dX5_isSlot_2 (by decide) ?_
  refine lv_ldc2 (v := 11) hx hb F.1.2.2.2.1 (F.1.2.2.2.2 (.constantLong RX5 86 (11)) (by decide +kernel)) dX5_isSlot_3 ?_
  refine ss_ki (ss_rS (As := [.long (Int32.toInt64 x0), .long (0), .long (11)]) (rest := []) F ((mX5_in l D A L wr cI cZ cS σ (Int32.toInt64 x0) 0 11) _) gX5_isSlot_X5_in rfl ⟨rfl, rfl⟩ dvX5_in ⟨Nat.le_of_ble_eq_true rfl, Nat.le_of_ble_eq_true rfl⟩ (ss_preS F.2.2.2.2.1 F.2.2.2.2.2 hC hw) rfl hl.1 rfl (Nat.le_of_ble_eq_true rfl) dX5_isSlot_6 ⟨Nat.zero_le _, Nat.zero_le _⟩) hC (fun r2 σ1 H locs hC hw => ?_)
  exact ss_zret F hC hw.1 hw.2 dX5_isSlot_9

theorem mX5_isSlot (l : Launch) (D : va_G) (A : Nat → Prop) (L : Nat → Nat) (wr : va_W) (cI cZ cS : ClassId) (σ : ss_S) (x0 : Int32)  : ss_MI l yX5_isSlot wsX5_isSlot rmX5_isSlot (ss_EM D A L wr cI cZ cS) [.int (x0)] σ (fun post => wX5_isSlot x0 σ post) :=
  ss_MI.of (cc := cX5_isSlot) (nL := 1) (ret := (some .boolean)) (own := RX5) (by decide) rfl rfl (Nat.le_of_ble_eq_true rfl) (fun post p e R s m below meth c H locs ls F hC hl hw => bX5_isSlot F  σ H locs ls hC hl hw)

set_option maxHeartbeats 4000000 in
set_option maxRecDepth 100000 in
theorem tX5_load_2 {x1 : Int32} {post : ss_S → Prop} (F : ss_F p R s m args meth c (ss_EM D A L wr cI cZ cS) cX5_load 3 wsX5_load RX5 none rmX5_load)  (k48 : Int32 → ss_S → Prop) : ∀ (n : Nat) (x2 : Int32) (σ : ss_S) (H : Heap) (locs : List Loc) (ls : Array Slot), ss_C (ss_EM D A L wr cI cZ cS) σ s H locs → lv_has ls 3 [(0, .ref (L (0))), (1, .int (x1)), (2, .int (x2))] → lX5_load_2 x1 post k48 n x2 σ →
    (∀ (x2 : Int32) (σ : ss_S) (H : Heap) (locs : List Loc) (ls : Array Slot), ss_C (ss_EM D A L wr cI cZ cS) σ s H locs → lv_has ls 3 [] → k48 x2 σ → W p l e R s m args below meth c H locs 0 0 (MQ below (va_Qv post (ss_B (ss_EM D A L wr cI cZ cS)) A) args s 0 0 A) (F0 m 48 ls [])) →
    W p l e R s m args below meth c H locs 0 0 (MQ below (va_Qv post (ss_B (ss_EM D A L wr cI cZ cS)) A) args s 0 0 A) (F0 m 2 ls []) := by
  have hx := F.1.1
  have hb := F.1.2.1
  have u_X5 : ∀ w ∈ u_ws RX5 TX5 16, w ∈ wsX5_load := by decide +kernel
  have f_20 : (Cond.fieldLink RX5 20 "SmallSpacesModel" "dims" "[I").before args s = true := F.1.2.2.2.2 _ (by decide +kernel)
  have f_13 : (Cond.fieldLink RX5 13 "SmallSpacesModel" "work" "[I").before args s = true := F.1.2.2.2.2 _ (by decide +kernel)
  have f_76 : (Cond.fieldLink RX5 76 "SmallSpacesModel" "worked" "I").before args s = true := F.1.2.2.2.2 _ (by decide +kernel)
  have f_23 : (Cond.fieldLink RX5 23 "SmallSpacesModel" "rows" "[I").before args s = true := F.1.2.2.2.2 _ (by decide +kernel)
  intro n
  induction n with
  | zero => intro x2 σ H locs ls hC hl hw; exact hw.elim
  | succ n ih =>
    intro x2 σ H locs ls hC hl hw hk48
    refine lv_iload_n hx hb dX5_load_2 rfl (lv_at hl 2 rfl) ?_
    refine lv_aload_n hx hb dX5_load_3 rfl (lv_at hl 0 rfl) ?_
    refine ss_get (C := RX5) (T := TX5) (N := 16) (ci := 5) (v := .ref (L (4))) F hC (0) u_X5 (Nat.le_of_ble_eq_true rfl) rfl rfl 9 (by decide) f_20 rfl dX5_load_4 ?_
    refine lv_iload_n hx hb dX5_load_7 rfl (lv_at hl 1 rfl) ?_
    refine ss_iald F hC (4) 0 (Nat.le_of_ble_eq_true rfl) (fun _ => rfl) rfl hw.1 dX5_load_8 ?_
    replace hw := hw.2
    refine lv_icmp_ge (tgt := 48) hx hb dX5_load_9 (by decide) (fun hc => ?_) (fun hc => ?_)
    · replace hw := hw.1 hc
      exact hk48 x2 σ _ _ _ hC (lv_sub hl [] rfl) hw
    · replace hw := hw.2 hc
      refine lv_aload_n hx hb dX5_load_12 rfl (lv_at hl 0 rfl) ?_
      refine ss_get (C := RX5) (T := TX5) (N := 16) (ci := 5) (v := .ref (L (2))) F hC (0) u_X5 (Nat.le_of_ble_eq_true rfl) rfl rfl 6 (by decide) f_13 rfl dX5_load_13 ?_
      refine lv_aload_n hx hb dX5_load_16 rfl (lv_at hl 0 rfl) ?_
      refine ss_get (C := RX5) (T := TX5) (N := 16) (ci := 5) (v := .int (σ 0 7)) F hC (0) u_X5 (Nat.le_of_ble_eq_true rfl) rfl rfl 7 (by decide) f_76 rfl dX5_load_17 ?_
      refine lv_aload_n hx hb dX5_load_20 rfl (lv_at hl 0 rfl) ?_
      refine ss_get (C := RX5) (T := TX5) (N := 16) (ci := 5) (v := .ref (L (5))) F hC (0) u_X5 (Nat.le_of_ble_eq_true rfl) rfl rfl 10 (by decide) f_23 rfl dX5_load_21 ?_
      refine lv_bipush (v := 6) hx hb dX5_load_24 (by decide) ?_
      refine lv_iload_n hx hb dX5_load_26 rfl (lv_at hl 1 rfl) ?_
      refine lv_imul hx hb dX5_load_27 ?_
      refine lv_iload_n hx hb dX5_load_28 rfl (lv_at hl 2 rfl) ?_
      refine lv_iadd hx hb dX5_load_29 ?_
      refine ss_iald F hC (5) 0 (Nat.le_of_ble_eq_true rfl) (fun _ => rfl) rfl hw.1 dX5_load_30 ?_
      replace hw := hw.2
      refine ss_iast F hC (2) 0 (Nat.le_of_ble_eq_true rfl) (fun _ => rfl) rfl hw.1 dX5_load_31 (fun H locs hC => ?_)
      replace hw := hw.2
      refine lv_aload_n hx hb dX5_load_32 rfl (lv_at hl 0 rfl) ?_
      refine lv_dup hx hb dX5_load_33 rfl ?_
      refine ss_get (C := RX5) (T := TX5) (N := 16) (ci := 5) (v := .int ((u2 σ 2 (Int32.toNatClampNeg (σ 0 7)) (σ 5 (Int32.toNatClampNeg ((6 * x1) + x2)))) 0 7)) F hC (0) u_X5 (Nat.le_of_ble_eq_true rfl) rfl rfl 7 (by decide) f_76 rfl dX5_load_34 ?_
      refine lv_iconst (v := 1) hx hb dX5_load_37 (by decide) ?_
      refine lv_iadd hx hb dX5_load_38 ?_
      refine ss_put (C := RX5) (T := TX5) (N := 16) (ci := 5) F hC (0) tyX5 tyX5_ok nmX5 u_X5 (Nat.le_of_ble_eq_true rfl) rfl rfl 7 (by decide) f_76 rfl (by decide +kernel) (Nat.le_of_ble_eq_true rfl) rfl dX5_load_39 (fun H locs hC => ?_)
      refine lv_iinc (v := x2 + 1) (lv' := [(2, .int (x2 + 1)), (0, .ref (L (0))), (1, .int (x1))]) hx hb dX5_load_42 hl (k := 2) rfl rfl (by decide) rfl (fun ls hl => ?_)
      refine lv_goto (tgt := 2) hx hb dX5_load_45 (by decide) ?_
      exact ih (x2 + 1) (u2 (u2 σ 2 (Int32.toNatClampNeg (σ 0 7)) (σ 5 (Int32.toNatClampNeg ((6 * x1) + x2)))) 0 7 (((u2 σ 2 (Int32.toNatClampNeg (σ 0 7)) (σ 5 (Int32.toNatClampNeg ((6 * x1) + x2)))) 0 7) + 1)) _ _ _ hC (lv_sub hl [1, 2, 0] rfl) hw hk48

set_option maxHeartbeats 4000000 in
set_option maxRecDepth 100000 in
theorem bX5_load {x1 : Int32} {post : ss_S → Prop} (F : ss_F p R s m args meth c (ss_EM D A L wr cI cZ cS) cX5_load 3 wsX5_load RX5 none rmX5_load)  : ∀ (σ : ss_S) (H : Heap) (locs : List Loc) (ls : Array Slot), ss_C (ss_EM D A L wr cI cZ cS) σ s H locs → lv_has ls 3 [(0, .ref (L (0))), (1, .int (x1))] → wX5_load x1 σ post → W p l e R s m args below meth c H locs 0 0 (MQ below (va_Qv post (ss_B (ss_EM D A L wr cI cZ cS)) A) args s 0 0 A) (F0 m 0 ls []) := by
  have hx := F.1.1
  have hb := F.1.2.1
  intro σ H locs ls hC hl hw
  unfold wX5_load at hw
  refine lv_iconst (v := 0) hx hb dX5_load_0 (by decide) ?_
  refine lv_istore_n (lv' := [(2, .int (0)), (0, .ref (L (0))), (1, .int (x1))]) hx hb dX5_load_1 rfl hl (by decide) rfl (fun ls hl => ?_)
  obtain ⟨n_, hw⟩ := hw
  refine tX5_load_2 F  _ n_ 0 σ _ _ _ hC (lv_sub hl [1, 2, 0] rfl) hw ?_
  · intro x2_1 σ_1 H locs ls hC hl hw
    exact ss_vret F hC hw dX5_load_48

theorem mX5_load (l : Launch) (D : va_G) (A : Nat → Prop) (L : Nat → Nat) (wr : va_W) (cI cZ cS : ClassId) (σ : ss_S) (x1 : Int32)  : ss_MV l yX5_load wsX5_load rmX5_load (ss_EM D A L wr cI cZ cS) [.ref (L (0)), .int (x1)] σ (fun post => wX5_load x1 σ post) :=
  ss_MV.of (cc := cX5_load) (nL := 3) (ret := none) (own := RX5) (by decide) rfl rfl (Nat.le_of_ble_eq_true rfl) (fun post p e R s m below meth c H locs ls F hC hl hw => bX5_load F  σ H locs ls hC hl hw)

set_option maxHeartbeats 4000000 in
set_option maxRecDepth 100000 in
theorem tX5_save_12 {x1 : Int32} {post : Int32 → ss_S → Prop} (F : ss_F p R s m args meth c (ss_EM D A L wr cI cZ cS) cX5_save 3 wsX5_save RX5 (some .int) rmX5_save)  (k43 : Int32 → ss_S → Prop) : ∀ (n : Nat) (x2 : Int32) (σ : ss_S) (H : Heap) (locs : List Loc) (ls : Array Slot), ss_C (ss_EM D A L wr cI cZ cS) σ s H locs → lv_has ls 3 [(0, .ref (L (0))), (1, .int (x1)), (2, .int (x2))] → lX5_save_12 x1 post k43 n x2 σ →
    (∀ (x2 : Int32) (σ : ss_S) (H : Heap) (locs : List Loc) (ls : Array Slot), ss_C (ss_EM D A L wr cI cZ cS) σ s H locs → lv_has ls 3 [(0, .ref (L (0)))] → k43 x2 σ → W p l e R s m args below meth c H locs 0 0 (MQ below (va_Qi post (ss_B (ss_EM D A L wr cI cZ cS)) A) args s 0 0 A) (F0 m 43 ls [])) →
    W p l e R s m args below meth c H locs 0 0 (MQ below (va_Qi post (ss_B (ss_EM D A L wr cI cZ cS)) A) args s 0 0 A) (F0 m 12 ls []) := by
  have hx := F.1.1
  have hb := F.1.2.1
  have u_X5 : ∀ w ∈ u_ws RX5 TX5 16, w ∈ wsX5_save := by decide +kernel
  have f_76 : (Cond.fieldLink RX5 76 "SmallSpacesModel" "worked" "I").before args s = true := F.1.2.2.2.2 _ (by decide +kernel)
  have f_23 : (Cond.fieldLink RX5 23 "SmallSpacesModel" "rows" "[I").before args s = true := F.1.2.2.2.2 _ (by decide +kernel)
  have f_13 : (Cond.fieldLink RX5 13 "SmallSpacesModel" "work" "[I").before args s = true := F.1.2.2.2.2 _ (by decide +kernel)
  intro n
  induction n with
  | zero => intro x2 σ H locs ls hC hl hw; exact hw.elim
  | succ n ih =>
    intro x2 σ H locs ls hC hl hw hk43
    refine lv_iload_n hx hb dX5_save_12 rfl (lv_at hl 2 rfl) ?_
    refine lv_aload_n hx hb dX5_save_13 rfl (lv_at hl 0 rfl) ?_
    refine ss_get (C := RX5) (T := TX5) (N := 16) (ci := 5) (v := .int (σ 0 7)) F hC (0) u_X5 (Nat.le_of_ble_eq_true rfl) rfl rfl 7 (by decide) f_76 rfl dX5_save_14 ?_
    refine lv_icmp_ge (tgt := 43) hx hb dX5_save_17 (by decide) (fun hc => ?_) (fun hc => ?_)
    · replace hw := hw.1 hc
      exact hk43 x2 σ _ _ _ hC (lv_sub hl [0] rfl) hw
    · replace hw := hw.2 hc
      refine lv_aload_n hx hb dX5_save_20 rfl (lv_at hl 0 rfl) ?_
      refine ss_get (C := RX5) (T := TX5) (N := 16) (ci := 5) (v := .ref (L (5))) F hC (0) u_X5 (Nat.le_of_ble_eq_true rfl) rfl rfl 10 (by decide) f_23 rfl dX5_save_21 ?_
      refine lv_bipush (v := 6) hx hb dX5_save_24 (by decide) ?_
      refine lv_iload_n hx hb dX5_save_26 rfl (lv_at hl 1 rfl) ?_
      refine lv_imul hx hb dX5_save_27 ?_
      refine lv_iload_n hx hb dX5_save_28 rfl (lv_at hl 2 rfl) ?_
      refine lv_iadd hx hb dX5_save_29 ?_
      refine lv_aload_n hx hb dX5_save_30 rfl (lv_at hl 0 rfl) ?_
      refine ss_get (C := RX5) (T := TX5) (N := 16) (ci := 5) (v := .ref (L (2))) F hC (0) u_X5 (Nat.le_of_ble_eq_true rfl) rfl rfl 6 (by decide) f_13 rfl dX5_save_31 ?_
      refine lv_iload_n hx hb dX5_save_34 rfl (lv_at hl 2 rfl) ?_
      refine ss_iald F hC (2) 0 (Nat.le_of_ble_eq_true rfl) (fun _ => rfl) rfl hw.1 dX5_save_35 ?_
      replace hw := hw.2
      refine ss_iast F hC (5) 0 (Nat.le_of_ble_eq_true rfl) (fun _ => rfl) rfl hw.1 dX5_save_36 (fun H locs hC => ?_)
      replace hw := hw.2
      refine lv_iinc (v := x2 + 1) (lv' := [(2, .int (x2 + 1)), (0, .ref (L (0))), (1, .int (x1))]) hx hb dX5_save_37 hl (k := 2) rfl rfl (by decide) rfl (fun ls hl => ?_)
      refine lv_goto (tgt := 12) hx hb dX5_save_40 (by decide) ?_
      exact ih (x2 + 1) (u2 σ 5 (Int32.toNatClampNeg ((6 * x1) + x2)) (σ 2 (Int32.toNatClampNeg x2))) _ _ _ hC (lv_sub hl [1, 2, 0] rfl) hw hk43

set_option maxHeartbeats 4000000 in
set_option maxRecDepth 100000 in
theorem bX5_save {x1 : Int32} {post : Int32 → ss_S → Prop} (F : ss_F p R s m args meth c (ss_EM D A L wr cI cZ cS) cX5_save 3 wsX5_save RX5 (some .int) rmX5_save)  : ∀ (σ : ss_S) (H : Heap) (locs : List Loc) (ls : Array Slot), ss_C (ss_EM D A L wr cI cZ cS) σ s H locs → lv_has ls 3 [(0, .ref (L (0))), (1, .int (x1))] → wX5_save x1 σ post → W p l e R s m args below meth c H locs 0 0 (MQ below (va_Qi post (ss_B (ss_EM D A L wr cI cZ cS)) A) args s 0 0 A) (F0 m 0 ls []) := by
  have hx := F.1.1
  have hb := F.1.2.1
  have u_X5 : ∀ w ∈ u_ws RX5 TX5 16, w ∈ wsX5_save := by decide +kernel
  have f_20 : (Cond.fieldLink RX5 20 "SmallSpacesModel" "dims" "[I").before args s = true := F.1.2.2.2.2 _ (by decide +kernel)
  have f_76 : (Cond.fieldLink RX5 76 "SmallSpacesModel" "worked" "I").before args s = true := F.1.2.2.2.2 _ (by decide +kernel)
  intro σ H locs ls hC hl hw
  unfold wX5_save at hw
  refine lv_aload_n hx hb dX5_save_0 rfl (lv_at hl 0 rfl) ?_
  refine ss_get (C := RX5) (T := TX5) (N := 16) (ci := 5) (v := .ref (L (4))) F hC (0) u_X5 (Nat.le_of_ble_eq_true rfl) rfl rfl 9 (by decide) f_20 rfl dX5_save_1 ?_
  refine lv_iload_n hx hb dX5_save_4 rfl (lv_at hl 1 rfl) ?_
  refine lv_aload_n hx hb dX5_save_5 rfl (lv_at hl 0 rfl) ?_
  refine ss_get (C := RX5) (T := TX5) (N := 16) (ci := 5) (v := .int (σ 0 7)) F hC (0) u_X5 (Nat.le_of_ble_eq_true rfl) rfl rfl 7 (by decide) f_76 rfl dX5_save_6 ?_
  refine ss_iast F hC (4) 0 (Nat.le_of_ble_eq_true rfl) (fun _ => rfl) rfl hw.1 dX5_save_9 (fun H locs hC => ?_)
  replace hw := hw.2
  refine lv_iconst (v := 0) hx hb dX5_save_10 (by decide) ?_
  refine lv_istore_n (lv' := [(2, .int (0)), (0, .ref (L (0))), (1, .int (x1))]) hx hb dX5_save_11 rfl hl (by decide) rfl (fun ls hl => ?_)
  obtain ⟨n_, hw⟩ := hw
  refine tX5_save_12 F  _ n_ 0 (u2 σ 4 (Int32.toNatClampNeg x1) (σ 0 7)) _ _ _ hC (lv_sub hl [1, 2, 0] rfl) hw ?_
  · intro x2_1 σ_1 H locs ls hC hl hw
    refine lv_aload_n hx hb dX5_save_43 rfl (lv_at hl 0 rfl) ?_
    refine ss_get (C := RX5) (T := TX5) (N := 16) (ci := 5) (v := .int (σ_1 0 7)) F hC (0) u_X5 (Nat.le_of_ble_eq_true rfl) rfl rfl 7 (by decide) f_76 rfl dX5_save_44 ?_
    exact ss_iret F hC hw dX5_save_47

theorem mX5_save (l : Launch) (D : va_G) (A : Nat → Prop) (L : Nat → Nat) (wr : va_W) (cI cZ cS : ClassId) (σ : ss_S) (x1 : Int32)  : ss_MI l yX5_save wsX5_save rmX5_save (ss_EM D A L wr cI cZ cS) [.ref (L (0)), .int (x1)] σ (fun post => wX5_save x1 σ post) :=
  ss_MI.of (cc := cX5_save) (nL := 3) (ret := (some .int)) (own := RX5) (by decide) rfl rfl (Nat.le_of_ble_eq_true rfl) (fun post p e R s m below meth c H locs ls F hC hl hw => bX5_save F  σ H locs ls hC hl hw)

set_option maxHeartbeats 4000000 in
set_option maxRecDepth 100000 in
theorem bX5_add {x1 : Int32} {x2 : Int32} {post : Int32 → ss_S → Prop} (F : ss_F p R s m args meth c (ss_EM D A L wr cI cZ cS) cX5_add 3 wsX5_add RX5 (some .int) rmX5_add)  : ∀ (σ : ss_S) (H : Heap) (locs : List Loc) (ls : Array Slot), ss_C (ss_EM D A L wr cI cZ cS) σ s H locs → lv_has ls 3 [(0, .ref (L (0))), (1, .int (x1)), (2, .int (x2))] → wX5_add x1 x2 σ post → W p l e R s m args below meth c H locs 0 0 (MQ below (va_Qi post (ss_B (ss_EM D A L wr cI cZ cS)) A) args s 0 0 A) (F0 m 0 ls []) := by
  have hx := F.1.1
  have hb := F.1.2.1
  have u_X5 : ∀ w ∈ u_ws RX5 TX5 16, w ∈ wsX5_add := by decide +kernel
  have f_76 : (Cond.fieldLink RX5 76 "SmallSpacesModel" "worked" "I").before args s = true := F.1.2.2.2.2 _ (by decide +kernel)
  have f_13 : (Cond.fieldLink RX5 13 "SmallSpacesModel" "work" "[I").before args s = true := F.1.2.2.2.2 _ (by decide +kernel)
  intro σ H locs ls hC hl hw
  unfold wX5_add at hw
  refine lv_iload_n hx hb dX5_add_0 rfl (lv_at hl 1 rfl) ?_
  refine ss_ki (ss_rS (As := [.int (x1)]) (rest := []) F ((mX5_isSlot l D A L wr cI cZ cS σ x1) _) gX5_add_X5_isSlot rfl ⟨rfl, rfl⟩ dvX5_isSlot ⟨Nat.le_of_ble_eq_true rfl, Nat.le_of_ble_eq_true rfl⟩ (ss_preS F.2.2.2.2.1 F.2.2.2.2.2 hC hw) rfl hl.1 rfl (Nat.le_of_ble_eq_true rfl) dX5_add_1 ⟨Nat.zero_le _, Nat.zero_le _⟩) hC (fun r2 σ1 H locs hC hw => ?_)
  refine lv_if_eq (tgt := 15) hx hb dX5_add_4 (by decide) (fun hc => ?_) (fun hc => ?_)
  · replace hw := hw.1 hc
    refine lv_bipush (v := -101) hx hb dX5_add_15 (by decide) ?_
    exact ss_iret F hC hw dX5_add_17
  · replace hw := hw.2 hc
    refine lv_aload_n hx hb dX5_add_7 rfl (lv_at hl 0 rfl) ?_
    refine lv_iload_n hx hb dX5_add_8 rfl (lv_at hl 2 rfl) ?_
    refine ss_ki (ss_rV (C := RX5) (As := [.int (x2)]) (rest := []) F ((mX5_isVector l D A L wr cI cZ cS σ1 x2) _) gX5_add_X5_isVector rfl ⟨rfl, rfl⟩ ⟨rfl, dvX5_isVector⟩ ⟨Nat.le_of_ble_eq_true rfl, Nat.le_of_ble_eq_true rfl⟩ (ss_preV F.2.2.2.2.1 F.2.2.2.2.2 hC (ss_rec (C := RX5) (T := TX5) (N := 16) (ci := 5) F.2.2.2.2.1 hC (0) (Nat.le_of_ble_eq_true rfl) rfl rfl) hw) rfl hl.1 rfl (Nat.le_of_ble_eq_true rfl) dX5_add_9 ⟨Nat.zero_le _, Nat.zero_le _⟩) hC (fun r4 σ3 H locs hC hw => ?_)
    refine lv_if_ne (tgt := 18) hx hb dX5_add_12 (by decide) (fun hc => ?_) (fun hc => ?_)
    · replace hw := hw.1 hc
      refine lv_aload_n hx hb dX5_add_18 rfl (lv_at hl 0 rfl) ?_
      refine lv_iconst (v := 0) hx hb dX5_add_19 (by decide) ?_
      refine ss_put (C := RX5) (T := TX5) (N := 16) (ci := 5) F hC (0) tyX5 tyX5_ok nmX5 u_X5 (Nat.le_of_ble_eq_true rfl) rfl rfl 7 (by decide) f_76 rfl (by decide +kernel) (Nat.le_of_ble_eq_true rfl) rfl dX5_add_20 (fun H locs hC => ?_)
      refine lv_aload_n hx hb dX5_add_23 rfl (lv_at hl 0 rfl) ?_
      refine lv_iload_n hx hb dX5_add_24 rfl (lv_at hl 1 rfl) ?_
      refine ss_kv (ss_rV (C := RX5) (As := [.int (x1)]) (rest := []) F ((mX5_load l D A L wr cI cZ cS (u2 σ3 0 7 0) x1) _) gX5_add_X5_load rfl ⟨rfl, rfl⟩ ⟨rfl, dvX5_load⟩ ⟨Nat.le_of_ble_eq_true rfl, Nat.le_of_ble_eq_true rfl⟩ (ss_preV F.2.2.2.2.1 F.2.2.2.2.2 hC (ss_rec (C := RX5) (T := TX5) (N := 16) (ci := 5) F.2.2.2.2.1 hC (0) (Nat.le_of_ble_eq_true rfl) rfl rfl) hw) rfl hl.1 rfl (Nat.le_of_ble_eq_true rfl) dX5_add_25 ⟨Nat.zero_le _, Nat.zero_le _⟩) hC (fun σ5 H locs hC hw => ?_)
      refine lv_aload_n hx hb dX5_add_28 rfl (lv_at hl 0 rfl) ?_
      refine ss_get (C := RX5) (T := TX5) (N := 16) (ci := 5) (v := .ref (L (2))) F hC (0) u_X5 (Nat.le_of_ble_eq_true rfl) rfl rfl 6 (by decide) f_13 rfl dX5_add_29 ?_
      refine lv_aload_n hx hb dX5_add_32 rfl (lv_at hl 0 rfl) ?_
      refine ss_get (C := RX5) (T := TX5) (N := 16) (ci := 5) (v := .int (σ5 0 7)) F hC (0) u_X5 (Nat.le_of_ble_eq_true rfl) rfl rfl 7 (by decide) f_76 rfl dX5_add_33 ?_
      refine lv_iload_n hx hb dX5_add_36 rfl (lv_at hl 2 rfl) ?_
      refine ss_iast F hC (2) 0 (Nat.le_of_ble_eq_true rfl) (fun _ => rfl) rfl hw.1 dX5_add_37 (fun H locs hC => ?_)
      replace hw := hw.2
      refine lv_aload_n hx hb dX5_add_38 rfl (lv_at hl 0 rfl) ?_
      refine lv_dup hx hb dX5_add_39 rfl ?_
      refine ss_get (C := RX5) (T := TX5) (N := 16) (ci := 5) (v := .int ((u2 σ5 2 (Int32.toNatClampNeg (σ5 0 7)) x2) 0 7)) F hC (0) u_X5 (Nat.le_of_ble_eq_true rfl) rfl rfl 7 (by decide) f_76 rfl dX5_add_40 ?_
      refine lv_iconst (v := 1) hx hb dX5_add_43 (by decide) ?_
      refine lv_iadd hx hb dX5_add_44 ?_
      refine ss_put (C := RX5) (T := TX5) (N := 16) (ci := 5) F hC (0) tyX5 tyX5_ok nmX5 u_X5 (Nat.le_of_ble_eq_true rfl) rfl rfl 7 (by decide) f_76 rfl (by decide +kernel) (Nat.le_of_ble_eq_true rfl) rfl dX5_add_45 (fun H locs hC => ?_)
      refine lv_aload_n hx hb dX5_add_48 rfl (lv_at hl 0 rfl) ?_
      refine ss_kv (ss_rV (C := RX5) (As := []) (rest := []) F ((mX5_settle l D A L wr cI cZ cS (u2 (u2 σ5 2 (Int32.toNatClampNeg (σ5 0 7)) x2) 0 7 (((u2 σ5 2 (Int32.toNatClampNeg (σ5 0 7)) x2) 0 7) + 1)) ) _) gX5_add_X5_settle rfl ⟨rfl, rfl⟩ ⟨rfl, dvX5_settle⟩ ⟨Nat.le_of_ble_eq_true rfl, Nat.le_of_ble_eq_true rfl⟩ (ss_preV F.2.2.2.2.1 F.2.2.2.2.2 hC (ss_rec (C := RX5) (T := TX5) (N := 16) (ci := 5) F.2.2.2.2.1 hC (0) (Nat.le_of_ble_eq_true rfl) rfl rfl) hw) rfl hl.1 rfl (Nat.le_of_ble_eq_true rfl) dX5_add_49 ⟨Nat.zero_le _, Nat.zero_le _⟩) hC (fun σ6 H locs hC hw => ?_)
      refine lv_aload_n hx hb dX5_add_52 rfl (lv_at hl 0 rfl) ?_
      refine lv_iload_n hx hb dX5_add_53 rfl (lv_at hl 1 rfl) ?_
      refine ss_ki (ss_rV (C := RX5) (As := [.int (x1)]) (rest := []) F ((mX5_save l D A L wr cI cZ cS σ6 x1) _) gX5_add_X5_save rfl ⟨rfl, rfl⟩ ⟨rfl, dvX5_save⟩ ⟨Nat.le_of_ble_eq_true rfl, Nat.le_of_ble_eq_true rfl⟩ (ss_preV F.2.2.2.2.1 F.2.2.2.2.2 hC (ss_rec (C := RX5) (T := TX5) (N := 16) (ci := 5) F.2.2.2.2.1 hC (0) (Nat.le_of_ble_eq_true rfl) rfl rfl) hw) rfl hl.1 rfl (Nat.le_of_ble_eq_true rfl) dX5_add_54 ⟨Nat.zero_le _, Nat.zero_le _⟩) hC (fun r8 σ7 H locs hC hw => ?_)
      exact ss_iret F hC hw dX5_add_57
    · replace hw := hw.2 hc
      refine lv_bipush (v := -101) hx hb dX5_add_15 (by decide) ?_
      exact ss_iret F hC hw dX5_add_17

theorem mX5_add (l : Launch) (D : va_G) (A : Nat → Prop) (L : Nat → Nat) (wr : va_W) (cI cZ cS : ClassId) (σ : ss_S) (x1 : Int32) (x2 : Int32)  : ss_MI l yX5_add wsX5_add rmX5_add (ss_EM D A L wr cI cZ cS) [.ref (L (0)), .int (x1), .int (x2)] σ (fun post => wX5_add x1 x2 σ post) :=
  ss_MI.of (cc := cX5_add) (nL := 3) (ret := (some .int)) (own := RX5) (by decide) rfl rfl (Nat.le_of_ble_eq_true rfl) (fun post p e R s m below meth c H locs ls F hC hl hw => bX5_add F  σ H locs ls hC hl hw)

set_option maxHeartbeats 4000000 in
set_option maxRecDepth 100000 in
theorem bX5_clear {x1 : Int32} {post : Int32 → ss_S → Prop} (F : ss_F p R s m args meth c (ss_EM D A L wr cI cZ cS) cX5_clear 3 wsX5_clear RX5 (some .int) rmX5_clear)  : ∀ (σ : ss_S) (H : Heap) (locs : List Loc) (ls : Array Slot), ss_C (ss_EM D A L wr cI cZ cS) σ s H locs → lv_has ls 3 [(0, .ref (L (0))), (1, .int (x1))] → wX5_clear x1 σ post → W p l e R s m args below meth c H locs 0 0 (MQ below (va_Qi post (ss_B (ss_EM D A L wr cI cZ cS)) A) args s 0 0 A) (F0 m 0 ls []) := by
  have hx := F.1.1
  have hb := F.1.2.1
  have u_X5 : ∀ w ∈ u_ws RX5 TX5 16, w ∈ wsX5_clear := by decide +kernel
  have f_20 : (Cond.fieldLink RX5 20 "SmallSpacesModel" "dims" "[I").before args s = true := F.1.2.2.2.2 _ (by decide +kernel)
  intro σ H locs ls hC hl hw
  unfold wX5_clear at hw
  refine lv_iload_n hx hb dX5_clear_0 rfl (lv_at hl 1 rfl) ?_
  refine ss_ki (ss_rS (As := [.int (x1)]) (rest := []) F ((mX5_isSlot l D A L wr cI cZ cS σ x1) _) gX5_clear_X5_isSlot rfl ⟨rfl, rfl⟩ dvX5_isSlot ⟨Nat.le_of_ble_eq_true rfl, Nat.le_of_ble_eq_true rfl⟩ (ss_preS F.2.2.2.2.1 F.2.2.2.2.2 hC hw) rfl hl.1 rfl (Nat.le_of_ble_eq_true rfl) dX5_clear_1 ⟨Nat.zero_le _, Nat.zero_le _⟩) hC (fun r2 σ1 H locs hC hw => ?_)
  refine lv_if_ne (tgt := 10) hx hb dX5_clear_4 (by decide) (fun hc => ?_) (fun hc => ?_)
  · replace hw := hw.1 hc
    refine lv_aload_n hx hb dX5_clear_10 rfl (lv_at hl 0 rfl) ?_
    refine ss_get (C := RX5) (T := TX5) (N := 16) (ci := 5) (v := .ref (L (4))) F hC (0) u_X5 (Nat.le_of_ble_eq_true rfl) rfl rfl 9 (by decide) f_20 rfl dX5_clear_11 ?_
    refine lv_iload_n hx hb dX5_clear_14 rfl (lv_at hl 1 rfl) ?_
    refine ss_iald F hC (4) 0 (Nat.le_of_ble_eq_true rfl) (fun _ => rfl) rfl hw.1 dX5_clear_15 ?_
    replace hw := hw.2
    refine lv_istore_n (lv' := [(2, .int (σ1 4 (Int32.toNatClampNeg x1))), (0, .ref (L (0))), (1, .int (x1))]) hx hb dX5_clear_16 rfl hl (by decide) rfl (fun ls hl => ?_)
    refine lv_aload_n hx hb dX5_clear_17 rfl (lv_at hl 1 rfl) ?_
    refine ss_get (C := RX5) (T := TX5) (N := 16) (ci := 5) (v := .ref (L (4))) F hC (0) u_X5 (Nat.le_of_ble_eq_true rfl) rfl rfl 9 (by decide) f_20 rfl dX5_clear_18 ?_
    refine lv_iload_n hx hb dX5_clear_21 rfl (lv_at hl 2 rfl) ?_
    refine lv_iconst (v := 0) hx hb dX5_clear_22 (by decide) ?_
    refine ss_iast F hC (4) 0 (Nat.le_of_ble_eq_true rfl) (fun _ => rfl) rfl hw.1 dX5_clear_23 (fun H locs hC => ?_)
    replace hw := hw.2
    refine lv_iload_n hx hb dX5_clear_24 rfl (lv_at hl 0 rfl) ?_
    exact ss_iret F hC hw dX5_clear_25
  · replace hw := hw.2 hc
    refine lv_bipush (v := -101) hx hb dX5_clear_7 (by decide) ?_
    exact ss_iret F hC hw dX5_clear_9

theorem mX5_clear (l : Launch) (D : va_G) (A : Nat → Prop) (L : Nat → Nat) (wr : va_W) (cI cZ cS : ClassId) (σ : ss_S) (x1 : Int32)  : ss_MI l yX5_clear wsX5_clear rmX5_clear (ss_EM D A L wr cI cZ cS) [.ref (L (0)), .int (x1)] σ (fun post => wX5_clear x1 σ post) :=
  ss_MI.of (cc := cX5_clear) (nL := 3) (ret := (some .int)) (own := RX5) (by decide) rfl rfl (Nat.le_of_ble_eq_true rfl) (fun post p e R s m below meth c H locs ls F hC hl hw => bX5_clear F  σ H locs ls hC hl hw)

set_option maxHeartbeats 4000000 in
set_option maxRecDepth 100000 in
theorem bX5_dim {x1 : Int32} {post : Int32 → ss_S → Prop} (F : ss_F p R s m args meth c (ss_EM D A L wr cI cZ cS) cX5_dim 2 wsX5_dim RX5 (some .int) rmX5_dim)  : ∀ (σ : ss_S) (H : Heap) (locs : List Loc) (ls : Array Slot), ss_C (ss_EM D A L wr cI cZ cS) σ s H locs → lv_has ls 2 [(0, .ref (L (0))), (1, .int (x1))] → wX5_dim x1 σ post → W p l e R s m args below meth c H locs 0 0 (MQ below (va_Qi post (ss_B (ss_EM D A L wr cI cZ cS)) A) args s 0 0 A) (F0 m 0 ls []) := by
  have hx := F.1.1
  have hb := F.1.2.1
  have u_X5 : ∀ w ∈ u_ws RX5 TX5 16, w ∈ wsX5_dim := by decide +kernel
  have f_20 : (Cond.fieldLink RX5 20 "SmallSpacesModel" "dims" "[I").before args s = true := F.1.2.2.2.2 _ (by decide +kernel)
  intro σ H locs ls hC hl hw
  unfold wX5_dim at hw
  refine lv_iload_n hx hb dX5_dim_0 rfl (lv_at hl 1 rfl) ?_
  refine ss_ki (ss_rS (As := [.int (x1)]) (rest := []) F ((mX5_isSlot l D A L wr cI cZ cS σ x1) _) gX5_dim_X5_isSlot rfl ⟨rfl, rfl⟩ dvX5_isSlot ⟨Nat.le_of_ble_eq_true rfl, Nat.le_of_ble_eq_true rfl⟩ (ss_preS F.2.2.2.2.1 F.2.2.2.2.2 hC hw) rfl hl.1 rfl (Nat.le_of_ble_eq_true rfl) dX5_dim_1 ⟨Nat.zero_le _, Nat.zero_le _⟩) hC (fun r2 σ1 H locs hC hw => ?_)
  refine lv_if_eq (tgt := 16) hx hb dX5_dim_4 (by decide) (fun hc => ?_) (fun hc => ?_)
  · replace hw := hw.1 hc
    refine lv_bipush (v := -101) hx hb dX5_dim_16 (by decide) ?_
    exact ss_iret F hC hw dX5_dim_18
  · replace hw := hw.2 hc
    refine lv_aload_n hx hb dX5_dim_7 rfl (lv_at hl 0 rfl) ?_
    refine ss_get (C := RX5) (T := TX5) (N := 16) (ci := 5) (v := .ref (L (4))) F hC (0) u_X5 (Nat.le_of_ble_eq_true rfl) rfl rfl 9 (by decide) f_20 rfl dX5_dim_8 ?_
    refine lv_iload_n hx hb dX5_dim_11 rfl (lv_at hl 1 rfl) ?_
    refine ss_iald F hC (4) 0 (Nat.le_of_ble_eq_true rfl) (fun _ => rfl) rfl hw.1 dX5_dim_12 ?_
    replace hw := hw.2
    refine lv_goto (tgt := 18) hx hb dX5_dim_13 (by decide) ?_
    exact ss_iret F hC hw dX5_dim_18

theorem mX5_dim (l : Launch) (D : va_G) (A : Nat → Prop) (L : Nat → Nat) (wr : va_W) (cI cZ cS : ClassId) (σ : ss_S) (x1 : Int32)  : ss_MI l yX5_dim wsX5_dim rmX5_dim (ss_EM D A L wr cI cZ cS) [.ref (L (0)), .int (x1)] σ (fun post => wX5_dim x1 σ post) :=
  ss_MI.of (cc := cX5_dim) (nL := 2) (ret := (some .int)) (own := RX5) (by decide) rfl rfl (Nat.le_of_ble_eq_true rfl) (fun post p e R s m below meth c H locs ls F hC hl hw => bX5_dim F  σ H locs ls hC hl hw)
end
