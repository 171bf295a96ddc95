def rmX3_init : Room := { frames := 1, cells := 2, slots := 42, locals := 12 }
def rmX0_init : Room := { frames := 2, cells := 0, slots := 0, locals := 45 }
def rmX2_init : Room := { frames := 2, cells := 2, slots := 42, locals := 44 }
def rmX1_init : Room := { frames := 2, cells := 124, slots := 1926, locals := 33 }
def rmX4_init : Room := { frames := 3, cells := 173, slots := 2639, locals := 66 }
def rmX5_init : Room := { frames := 2, cells := 9, slots := 412, locals := 44 }
set_option maxHeartbeats 4000000 in
set_option maxRecDepth 100000 in
theorem nX3_init (l : Launch) (D : va_G) (cI cZ cS : ClassId) (a fr : Nat) : ss_MN (S := Nat × Nat) l yX3_init wsX3_init rmX3_init D (ss_tys cI cZ cS) [.ref a, .ref fr] [(a, .inr (3, [.null, .null, .null, .int 0]))] (fun _ => True) (fun u => [(a, .inr (3, [.ref fr, .ref u.1, .ref u.2, .int 0])), (u.1, .inl (cI, 36, .inl fun _ => 0)), (u.2, .inl (cI, 6, .inl fun _ => 0))]) 2 42 := by
  refine ss_MN.of (cc := cX3_init) (nL := 2) (own := RX3) (by decide) rfl rfl rfl (Nat.le_of_ble_eq_true rfl) (fun p e s m below meth c ls A F hi hO hA h2 hl => ?_)
  have hx := F.1.1
  have hb := F.1.2.1
  have hl : lv_has ls 2 [(0, .ref a), (1, .ref fr)] := hl
  have hS : va_S A s.heap s.heap [] := va_S.rf
  have u_X3 : ∀ w ∈ u_ws RX3 TX3 4, w ∈ wsX3_init := by decide +kernel
  refine lv_aload_n hx hb dX3_init_0 rfl (lv_at hl 0 rfl) ?_
  refine ss_oi F (by decide +kernel) (by decide +kernel) (by decide +kernel) hl.1 (Nat.le_of_ble_eq_true rfl) (Nat.le_of_ble_eq_true rfl) dX3_init_1 ?_
  refine lv_aload_n hx hb dX3_init_4 rfl (lv_at hl 0 rfl) ?_
  refine lv_bipush (v := 36) hx hb dX3_init_5 (by decide) ?_
  refine ss_newA F hA h2 hS (ty := .int) rfl (by decide +kernel) 0 rfl (fun _ h => h) 36 (36, .inl fun _ => 0) (fun _ => rfl) (by decide) (by decide) (Nat.le_of_ble_eq_true rfl) (Nat.le_of_ble_eq_true rfl) (Nat.le_of_ble_eq_true rfl) dX3_init_7 (fun q1 H h2 hS => ?_)
  refine ss_putC (ty := .array .int) F hi h2 hS tyX3 tyX3_ok nmX3 u_X3 1 rfl rfl 1 (by decide) rfl (by decide +kernel) rfl (by decide +kernel) rfl rfl (Nat.le_of_ble_eq_true rfl) dX3_init_9 (fun H locs h2 hS => ?_)
  have h2 : ss_P2 D A [(q1, .inl (cI, 36, .inl fun _ => 0)), (a, .inr (3, [.null, .ref q1, .null, .int 0]))] H := h2
  refine lv_aload_n hx hb dX3_init_12 rfl (lv_at hl 0 rfl) ?_
  refine lv_bipush (v := 6) hx hb dX3_init_13 (by decide) ?_
  refine ss_newA F hA h2 hS (ty := .int) rfl (by decide +kernel) 0 rfl (fun _ h => h) 6 (6, .inl fun _ => 0) (fun _ => rfl) (by decide) (by decide) (Nat.le_of_ble_eq_true rfl) (Nat.le_of_ble_eq_true rfl) (Nat.le_of_ble_eq_true rfl) dX3_init_15 (fun q2 H h2 hS => ?_)
  refine ss_putC (ty := .array .int) F hi h2 hS tyX3 tyX3_ok nmX3 u_X3 2 rfl rfl 2 (by decide) rfl (by decide +kernel) rfl (by decide +kernel) rfl rfl (Nat.le_of_ble_eq_true rfl) dX3_init_17 (fun H locs h2 hS => ?_)
  have h2 : ss_P2 D A [(q2, .inl (cI, 6, .inl fun _ => 0)), (q1, .inl (cI, 36, .inl fun _ => 0)), (a, .inr (3, [.null, .ref q1, .ref q2, .int 0]))] H := h2
  refine lv_aload_n hx hb dX3_init_20 rfl (lv_at hl 0 rfl) ?_
  refine lv_aload_n hx hb dX3_init_21 rfl (lv_at hl 1 rfl) ?_
  refine ss_putC (ty := .object "SmallSpaces$Frame") F hi h2 hS tyX3 tyX3_ok nmX3 u_X3 2 rfl rfl 0 (by decide) rfl (by decide +kernel) rfl (by decide +kernel) rfl rfl (Nat.le_of_ble_eq_true rfl) dX3_init_22 (fun H locs h2 hS => ?_)
  have h2 : ss_P2 D A [(q2, .inl (cI, 6, .inl fun _ => 0)), (q1, .inl (cI, 36, .inl fun _ => 0)), (a, .inr (3, [.ref fr, .ref q1, .ref q2, .int 0]))] H := h2
  exact ss_retN (S := Nat × Nat) (q1, q2) F (h2.perm (List.reverse_perm _).symm) hS trivial (Nat.le_of_ble_eq_true rfl) (Nat.le_of_ble_eq_true rfl) dX3_init_25
set_option maxHeartbeats 4000000 in
set_option maxRecDepth 100000 in
theorem nX0_init (l : Launch) (D : va_G) (cI cZ cS : ClassId) (a x : Nat) (ex : va_E) : ss_MN (S := Unit) l yX0_init wsX0_init rmX0_init D (ss_tys cI cZ cS) [.ref a] [(x, ex), (a, .inr (0, [.int 0, .int 0, .int 0]))] (fun _ => True) (fun _ => [(x, ex), (a, .inr (0, [.int 2, .int 1, .int 2]))]) 0 0 := by
  refine ss_MN.of (cc := cX0_init) (nL := 1) (own := RX0) (by decide) rfl rfl rfl (Nat.le_of_ble_eq_true rfl) (fun p e s m below meth c ls A F hi hO hA h2 hl => ?_)
  have hx := F.1.1
  have hb := F.1.2.1
  have hl : lv_has ls 1 [(0, .ref a)] := hl
  have hS : va_S A s.heap s.heap [] := va_S.rf
  refine lv_aload_n hx hb dX0_init_0 rfl (lv_at hl 0 rfl) ?_
  refine ss_oi F (by decide +kernel) (by decide +kernel) (by decide +kernel) hl.1 (Nat.le_of_ble_eq_true rfl) (Nat.le_of_ble_eq_true rfl) dX0_init_1 ?_
  refine lv_aload_n hx hb dX0_init_4 rfl (lv_at hl 0 rfl) ?_
  refine lv_iconst (v := 2) hx hb dX0_init_5 (by decide) ?_
  refine lv_iconst (v := 1) hx hb dX0_init_6 (by decide) ?_
  have F' : ss_F p rmX0_init s m [Value.ref a].toArray meth c (ss_E2 D A (fun i => match i with | 0 => x | _ => a) [] cI cZ cS (fun _ => ex)) cX0_init 1 wsX0_init RX0 none rmX0_init := ss_FM F
  have hC : ss_C (ss_E2 D A (fun i => match i with | 0 => x | _ => a) [] cI cZ cS (fun _ => ex)) (fun _ _ => 0) s s.heap [] := ⟨h2.1, h2.2, hS⟩
  have hw : wX0_become 2 1 (fun _ _ => 0) (fun σ' : ss_S => σ' 1 0 = 2 ∧ σ' 1 1 = 1 ∧ σ' 1 2 = 2) := by
    unfold wX0_become
    refine pX0_power (q := 2) (by rw [u2_at, pk_un (by omega), u2_at, pk_us]; rfl) 1 (by omega) ?_
    refine ⟨?_, ?_, ?_⟩
    · rw [u2_at, pk_un (by omega), u2_at, pk_un (by omega), u2_at, pk_us]
    · rw [u2_at, pk_un (by omega), u2_at, pk_us]
    · rw [u2_at, pk_us]; rfl
  refine ss_kv (ss_rV (C := RX0) (As := [.int 2, .int 1]) (rest := []) F' ((mX0_becomey l D A (fun i => match i with | 0 => x | _ => a) [] cI cZ cS (fun _ => ex) (fun _ _ => 0) 2 1) _) gX0_init_X0_become rfl ⟨rfl, rfl⟩ ⟨rfl, dvX0_become⟩ ⟨Nat.le_of_ble_eq_true rfl, Nat.le_of_ble_eq_true rfl⟩ (ss_preV F'.2.2.2.2.1 F'.2.2.2.2.2 hC (ss_rec (C := RX0) (T := TX0) (N := 3) (ci := 0) F'.2.2.2.2.1 hC (1) (Nat.le_of_ble_eq_true rfl) rfl rfl) hw) rfl hl.1 rfl (Nat.le_of_ble_eq_true rfl) dX0_init_7 ⟨Nat.zero_le _, Nat.zero_le _⟩) hC (fun σ1 H locs hC hw => ?_)
  have h2 : ss_P2 D A [(x, ex), (a, .inr (0, [.int (σ1 1 0), .int (σ1 1 1), .int (σ1 1 2)]))] H := ⟨hC.1, hC.2.1⟩
  rw [hw.1, hw.2.1, hw.2.2] at h2
  exact ss_retN (S := Unit) () F h2 hC.2.2 trivial (Nat.zero_le _) (Nat.zero_le _) dX0_init_10
