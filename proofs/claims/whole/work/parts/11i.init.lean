set_option maxHeartbeats 8000000 in
set_option maxRecDepth 100000 in
theorem nX5_init (l : Launch) (D : va_G) (cI cZ cS : ClassId) (a : Nat) : ss_MN (S := (Nat → Nat) × ss_S) l yX5_init wsX5_init rmX5_init D (ss_tys cI cZ cS) [.ref a] [(a, .inr (5, [.int 0, .int 0, .int 0, .null, .int 0, .int 0, .null, .int 0, .null, .null, .null, .null, .null, .int 0, .null, .null]))] (fun u => u.1 0 = a ∧ FrM u.2 2 1 ∧ (∀ j, 3 ≤ j → j ≠ 13 → u.2 0 j = 0) ∧ u.2 0 13 = nI 0 ∧ (∀ k, k < 12 → u.2 4 k = nI 0) ∧ LnM u.2 2 1 la_e) (fun u => ss_ws 10 u.1 (ss_ceM u.1 cI cZ) u.2) 9 412 := by
  refine ss_MN.of (cc := cX5_init) (nL := 1) (own := RX5) (by decide) rfl rfl rfl (Nat.le_of_ble_eq_true rfl) (fun p e s m below meth c ls A F hi hO hA h2 hl => ?_)
  have hx := F.1.1
  have hb := F.1.2.1
  have hl : lv_has ls 1 [(0, .ref a)] := hl
  have hS : va_S A s.heap s.heap [] := va_S.rf
  have u_X5 : ∀ w ∈ u_ws RX5 TX5 16, w ∈ wsX5_init := by decide +kernel
  refine lv_aload_n hx hb dX5_init_0 rfl (lv_at hl 0 rfl) ?_
  refine ss_oi F (by decide +kernel) (by decide +kernel) (by decide +kernel) hl.1 (Nat.le_of_ble_eq_true rfl) (Nat.le_of_ble_eq_true rfl) dX5_init_1 ?_
  refine lv_aload_n hx hb dX5_init_4 rfl (lv_at hl 0 rfl) ?_
  refine lv_bipush (v := 6) hx hb dX5_init_5 (by decide) ?_
  refine ss_newA F hA h2 hS (ty := .int) rfl (by decide +kernel) 0 rfl (fun _ h => h) 6 (6, .inl fun _ => 0) (fun _ => rfl) (by decide) (by decide) (Nat.le_of_ble_eq_true rfl) (Nat.le_of_ble_eq_true rfl) (Nat.le_of_ble_eq_true rfl) dX5_init_7 (fun q1 H h2 hS => ?_)
  refine ss_putC (ty := .array .int) F hi h2 hS tyX5 tyX5_ok nmX5 u_X5 1 rfl rfl 3 (by decide) rfl (by decide +kernel) rfl (by decide +kernel) rfl rfl (Nat.le_of_ble_eq_true rfl) dX5_init_9 (fun H locs h2 hS => ?_)
  have h2 : ss_P2 D A [(q1, .inl (cI, 6, .inl fun _ => 0)), (a, .inr (5, [.int 0, .int 0, .int 0, .ref q1, .int 0, .int 0, .null, .int 0, .null, .null, .null, .null, .null, .int 0, .null, .null]))] H := h2
  refine lv_aload_n hx hb dX5_init_12 rfl (lv_at hl 0 rfl) ?_
  refine lv_bipush (v := 24) hx hb dX5_init_13 (by decide) ?_
  refine ss_newA F hA h2 hS (ty := .int) rfl (by decide +kernel) 0 rfl (fun _ h => h) 24 (24, .inl fun _ => 0) (fun _ => rfl) (by decide) (by decide) (Nat.le_of_ble_eq_true rfl) (Nat.le_of_ble_eq_true rfl) (Nat.le_of_ble_eq_true rfl) dX5_init_15 (fun q2 H h2 hS => ?_)
  refine ss_putC (ty := .array .int) F hi h2 hS tyX5 tyX5_ok nmX5 u_X5 2 rfl rfl 6 (by decide) rfl (by decide +kernel) rfl (by decide +kernel) rfl rfl (Nat.le_of_ble_eq_true rfl) dX5_init_17 (fun H locs h2 hS => ?_)
  have h2 : ss_P2 D A [(q2, .inl (cI, 24, .inl fun _ => 0)), (q1, .inl (cI, 6, .inl fun _ => 0)), (a, .inr (5, [.int 0, .int 0, .int 0, .ref q1, .int 0, .int 0, .ref q2, .int 0, .null, .null, .null, .null, .null, .int 0, .null, .null]))] H := h2
  refine lv_aload_n hx hb dX5_init_20 rfl (lv_at hl 0 rfl) ?_
  refine lv_bipush (v := 6) hx hb dX5_init_21 (by decide) ?_
  refine ss_newA F hA h2 hS (ty := .boolean) rfl (by decide +kernel) 1 rfl (fun _ h => h) 6 (6, .inl fun _ => 0) (fun _ => rfl) (by decide) (by decide) (Nat.le_of_ble_eq_true rfl) (Nat.le_of_ble_eq_true rfl) (Nat.le_of_ble_eq_true rfl) dX5_init_23 (fun q3 H h2 hS => ?_)
  refine ss_putC (ty := .array .boolean) F hi h2 hS tyX5 tyX5_ok nmX5 u_X5 3 rfl rfl 8 (by decide) rfl (by decide +kernel) rfl (by decide +kernel) rfl rfl (Nat.le_of_ble_eq_true rfl) dX5_init_25 (fun H locs h2 hS => ?_)
  have h2 : ss_P2 D A [(q3, .inl (cZ, 6, .inl fun _ => 0)), (q2, .inl (cI, 24, .inl fun _ => 0)), (q1, .inl (cI, 6, .inl fun _ => 0)), (a, .inr (5, [.int 0, .int 0, .int 0, .ref q1, .int 0, .int 0, .ref q2, .int 0, .ref q3, .null, .null, .null, .null, .int 0, .null, .null]))] H := h2
  refine lv_aload_n hx hb dX5_init_28 rfl (lv_at hl 0 rfl) ?_
  refine lv_bipush (v := 12) hx hb dX5_init_29 (by decide) ?_
  refine ss_newA F hA h2 hS (ty := .int) rfl (by decide +kernel) 0 rfl (fun _ h => h) 12 (12, .inl fun _ => 0) (fun _ => rfl) (by decide) (by decide) (Nat.le_of_ble_eq_true rfl) (Nat.le_of_ble_eq_true rfl) (Nat.le_of_ble_eq_true rfl) dX5_init_31 (fun q4 H h2 hS => ?_)
  refine ss_putC (ty := .array .int) F hi h2 hS tyX5 tyX5_ok nmX5 u_X5 4 rfl rfl 9 (by decide) rfl (by decide +kernel) rfl (by decide +kernel) rfl rfl (Nat.le_of_ble_eq_true rfl) dX5_init_33 (fun H locs h2 hS => ?_)
  have h2 : ss_P2 D A [(q4, .inl (cI, 12, .inl fun _ => 0)), (q3, .inl (cZ, 6, .inl fun _ => 0)), (q2, .inl (cI, 24, .inl fun _ => 0)), (q1, .inl (cI, 6, .inl fun _ => 0)), (a, .inr (5, [.int 0, .int 0, .int 0, .ref q1, .int 0, .int 0, .ref q2, .int 0, .ref q3, .ref q4, .null, .null, .null, .int 0, .null, .null]))] H := h2
  refine lv_aload_n hx hb dX5_init_36 rfl (lv_at hl 0 rfl) ?_
  refine lv_bipush (v := 72) hx hb dX5_init_37 (by decide) ?_
  refine ss_newA F hA h2 hS (ty := .int) rfl (by decide +kernel) 0 rfl (fun _ h => h) 72 (72, .inl fun _ => 0) (fun _ => rfl) (by decide) (by decide) (Nat.le_of_ble_eq_true rfl) (Nat.le_of_ble_eq_true rfl) (Nat.le_of_ble_eq_true rfl) dX5_init_39 (fun q5 H h2 hS => ?_)
  refine ss_putC (ty := .array .int) F hi h2 hS tyX5 tyX5_ok nmX5 u_X5 5 rfl rfl 10 (by decide) rfl (by decide +kernel) rfl (by decide +kernel) rfl rfl (Nat.le_of_ble_eq_true rfl) dX5_init_41 (fun H locs h2 hS => ?_)
  have h2 : ss_P2 D A [(q5, .inl (cI, 72, .inl fun _ => 0)), (q4, .inl (cI, 12, .inl fun _ => 0)), (q3, .inl (cZ, 6, .inl fun _ => 0)), (q2, .inl (cI, 24, .inl fun _ => 0)), (q1, .inl (cI, 6, .inl fun _ => 0)), (a, .inr (5, [.int 0, .int 0, .int 0, .ref q1, .int 0, .int 0, .ref q2, .int 0, .ref q3, .ref q4, .ref q5, .null, .null, .int 0, .null, .null]))] H := h2
  refine lv_aload_n hx hb dX5_init_44 rfl (lv_at hl 0 rfl) ?_
  refine lv_bipush (v := 6) hx hb dX5_init_45 (by decide) ?_
  refine ss_newA F hA h2 hS (ty := .int) rfl (by decide +kernel) 0 rfl (fun _ h => h) 6 (6, .inl fun _ => 0) (fun _ => rfl) (by decide) (by decide) (Nat.le_of_ble_eq_true rfl) (Nat.le_of_ble_eq_true rfl) (Nat.le_of_ble_eq_true rfl) dX5_init_47 (fun q6 H h2 hS => ?_)
  refine ss_putC (ty := .array .int) F hi h2 hS tyX5 tyX5_ok nmX5 u_X5 6 rfl rfl 11 (by decide) rfl (by decide +kernel) rfl (by decide +kernel) rfl rfl (Nat.le_of_ble_eq_true rfl) dX5_init_49 (fun H locs h2 hS => ?_)
  have h2 : ss_P2 D A [(q6, .inl (cI, 6, .inl fun _ => 0)), (q5, .inl (cI, 72, .inl fun _ => 0)), (q4, .inl (cI, 12, .inl fun _ => 0)), (q3, .inl (cZ, 6, .inl fun _ => 0)), (q2, .inl (cI, 24, .inl fun _ => 0)), (q1, .inl (cI, 6, .inl fun _ => 0)), (a, .inr (5, [.int 0, .int 0, .int 0, .ref q1, .int 0, .int 0, .ref q2, .int 0, .ref q3, .ref q4, .ref q5, .ref q6, .null, .int 0, .null, .null]))] H := h2
  refine lv_aload_n hx hb dX5_init_52 rfl (lv_at hl 0 rfl) ?_
  refine lv_bipush (v := 6) hx hb dX5_init_53 (by decide) ?_
  refine ss_newA F hA h2 hS (ty := .int) rfl (by decide +kernel) 0 rfl (fun _ h => h) 6 (6, .inl fun _ => 0) (fun _ => rfl) (by decide) (by decide) (Nat.le_of_ble_eq_true rfl) (Nat.le_of_ble_eq_true rfl) (Nat.le_of_ble_eq_true rfl) dX5_init_55 (fun q7 H h2 hS => ?_)
  refine ss_putC (ty := .array .int) F hi h2 hS tyX5 tyX5_ok nmX5 u_X5 7 rfl rfl 12 (by decide) rfl (by decide +kernel) rfl (by decide +kernel) rfl rfl (Nat.le_of_ble_eq_true rfl) dX5_init_57 (fun H locs h2 hS => ?_)
  have h2 : ss_P2 D A [(q7, .inl (cI, 6, .inl fun _ => 0)), (q6, .inl (cI, 6, .inl fun _ => 0)), (q5, .inl (cI, 72, .inl fun _ => 0)), (q4, .inl (cI, 12, .inl fun _ => 0)), (q3, .inl (cZ, 6, .inl fun _ => 0)), (q2, .inl (cI, 24, .inl fun _ => 0)), (q1, .inl (cI, 6, .inl fun _ => 0)), (a, .inr (5, [.int 0, .int 0, .int 0, .ref q1, .int 0, .int 0, .ref q2, .int 0, .ref q3, .ref q4, .ref q5, .ref q6, .ref q7, .int 0, .null, .null]))] H := h2
  refine lv_aload_n hx hb dX5_init_60 rfl (lv_at hl 0 rfl) ?_
  refine lv_bipush (v := 40) hx hb dX5_init_61 (by decide) ?_
  refine ss_newA F hA h2 hS (ty := .int) rfl (by decide +kernel) 0 rfl (fun _ h => h) 40 (40, .inl fun _ => 0) (fun _ => rfl) (by decide) (by decide) (Nat.le_of_ble_eq_true rfl) (Nat.le_of_ble_eq_true rfl) (Nat.le_of_ble_eq_true rfl) dX5_init_63 (fun q8 H h2 hS => ?_)
  refine ss_putC (ty := .array .int) F hi h2 hS tyX5 tyX5_ok nmX5 u_X5 8 rfl rfl 14 (by decide) rfl (by decide +kernel) rfl (by decide +kernel) rfl rfl (Nat.le_of_ble_eq_true rfl) dX5_init_65 (fun H locs h2 hS => ?_)
  have h2 : ss_P2 D A [(q8, .inl (cI, 40, .inl fun _ => 0)), (q7, .inl (cI, 6, .inl fun _ => 0)), (q6, .inl (cI, 6, .inl fun _ => 0)), (q5, .inl (cI, 72, .inl fun _ => 0)), (q4, .inl (cI, 12, .inl fun _ => 0)), (q3, .inl (cZ, 6, .inl fun _ => 0)), (q2, .inl (cI, 24, .inl fun _ => 0)), (q1, .inl (cI, 6, .inl fun _ => 0)), (a, .inr (5, [.int 0, .int 0, .int 0, .ref q1, .int 0, .int 0, .ref q2, .int 0, .ref q3, .ref q4, .ref q5, .ref q6, .ref q7, .int 0, .ref q8, .null]))] H := h2
  refine lv_aload_n hx hb dX5_init_68 rfl (lv_at hl 0 rfl) ?_
  refine lv_sipush (v := 240) hx hb dX5_init_69 (by decide) ?_
  refine ss_newA F hA h2 hS (ty := .int) rfl (by decide +kernel) 0 rfl (fun _ h => h) 240 (240, .inl fun _ => 0) (fun _ => rfl) (by decide) (by decide) (Nat.le_of_ble_eq_true rfl) (Nat.le_of_ble_eq_true rfl) (Nat.le_of_ble_eq_true rfl) dX5_init_72 (fun q9 H h2 hS => ?_)
  refine ss_putC (ty := .array .int) F hi h2 hS tyX5 tyX5_ok nmX5 u_X5 9 rfl rfl 15 (by decide) rfl (by decide +kernel) rfl (by decide +kernel) rfl rfl (Nat.le_of_ble_eq_true rfl) dX5_init_74 (fun H locs h2 hS => ?_)
  have h2 : ss_P2 D A [(q9, .inl (cI, 240, .inl fun _ => 0)), (q8, .inl (cI, 40, .inl fun _ => 0)), (q7, .inl (cI, 6, .inl fun _ => 0)), (q6, .inl (cI, 6, .inl fun _ => 0)), (q5, .inl (cI, 72, .inl fun _ => 0)), (q4, .inl (cI, 12, .inl fun _ => 0)), (q3, .inl (cZ, 6, .inl fun _ => 0)), (q2, .inl (cI, 24, .inl fun _ => 0)), (q1, .inl (cI, 6, .inl fun _ => 0)), (a, .inr (5, [.int 0, .int 0, .int 0, .ref q1, .int 0, .int 0, .ref q2, .int 0, .ref q3, .ref q4, .ref q5, .ref q6, .ref q7, .int 0, .ref q8, .ref q9]))] H := h2
  have h2 := h2.perm (List.reverse_perm _).symm
  obtain ⟨Lm, hLm⟩ : ∃ Lm : Nat → Nat, Lm = (fun i => match i with | 0 => a | 1 => q1 | 2 => q2 | 3 => q3 | 4 => q4 | 5 => q5 | 6 => q6 | 7 => q7 | 8 => q8 | _ => q9) := ⟨_, rfl⟩
  have F' : ss_F p rmX5_init s m [Value.ref a].toArray meth c (ss_EM D A Lm [] cI cZ cS) cX5_init 1 wsX5_init RX5 none rmX5_init := ss_FM F
  have hC : ss_C (ss_EM D A Lm [] cI cZ cS) (fun _ _ => 0) s H locs := by
    subst hLm
    exact ⟨h2.1, h2.2, hS⟩
  have e0 : Lm 0 = a := by subst hLm; rfl
  rw [← e0] at hl
  refine lv_aload_n hx hb dX5_init_77 rfl (lv_at hl 0 rfl) ?_
  refine lv_iconst (v := 2) hx hb dX5_init_78 (by decide) ?_
  refine ss_put (C := RX5) (T := TX5) (N := 16) (ci := 5) F' hC (0) tyX5 tyX5_ok nmX5 u_X5 (Nat.le_of_ble_eq_true rfl) rfl rfl 0 (by decide) (F.1.2.2.2.2 _ (by decide +kernel)) rfl (by decide +kernel) (Nat.le_of_ble_eq_true rfl) rfl dX5_init_79 (fun H locs hC => ?_)
  refine lv_aload_n hx hb dX5_init_82 rfl (lv_at hl 0 rfl) ?_
  refine lv_iconst (v := 1) hx hb dX5_init_83 (by decide) ?_
  refine ss_put (C := RX5) (T := TX5) (N := 16) (ci := 5) F' hC (0) tyX5 tyX5_ok nmX5 u_X5 (Nat.le_of_ble_eq_true rfl) rfl rfl 1 (by decide) (F.1.2.2.2.2 _ (by decide +kernel)) rfl (by decide +kernel) (Nat.le_of_ble_eq_true rfl) rfl dX5_init_84 (fun H locs hC => ?_)
  refine lv_aload_n hx hb dX5_init_87 rfl (lv_at hl 0 rfl) ?_
  have hw : wX5_begin (u2 (u2 (fun _ _ => 0) 0 0 2) 0 1 1) (fun τ : ss_S => FrM τ 2 1 ∧ (∀ j, 3 ≤ j → j ≠ 13 → τ 0 j = 0) ∧ τ 0 13 = nI 0 ∧ (∀ k, k < 12 → τ 4 k = nI 0) ∧ LnM τ 2 1 la_e) := by
    refine mBegin (q := 2) (n := 1) (by unfold la_q; omega) rfl rfl (fun τ' x1 x2 x3 x4 x5 => ⟨x1, fun j h1 h2 => ?_, x3, x4, x5⟩)
    rw [x2 j (by omega) h2, u2_at, pk_un (by omega), u2_at, pk_un (by omega)]
  refine ss_kv (ss_rV (C := RX5) (As := []) (rest := []) F' ((mX5_begin l D A Lm [] cI cZ cS (u2 (u2 (fun _ _ => 0) 0 0 2) 0 1 1)) _) gX5_init_X5_begin rfl ⟨rfl, rfl⟩ ⟨rfl, dvX5_begin⟩ ⟨Nat.le_of_ble_eq_true rfl, Nat.le_of_ble_eq_true rfl⟩ (ss_preV F'.2.2.2.2.1 F'.2.2.2.2.2 hC (ss_rec (C := RX5) (T := TX5) (N := 16) (ci := 5) F'.2.2.2.2.1 hC (0) (Nat.le_of_ble_eq_true rfl) rfl rfl) hw) rfl hl.1 rfl (Nat.le_of_ble_eq_true rfl) dX5_init_88 ⟨Nat.le_of_ble_eq_true rfl, Nat.le_of_ble_eq_true rfl⟩) hC (fun τ H locs hC hw => ?_)
  have h2 : ss_P2 D A (ss_ws 10 Lm (ss_ceM Lm cI cZ) τ) H := by
    have x := hC.1
    have y := hC.2.1
    rw [List.append_nil] at x y
    exact ⟨x, y⟩
  exact ss_retN (S := (Nat → Nat) × ss_S) (Lm, τ) F h2 hC.2.2 ⟨e0, hw⟩ (Nat.le_of_ble_eq_true rfl) (Nat.le_of_ble_eq_true rfl) dX5_init_91
