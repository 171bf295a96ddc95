set_option maxHeartbeats 4000000 in
set_option maxRecDepth 100000 in
theorem nX2_init (l : Launch) (D : va_G) (cI cZ cS : ClassId) (a0 fr a2 a3 a4 a5 a6 : Nat) (e0 e2 e3 e4 e6 : va_E) : ss_MN (S := (Nat × Nat) × (Nat → Int32)) l yX2_init wsX2_init rmX2_init D (ss_tys cI cZ cS) [.ref a5, .ref fr] [(a0, e0), (fr, .inr (0, [.int 2, .int 1, .int 2])), (a2, e2), (a3, e3), (a4, e4), (a5, .inr (2, [.null, .null, .null])), (a6, e6)] (fun u => LnC (fun _ => u.2) 2 1 la_e) (fun u => [(a0, e0), (fr, .inr (0, [.int 2, .int 1, .int 2])), (a2, e2), (a3, e3), (a4, e4), (a5, .inr (2, [.ref fr, .ref u.1.1, .ref u.1.2])), (a6, e6), (u.1.1, .inl (cI, 36, .inl u.2)), (u.1.2, .inl (cI, 6, .inl fun _ => 0))]) 2 42 := by
  refine ss_MN.of (cc := cX2_init) (nL := 2) (own := RX2) (by decide) rfl rfl rfl (Nat.le_of_ble_eq_true rfl) (fun p e s m below meth c ls A F hi hO hA h2 hl => ?_)
  have hx := F.1.1
  have hb := F.1.2.1
  have hl : lv_has ls 2 [(0, .ref a5), (1, .ref fr)] := hl
  have hS : va_S A s.heap s.heap [] := va_S.rf
  have u_X2 : ∀ w ∈ u_ws RX2 TX2 3, w ∈ wsX2_init := by decide +kernel
  refine lv_aload_n hx hb dX2_init_0 rfl (lv_at hl 0 rfl) ?_
  refine ss_oi F (by decide +kernel) (by decide +kernel) (by decide +kernel) hl.1 (Nat.le_of_ble_eq_true rfl) (Nat.le_of_ble_eq_true rfl) dX2_init_1 ?_
  refine lv_aload_n hx hb dX2_init_4 rfl (lv_at hl 0 rfl) ?_
  refine lv_bipush (v := 36) hx hb dX2_init_5 (by decide) ?_
  refine ss_newA F hA h2 hS (ty := .int) rfl (by decide +kernel) 0 rfl (fun _ h => h) 36 (36, .inl fun _ => 0) (fun _ => rfl) (by decide) (by decide) (Nat.le_of_ble_eq_true rfl) (Nat.le_of_ble_eq_true rfl) (Nat.le_of_ble_eq_true rfl) dX2_init_7 (fun q7 H h2 hS => ?_)
  refine ss_putC (ty := .array .int) F hi h2 hS tyX2 tyX2_ok nmX2 u_X2 6 rfl rfl 1 (by decide) rfl (by decide +kernel) rfl (by decide +kernel) rfl rfl (Nat.le_of_ble_eq_true rfl) dX2_init_9 (fun H locs h2 hS => ?_)
  have h2 : ss_P2 D A [(q7, .inl (cI, 36, .inl fun _ => 0)), (a0, e0), (fr, .inr (0, [.int 2, .int 1, .int 2])), (a2, e2), (a3, e3), (a4, e4), (a5, .inr (2, [.null, .ref q7, .null])), (a6, e6)] H := h2
  refine lv_aload_n hx hb dX2_init_12 rfl (lv_at hl 0 rfl) ?_
  refine lv_bipush (v := 6) hx hb dX2_init_13 (by decide) ?_
  refine ss_newA F hA h2 hS (ty := .int) rfl (by decide +kernel) 0 rfl (fun _ h => h) 6 (6, .inl fun _ => 0) (fun _ => rfl) (by decide) (by decide) (Nat.le_of_ble_eq_true rfl) (Nat.le_of_ble_eq_true rfl) (Nat.le_of_ble_eq_true rfl) dX2_init_15 (fun q8 H h2 hS => ?_)
  refine ss_putC (ty := .array .int) F hi h2 hS tyX2 tyX2_ok nmX2 u_X2 7 rfl rfl 2 (by decide) rfl (by decide +kernel) rfl (by decide +kernel) rfl rfl (Nat.le_of_ble_eq_true rfl) dX2_init_17 (fun H locs h2 hS => ?_)
  have h2 : ss_P2 D A [(q8, .inl (cI, 6, .inl fun _ => 0)), (q7, .inl (cI, 36, .inl fun _ => 0)), (a0, e0), (fr, .inr (0, [.int 2, .int 1, .int 2])), (a2, e2), (a3, e3), (a4, e4), (a5, .inr (2, [.null, .ref q7, .ref q8])), (a6, e6)] H := h2
  refine lv_aload_n hx hb dX2_init_20 rfl (lv_at hl 0 rfl) ?_
  refine lv_aload_n hx hb dX2_init_21 rfl (lv_at hl 1 rfl) ?_
  refine ss_putC (ty := .object "SmallSpaces$Frame") F hi h2 hS tyX2 tyX2_ok nmX2 u_X2 7 rfl rfl 0 (by decide) rfl (by decide +kernel) rfl (by decide +kernel) rfl rfl (Nat.le_of_ble_eq_true rfl) dX2_init_22 (fun H locs h2 hS => ?_)
  have h2 : ss_P2 D A ([(q8, .inl (cI, 6, .inl fun _ => 0)), (q7, .inl (cI, 36, .inl fun _ => 0))] ++ [(a0, e0), (fr, .inr (0, [.int 2, .int 1, .int 2])), (a2, e2), (a3, e3), (a4, e4), (a5, .inr (2, [.ref fr, .ref q7, .ref q8])), (a6, e6)]) H := h2
  have h2 := (h2.perm List.perm_append_comm).perm (List.Perm.append_left _ (List.Perm.swap _ _ _))
  obtain ⟨L9, hL9⟩ : ∃ L9 : Nat → Nat, L9 = (fun i => match i with | 0 => a0 | 1 => fr | 2 => a2 | 3 => a3 | 4 => a4 | 5 => a5 | 6 => a6 | 7 => q7 | _ => q8) := ⟨_, rfl⟩
  obtain ⟨ex, hex⟩ : ∃ ex : Nat → va_E, ex = (fun i => match i with | 0 => e0 | 2 => e2 | 3 => e3 | 4 => e4 | _ => e6) := ⟨_, rfl⟩
  obtain ⟨σ0, hσ0⟩ : ∃ σ0 : ss_S, σ0 = (fun i k => match i with | 1 => (match k with | 1 => 1 | _ => 2) | _ => 0) := ⟨_, rfl⟩
  have F' : ss_F p rmX2_init s m [Value.ref a5, Value.ref fr].toArray meth c (ss_E9 D A L9 [] cI cZ cS ex) cX2_init 2 wsX2_init RX2 none rmX2_init := ss_FM F
  have hC : ss_C (ss_E9 D A L9 [] cI cZ cS ex) σ0 s H locs := by
    subst hL9 hex hσ0
    exact ⟨h2.1, h2.2, hS⟩
  have e5 : L9 5 = a5 := by subst hL9; rfl
  have hFr : FrC σ0 2 1 := by
    subst hσ0
    exact ⟨by unfold la_q; omega, rfl, rfl, rfl⟩
  have hw : wX2_becomeIdentity σ0 (fun σ' : ss_S => ∃ h : Nat → Int32, σ' = sA σ0 7 h ∧ LnC (fun _ => h) 2 1 la_e) := by
    refine pX2_becomeIdentity hFr (fun h hL => ⟨h, rfl, fun p hp => ⟨(hL p hp).1, fun c hc => ?_⟩⟩)
    have := (hL p hp).2 c hc
    rw [sA_same] at this
    exact this
  have hl : lv_has ls 2 [(0, .ref (L9 5)), (1, .ref fr)] := by rw [e5]; exact hl
  refine lv_aload_n hx hb dX2_init_25 rfl (lv_at hl 0 rfl) ?_
  refine ss_kv (ss_rV (C := RX2) (As := []) (rest := []) F' ((mX2_becomeIdentityy l D A L9 [] cI cZ cS ex σ0) _) gX2_init_X2_becomeIdentity rfl ⟨rfl, rfl⟩ ⟨rfl, dvX2_becomeIdentity⟩ ⟨Nat.le_of_ble_eq_true rfl, Nat.le_of_ble_eq_true rfl⟩ (ss_preV F'.2.2.2.2.1 F'.2.2.2.2.2 hC (ss_rec (C := RX2) (T := TX2) (N := 3) (ci := 2) F'.2.2.2.2.1 hC (5) (Nat.le_of_ble_eq_true rfl) rfl rfl) hw) rfl hl.1 rfl (Nat.le_of_ble_eq_true rfl) dX2_init_26 ⟨Nat.le_of_ble_eq_true rfl, Nat.le_of_ble_eq_true rfl⟩) hC (fun σ1 H locs hC hw => ?_)
  obtain ⟨h, rfl, hL⟩ := hw
  have h2 : ss_P2 D A [(a0, e0), (fr, .inr (0, [.int 2, .int 1, .int 2])), (a2, e2), (a3, e3), (a4, e4), (a5, .inr (2, [.ref fr, .ref q7, .ref q8])), (a6, e6), (q7, .inl (cI, 36, .inl h)), (q8, .inl (cI, 6, .inl fun _ => 0))] H := by
    subst hL9 hex hσ0
    exact ⟨hC.1, hC.2.1⟩
  exact ss_retN (S := (Nat × Nat) × (Nat → Int32)) ((q7, q8), h) F h2 hC.2.2 hL (Nat.le_of_ble_eq_true rfl) (Nat.le_of_ble_eq_true rfl) dX2_init_29
