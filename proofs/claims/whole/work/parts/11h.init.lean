set_option maxHeartbeats 8000000 in
set_option maxRecDepth 100000 in
theorem nX4_init (l : Launch) (D : va_G) (cI cZ cS : ClassId) (a : Nat) : ss_MN (S := (Nat → Nat) × (Nat → Int32)) l yX4_init wsX4_init rmX4_init D (ss_tys cI cZ cS) [.ref a] [(a, .inr (4, [.null, .null, .null, .null, .null, .null, .null, .int 0, .int 0]))] (fun u => u.1 0 = a ∧ LnC (fun _ => u.2) 2 1 la_e) (fun u => ss_ws 174 u.1 (ss_ceC u.1 cI cS) (sX u.2)) 173 2639 := by
  refine ss_MN.of (cc := cX4_init) (nL := 2) (own := RX4) (by decide) rfl rfl rfl (Nat.le_of_ble_eq_true rfl) (fun p e s m below meth c ls A F hi hO hA h2 hl => ?_)
  have hx := F.1.1
  have hb := F.1.2.1
  have hl : lv_has ls 2 [(0, .ref a)] := hl
  have hS : va_S A s.heap s.heap [] := va_S.rf
  have u_X0 : ∀ w ∈ u_ws RX0 TX0 3, w ∈ wsX4_init := by decide +kernel
  have u_X1 : ∀ w ∈ u_ws RX1 TX1 3, w ∈ wsX4_init := by decide +kernel
  have u_X2 : ∀ w ∈ u_ws RX2 TX2 3, w ∈ wsX4_init := by decide +kernel
  have u_X3 : ∀ w ∈ u_ws RX3 TX3 4, w ∈ wsX4_init := by decide +kernel
  have u_X4 : ∀ w ∈ u_ws RX4 TX4 9, w ∈ wsX4_init := by decide +kernel
  refine lv_aload_n hx hb dX4_init_0 rfl (lv_at hl 0 rfl) ?_
  refine ss_oi F (by decide +kernel) (by decide +kernel) (by decide +kernel) hl.1 (Nat.le_of_ble_eq_true rfl) (Nat.le_of_ble_eq_true rfl) dX4_init_1 ?_
  refine lv_aload_n hx hb dX4_init_4 rfl (lv_at hl 0 rfl) ?_
  refine ss_newO F hA h2 hS (C := RX0) (T := TX0) (N := 3) (ci := 0) u_X0 tyX0 tyX0_ok (by decide +kernel) (by decide +kernel) (by decide +kernel) rfl [.int 0, .int 0, .int 0] (fun j hj => by rcases (show j = 0 ∨ j = 1 ∨ j = 2 by omega) with rfl | rfl | rfl <;> rfl) (Nat.le_of_ble_eq_true rfl) (Nat.le_of_ble_eq_true rfl) dX4_init_5 (fun fr H h2 hS => ?_)
  have h2 : ss_P2 D A ([(a, .inr (4, [.null, .null, .null, .null, .null, .null, .null, .int 0, .int 0])), (fr, .inr (0, [.int 0, .int 0, .int 0]))] ++ []) H := h2.perm (List.Perm.swap _ _ _)
  refine lv_dup hx hb dX4_init_8 rfl ?_
  refine ss_kN (E := ss_E0 D (ss_tys cI cZ cS)) (w0 := [(a, .inr (4, [.null, .null, .null, .null, .null, .null, .null, .int 0, .int 0])), (fr, .inr (0, [.int 0, .int 0, .int 0]))]) (ss_rIN (As := []) (rest := [.ref fr, .ref a]) F (nX0_init l D cI cZ cS fr a _ H.size) gX4_init_X0_init_n9 rfl ⟨rfl, rfl⟩ ⟨rfl, dvX0_init⟩ (host := RX4) (by decide +kernel) ⟨by decide +kernel, by decide +kernel⟩ ⟨Nat.le_of_ble_eq_true rfl, Nat.le_of_ble_eq_true rfl⟩ (ss_preNS F hO h2) rfl hl.1 rfl (Nat.le_of_ble_eq_true rfl) dX4_init_9 ⟨Nat.le_of_ble_eq_true rfl, Nat.le_of_ble_eq_true rfl⟩) h2 hS hA (fun u H locs _ h2 hS => ?_)
  refine ss_putC (ty := .object "SmallSpaces$Frame") F hi h2 hS tyX4 tyX4_ok nmX4 u_X4 0 rfl rfl 0 (by decide) rfl (by decide +kernel) rfl (by decide +kernel) rfl rfl (Nat.le_of_ble_eq_true rfl) dX4_init_12 (fun H locs h2 hS => ?_)
  have h2 : ss_P2 D A [(a, .inr (4, [.ref fr, .null, .null, .null, .null, .null, .null, .int 0, .int 0])), (fr, .inr (0, [.int 2, .int 1, .int 2]))] H := h2
  refine lv_aload_n hx hb dX4_init_15 rfl (lv_at hl 0 rfl) ?_
  refine lv_bipush (v := 12) hx hb dX4_init_16 (by decide) ?_
  refine ss_newQ F hO hA h2 hS (by decide +kernel) 2 rfl 12 (by decide) (by decide) (Nat.le_of_ble_eq_true rfl) (Nat.le_of_ble_eq_true rfl) (Nat.le_of_ble_eq_true rfl) dX4_init_18 (fun q2 H h2 hS => ?_)
  refine ss_putC (ty := .array (.object "SmallSpaces$Space")) F hi h2 hS tyX4 tyX4_ok nmX4 u_X4 1 rfl rfl 1 (by decide) rfl (by decide +kernel) rfl (by decide +kernel) rfl rfl (Nat.le_of_ble_eq_true rfl) dX4_init_21 (fun H locs h2 hS => ?_)
  have h2 : ss_P2 D A ([(q2, .inl (cS, 12, .inr (.inr (.inr (.inr (fun _ => none))))))] ++ [(a, .inr (4, [.ref fr, .ref q2, .null, .null, .null, .null, .null, .int 0, .int 0])), (fr, .inr (0, [.int 2, .int 1, .int 2]))]) H := h2
  have h2 := h2.perm List.perm_append_comm
  refine lv_iconst (v := 0) hx hb dX4_init_24 (by decide) ?_
  refine lv_istore_n (lv' := [(1, .int (nI 0)), (0, .ref a)]) hx hb dX4_init_25 rfl hl (by decide) rfl (fun ls hl => ?_)
  refine tX4_init_26 (q2 := q2) (a := a) (fr := fr) F hO hA (fun L H locs ls h2 hS hl => ?_) 12 0 (by omega) (fun _ => 0) H locs ls (by rw [← rf_to_0]; exact h2) hS (lv_sub hl [1, 0] rfl)
  generalize hss : (sl_ids 12).map (sp_ent fr cI L) = ss at h2
  refine lv_aload_n hx hb dX4_init_55 rfl (lv_at hl 0 rfl) ?_
  refine ss_newO F hA h2 hS (C := RX1) (T := TX1) (N := 3) (ci := 1) u_X1 tyX1 tyX1_ok (by decide +kernel) (by decide +kernel) (by decide +kernel) rfl [.null, .null, .int 0] (fun j hj => by rcases (show j = 0 ∨ j = 1 ∨ j = 2 by omega) with rfl | rfl | rfl <;> rfl) (Nat.le_of_ble_eq_true rfl) (Nat.le_of_ble_eq_true rfl) dX4_init_56 (fun q3 H h2 hS => ?_)
  refine lv_dup hx hb dX4_init_59 rfl ?_
  refine lv_aload_n hx hb dX4_init_60 rfl (lv_at hl 0 rfl) ?_
  refine ss_getC (v := .ref fr) (T := TX4) (N := 9) (ci := 4) F h2 u_X4 1 rfl rfl 0 (by decide) (by decide +kernel) rfl dX4_init_61 ?_
  refine ss_kN (E := ss_E0 D (ss_tys cI cZ cS)) (w0 := [(q3, .inr (1, [.null, .null, .int 0]))]) (ss_rIN (As := [.ref fr]) (rest := [.ref q3, .ref a]) F (nX1_init l D cI cZ cS q3 fr H.size) gX4_init_X1_init_n27 rfl ⟨rfl, rfl⟩ ⟨rfl, dvX1_init⟩ (host := RX4) (by decide +kernel) ⟨by decide +kernel, by decide +kernel⟩ ⟨Nat.le_of_ble_eq_true rfl, Nat.le_of_ble_eq_true rfl⟩ (ss_preNS F hO h2) rfl hl.1 rfl (Nat.le_of_ble_eq_true rfl) dX4_init_64 ⟨Nat.le_of_ble_eq_true rfl, Nat.le_of_ble_eq_true rfl⟩) h2 hS hA (fun u H locs _ h2 hS => ?_)
  obtain ⟨q4, L'⟩ := u
  generalize hhs : (hp_ids 40).map (sp_ent fr cI L') = hs at h2
  have h2 := h2.perm (pm_4 (α := Nat × va_E) [(q3, .inr (1, [.ref q4, .ref (L' 165), .int 0])), (q4, .inl (cS, 40, .inr (.inr (.inr (.inr (rf_to 40 45 L'))))))] hs [(a, .inr (4, [.ref fr, .ref q2, .null, .null, .null, .null, .null, .int 0, .int 0])), (fr, .inr (0, [.int 2, .int 1, .int 2])), (q2, .inl (cS, 12, .inr (.inr (.inr (.inr (rf_to 12 9 L))))))] ss)
  refine ss_putC (ty := .object "SmallSpaces$Heap") F hi h2 hS tyX4 tyX4_ok nmX4 u_X4 0 rfl rfl 2 (by decide) rfl (by decide +kernel) rfl (by decide +kernel) rfl rfl (Nat.le_of_ble_eq_true rfl) dX4_init_67 (fun H locs h2 hS => ?_)
  obtain ⟨a6, e6, r, hr⟩ : ∃ (a6 : Nat) (e6 : va_E) (r : va_W), hs ++ ss = (a6, e6) :: r := ⟨_, _, _, by rw [← hhs]; rfl⟩
  rw [hr] at h2
  have h2 : ss_P2 D A ([(a, .inr (4, [.ref fr, .ref q2, .ref q3, .null, .null, .null, .null, .int 0, .int 0])), (fr, .inr (0, [.int 2, .int 1, .int 2])), (q2, .inl (cS, 12, .inr (.inr (.inr (.inr (rf_to 12 9 L)))))), (q3, .inr (1, [.ref q4, .ref (L' 165), .int 0])), (q4, .inl (cS, 40, .inr (.inr (.inr (.inr (rf_to 40 45 L'))))))] ++ (a6, e6) :: r) H := h2
  refine lv_aload_n hx hb dX4_init_70 rfl (lv_at hl 0 rfl) ?_
  refine ss_newO F hA h2 hS (C := RX2) (T := TX2) (N := 3) (ci := 2) u_X2 tyX2 tyX2_ok (by decide +kernel) (by decide +kernel) (by decide +kernel) rfl [.null, .null, .null] (fun j hj => by rcases (show j = 0 ∨ j = 1 ∨ j = 2 by omega) with rfl | rfl | rfl <;> rfl) (Nat.le_of_ble_eq_true rfl) (Nat.le_of_ble_eq_true rfl) dX4_init_71 (fun q5 H h2 hS => ?_)
  refine lv_dup hx hb dX4_init_74 rfl ?_
  refine lv_aload_n hx hb dX4_init_75 rfl (lv_at hl 0 rfl) ?_
  refine ss_getC (v := .ref fr) (T := TX4) (N := 9) (ci := 4) F h2 u_X4 1 rfl rfl 0 (by decide) (by decide +kernel) rfl dX4_init_76 ?_
  have h2 := h2.perm (pm_x (α := Nat × va_E) [(q5, .inr (2, [.null, .null, .null]))] [(a, .inr (4, [.ref fr, .ref q2, .ref q3, .null, .null, .null, .null, .int 0, .int 0])), (fr, .inr (0, [.int 2, .int 1, .int 2])), (q2, .inl (cS, 12, .inr (.inr (.inr (.inr (rf_to 12 9 L)))))), (q3, .inr (1, [.ref q4, .ref (L' 165), .int 0])), (q4, .inl (cS, 40, .inr (.inr (.inr (.inr (rf_to 40 45 L'))))))] ((a6, e6) :: r))
  have h2 : ss_P2 D A ([(a, .inr (4, [.ref fr, .ref q2, .ref q3, .null, .null, .null, .null, .int 0, .int 0])), (fr, .inr (0, [.int 2, .int 1, .int 2])), (q2, .inl (cS, 12, .inr (.inr (.inr (.inr (rf_to 12 9 L)))))), (q3, .inr (1, [.ref q4, .ref (L' 165), .int 0])), (q4, .inl (cS, 40, .inr (.inr (.inr (.inr (rf_to 40 45 L')))))), (q5, .inr (2, [.null, .null, .null])), (a6, e6)] ++ r) H := h2
  refine ss_kN (E := ss_E0 D (ss_tys cI cZ cS)) (w0 := [(a, .inr (4, [.ref fr, .ref q2, .ref q3, .null, .null, .null, .null, .int 0, .int 0])), (fr, .inr (0, [.int 2, .int 1, .int 2])), (q2, .inl (cS, 12, .inr (.inr (.inr (.inr (rf_to 12 9 L)))))), (q3, .inr (1, [.ref q4, .ref (L' 165), .int 0])), (q4, .inl (cS, 40, .inr (.inr (.inr (.inr (rf_to 40 45 L')))))), (q5, .inr (2, [.null, .null, .null])), (a6, e6)]) (ss_rIN (As := [.ref fr]) (rest := [.ref q5, .ref a]) F (nX2_init l D cI cZ cS a fr q2 q3 q4 q5 a6 _ _ _ _ e6 H.size) gX4_init_X2_init_n34 rfl ⟨rfl, rfl⟩ ⟨rfl, dvX2_init⟩ (host := RX4) (by decide +kernel) ⟨by decide +kernel, by decide +kernel⟩ ⟨Nat.le_of_ble_eq_true rfl, Nat.le_of_ble_eq_true rfl⟩ (ss_preNS F hO h2) rfl hl.1 rfl (Nat.le_of_ble_eq_true rfl) dX4_init_79 ⟨Nat.le_of_ble_eq_true rfl, Nat.le_of_ble_eq_true rfl⟩) h2 hS hA (fun u H locs hLn h2 hS => ?_)
  obtain ⟨⟨q7, q8⟩, h⟩ := u
  refine ss_putC (ty := .object "SmallSpaces$Linear") F hi h2 hS tyX4 tyX4_ok nmX4 u_X4 0 rfl rfl 3 (by decide) rfl (by decide +kernel) rfl (by decide +kernel) rfl rfl (Nat.le_of_ble_eq_true rfl) dX4_init_82 (fun H locs h2 hS => ?_)
  have h2 : ss_P2 D A ([(a, .inr (4, [.ref fr, .ref q2, .ref q3, .ref q5, .null, .null, .null, .int 0, .int 0])), (fr, .inr (0, [.int 2, .int 1, .int 2])), (q2, .inl (cS, 12, .inr (.inr (.inr (.inr (rf_to 12 9 L)))))), (q3, .inr (1, [.ref q4, .ref (L' 165), .int 0])), (q4, .inl (cS, 40, .inr (.inr (.inr (.inr (rf_to 40 45 L')))))), (q5, .inr (2, [.ref fr, .ref q7, .ref q8]))] ++ ([(a6, e6)] ++ ([(q7, .inl (cI, 36, .inl h)), (q8, .inl (cI, 6, .inl fun _ => 0))] ++ r))) H := h2
  have h2 := h2.perm (List.Perm.append_left _ (pm_x _ _ _))
  have h2 : ss_P2 D A ([(a, .inr (4, [.ref fr, .ref q2, .ref q3, .ref q5, .null, .null, .null, .int 0, .int 0])), (fr, .inr (0, [.int 2, .int 1, .int 2])), (q2, .inl (cS, 12, .inr (.inr (.inr (.inr (rf_to 12 9 L)))))), (q3, .inr (1, [.ref q4, .ref (L' 165), .int 0])), (q4, .inl (cS, 40, .inr (.inr (.inr (.inr (rf_to 40 45 L')))))), (q5, .inr (2, [.ref fr, .ref q7, .ref q8])), (q7, .inl (cI, 36, .inl h)), (q8, .inl (cI, 6, .inl fun _ => 0))] ++ (hs ++ ss)) H := by rw [hr]; exact h2
  refine lv_aload_n hx hb dX4_init_85 rfl (lv_at hl 0 rfl) ?_
  refine ss_newO F hA h2 hS (C := RX3) (T := TX3) (N := 4) (ci := 3) u_X3 tyX3 tyX3_ok (by decide +kernel) (by decide +kernel) (by decide +kernel) rfl [.null, .null, .null, .int 0] (fun j hj => by rcases (show j = 0 ∨ j = 1 ∨ j = 2 ∨ j = 3 by omega) with rfl | rfl | rfl | rfl <;> rfl) (Nat.le_of_ble_eq_true rfl) (Nat.le_of_ble_eq_true rfl) dX4_init_86 (fun qm H h2 hS => ?_)
  refine lv_dup hx hb dX4_init_89 rfl ?_
  refine lv_aload_n hx hb dX4_init_90 rfl (lv_at hl 0 rfl) ?_
  refine ss_getC (v := .ref fr) (T := TX4) (N := 9) (ci := 4) F h2 u_X4 1 rfl rfl 0 (by decide) (by decide +kernel) rfl dX4_init_91 ?_
  refine ss_kN (E := ss_E0 D (ss_tys cI cZ cS)) (w0 := [(qm, .inr (3, [.null, .null, .null, .int 0]))]) (ss_rIN (As := [.ref fr]) (rest := [.ref qm, .ref a]) F (nX3_init l D cI cZ cS qm fr H.size) gX4_init_X3_init_n22 rfl ⟨rfl, rfl⟩ ⟨rfl, dvX3_init⟩ (host := RX4) (by decide +kernel) ⟨by decide +kernel, by decide +kernel⟩ ⟨Nat.le_of_ble_eq_true rfl, Nat.le_of_ble_eq_true rfl⟩ (ss_preNS F hO h2) rfl hl.1 rfl (Nat.le_of_ble_eq_true rfl) dX4_init_94 ⟨Nat.le_of_ble_eq_true rfl, Nat.le_of_ble_eq_true rfl⟩) h2 hS hA (fun u H locs _ h2 hS => ?_)
  obtain ⟨qm1, qm2⟩ := u
  have h2 := h2.perm (pm_x (α := Nat × va_E) [(qm, .inr (3, [.ref fr, .ref qm1, .ref qm2, .int 0])), (qm1, .inl (cI, 36, .inl fun _ => 0)), (qm2, .inl (cI, 6, .inl fun _ => 0))] [(a, .inr (4, [.ref fr, .ref q2, .ref q3, .ref q5, .null, .null, .null, .int 0, .int 0])), (fr, .inr (0, [.int 2, .int 1, .int 2])), (q2, .inl (cS, 12, .inr (.inr (.inr (.inr (rf_to 12 9 L)))))), (q3, .inr (1, [.ref q4, .ref (L' 165), .int 0])), (q4, .inl (cS, 40, .inr (.inr (.inr (.inr (rf_to 40 45 L')))))), (q5, .inr (2, [.ref fr, .ref q7, .ref q8])), (q7, .inl (cI, 36, .inl h)), (q8, .inl (cI, 6, .inl fun _ => 0))] (hs ++ ss))
  refine ss_putC (ty := .object "SmallSpaces$Space") F hi h2 hS tyX4 tyX4_ok nmX4 u_X4 0 rfl rfl 4 (by decide) rfl (by decide +kernel) rfl (by decide +kernel) rfl rfl (Nat.le_of_ble_eq_true rfl) dX4_init_97 (fun H locs h2 hS => ?_)
  have h2 : ss_P2 D A ([(a, .inr (4, [.ref fr, .ref q2, .ref q3, .ref q5, .ref qm, .null, .null, .int 0, .int 0])), (fr, .inr (0, [.int 2, .int 1, .int 2])), (q2, .inl (cS, 12, .inr (.inr (.inr (.inr (rf_to 12 9 L)))))), (q3, .inr (1, [.ref q4, .ref (L' 165), .int 0])), (q4, .inl (cS, 40, .inr (.inr (.inr (.inr (rf_to 40 45 L')))))), (q5, .inr (2, [.ref fr, .ref q7, .ref q8])), (q7, .inl (cI, 36, .inl h)), (q8, .inl (cI, 6, .inl fun _ => 0))] ++ ([(qm, .inr (3, [.ref fr, .ref qm1, .ref qm2, .int 0])), (qm1, .inl (cI, 36, .inl fun _ => 0)), (qm2, .inl (cI, 6, .inl fun _ => 0))] ++ (hs ++ ss))) H := h2
  refine lv_aload_n hx hb dX4_init_100 rfl (lv_at hl 0 rfl) ?_
  refine ss_newO F hA h2 hS (C := RX3) (T := TX3) (N := 4) (ci := 3) u_X3 tyX3 tyX3_ok (by decide +kernel) (by decide +kernel) (by decide +kernel) rfl [.null, .null, .null, .int 0] (fun j hj => by rcases (show j = 0 ∨ j = 1 ∨ j = 2 ∨ j = 3 by omega) with rfl | rfl | rfl | rfl <;> rfl) (Nat.le_of_ble_eq_true rfl) (Nat.le_of_ble_eq_true rfl) dX4_init_101 (fun qo H h2 hS => ?_)
  refine lv_dup hx hb dX4_init_104 rfl ?_
  refine lv_aload_n hx hb dX4_init_105 rfl (lv_at hl 0 rfl) ?_
  refine ss_getC (v := .ref fr) (T := TX4) (N := 9) (ci := 4) F h2 u_X4 1 rfl rfl 0 (by decide) (by decide +kernel) rfl dX4_init_106 ?_
  refine ss_kN (E := ss_E0 D (ss_tys cI cZ cS)) (w0 := [(qo, .inr (3, [.null, .null, .null, .int 0]))]) (ss_rIN (As := [.ref fr]) (rest := [.ref qo, .ref a]) F (nX3_init l D cI cZ cS qo fr H.size) gX4_init_X3_init_n22 rfl ⟨rfl, rfl⟩ ⟨rfl, dvX3_init⟩ (host := RX4) (by decide +kernel) ⟨by decide +kernel, by decide +kernel⟩ ⟨Nat.le_of_ble_eq_true rfl, Nat.le_of_ble_eq_true rfl⟩ (ss_preNS F hO h2) rfl hl.1 rfl (Nat.le_of_ble_eq_true rfl) dX4_init_109 ⟨Nat.le_of_ble_eq_true rfl, Nat.le_of_ble_eq_true rfl⟩) h2 hS hA (fun u H locs _ h2 hS => ?_)
  obtain ⟨qo1, qo2⟩ := u
  have h2 := h2.perm (pm_x (α := Nat × va_E) [(qo, .inr (3, [.ref fr, .ref qo1, .ref qo2, .int 0])), (qo1, .inl (cI, 36, .inl fun _ => 0)), (qo2, .inl (cI, 6, .inl fun _ => 0))] [(a, .inr (4, [.ref fr, .ref q2, .ref q3, .ref q5, .ref qm, .null, .null, .int 0, .int 0])), (fr, .inr (0, [.int 2, .int 1, .int 2])), (q2, .inl (cS, 12, .inr (.inr (.inr (.inr (rf_to 12 9 L)))))), (q3, .inr (1, [.ref q4, .ref (L' 165), .int 0])), (q4, .inl (cS, 40, .inr (.inr (.inr (.inr (rf_to 40 45 L')))))), (q5, .inr (2, [.ref fr, .ref q7, .ref q8])), (q7, .inl (cI, 36, .inl h)), (q8, .inl (cI, 6, .inl fun _ => 0))] ([(qm, .inr (3, [.ref fr, .ref qm1, .ref qm2, .int 0])), (qm1, .inl (cI, 36, .inl fun _ => 0)), (qm2, .inl (cI, 6, .inl fun _ => 0))] ++ (hs ++ ss)))
  refine ss_putC (ty := .object "SmallSpaces$Space") F hi h2 hS tyX4 tyX4_ok nmX4 u_X4 0 rfl rfl 5 (by decide) rfl (by decide +kernel) rfl (by decide +kernel) rfl rfl (Nat.le_of_ble_eq_true rfl) dX4_init_112 (fun H locs h2 hS => ?_)
  refine lv_aload_n hx hb dX4_init_115 rfl (lv_at hl 0 rfl) ?_
  refine lv_bipush (v := 6) hx hb dX4_init_116 (by decide) ?_
  refine ss_newA F hA h2 hS (ty := .int) rfl (by decide +kernel) 0 rfl (fun _ h => h) 6 (6, .inl fun _ => 0) (fun _ => rfl) (by decide) (by decide) (Nat.le_of_ble_eq_true rfl) (Nat.le_of_ble_eq_true rfl) (Nat.le_of_ble_eq_true rfl) dX4_init_118 (fun q6 H h2 hS => ?_)
  refine ss_putC (ty := .array .int) F hi h2 hS tyX4 tyX4_ok nmX4 u_X4 1 rfl rfl 6 (by decide) rfl (by decide +kernel) rfl (by decide +kernel) rfl rfl (Nat.le_of_ble_eq_true rfl) dX4_init_120 (fun H locs h2 hS => ?_)
  have h2 : ss_P2 D A ([(q6, .inl (cI, 6, .inl fun _ => 0)), (a, .inr (4, [.ref fr, .ref q2, .ref q3, .ref q5, .ref qm, .ref qo, .ref q6, .int 0, .int 0])), (fr, .inr (0, [.int 2, .int 1, .int 2]))] ++ (q2, .inl (cS, 12, .inr (.inr (.inr (.inr (rf_to 12 9 L)))))) :: ((q3, .inr (1, [.ref q4, .ref (L' 165), .int 0])) :: (q4, .inl (cS, 40, .inr (.inr (.inr (.inr (rf_to 40 45 L')))))) :: (q5, .inr (2, [.ref fr, .ref q7, .ref q8])) :: (q7, .inl (cI, 36, .inl h)) :: (q8, .inl (cI, 6, .inl fun _ => 0)) :: (qo, .inr (3, [.ref fr, .ref qo1, .ref qo2, .int 0])) :: (qo1, .inl (cI, 36, .inl fun _ => 0)) :: (qo2, .inl (cI, 6, .inl fun _ => 0)) :: (qm, .inr (3, [.ref fr, .ref qm1, .ref qm2, .int 0])) :: (qm1, .inl (cI, 36, .inl fun _ => 0)) :: (qm2, .inl (cI, 6, .inl fun _ => 0)) :: (hs ++ ss))) H := h2
  obtain ⟨L0, hL0⟩ : ∃ L0 : Nat → Nat, L0 = fun j => if j < 45 then L j else L' j := ⟨_, rfl⟩
  obtain ⟨Ls, hLs⟩ : ∃ Ls : Nat → Nat, Ls = up3 (up3 L0 168 qm qm1 qm2) 171 qo qo1 qo2 := ⟨_, rfl⟩
  have e1 : hs ++ ss = (hp_ids 40 ++ sl_ids 12).map (sp_ent fr cI L0) := by
    rw [List.map_append, ← hhs, ← hss]
    congr 1
    · apply List.map_congr_left
      intro j hj
      have := hp_ids_b 40 j hj
      rw [hL0]
      refine (sp_ent_cg ?_ (fun _ => ⟨?_, ?_⟩)).symm <;> exact if_neg (by omega)
    · apply List.map_congr_left
      intro j hj
      have := sl_ids_b 12 j hj
      rw [hL0]
      refine (sp_ent_cg ?_ (fun _ => ⟨?_, ?_⟩)).symm <;> exact if_pos (by omega)
  have hb1 : ∀ j ∈ hp_ids 40 ++ sl_ids 12, j < 168 ∧ 9 ≤ j := by
    intro j hj
    rcases List.mem_append.mp hj with hj | hj
    · have := hp_ids_b 40 j hj; omega
    · have := sl_ids_b 12 j hj; omega
  have e2 := sp_cons3 (fr := fr) (cI := cI) (L := L0) (b := 168) (q := qm) (q1 := qm1) (q2 := qm2) rfl (ids := hp_ids 40 ++ sl_ids 12) (fun j hj => by have := hb1 j hj; omega)
  have e3 := sp_cons3 (fr := fr) (cI := cI) (L := up3 L0 168 qm qm1 qm2) (b := 171) (q := qo) (q1 := qo1) (q2 := qo2) rfl (ids := 168 :: (168 + 1) :: (168 + 2) :: (hp_ids 40 ++ sl_ids 12)) (fun j hj => by
    rcases List.mem_cons.mp hj with e | hj
    · omega
    · rcases List.mem_cons.mp hj with e | hj
      · omega
      · rcases List.mem_cons.mp hj with e | hj
        · omega
        · have := hb1 j hj; omega)
  rw [e2, ← e1, ← hLs] at e3
  obtain ⟨Lf, hLf⟩ : ∃ Lf : Nat → Nat, Lf = LfX a fr q2 q3 q4 q5 q6 q7 q8 Ls := ⟨_, rfl⟩
  have hLs9 : ∀ j, 9 ≤ j → Lf j = Ls j := fun j hj => by rw [hLf]; exact LfX_s hj
  have hl1 : ∀ j, 9 ≤ j → j < 45 → Lf j = L j := fun j h1 h2 => by rw [hLs9 j h1, hLs, up3_ne _ (by omega), up3_ne _ (by omega), hL0]; exact if_pos h2
  have hl2 : ∀ j, 45 ≤ j → j < 168 → Lf j = L' j := fun j h1 h2 => by rw [hLs9 j (by omega), hLs, up3_ne _ (by omega), up3_ne _ (by omega), hL0]; exact if_neg (by omega)
  have h2 := h2.cellAt (y := (12, .inr (.inr (.inr (.inr (fun k => some (Lf (9 + 3 * k)))))))) (refs_cg (fun k hk => by unfold rf_to; rw [if_pos hk, hl1 _ (by omega) (by omega)]))
  have h2 : ss_P2 D A ([(q6, .inl (cI, 6, .inl fun _ => 0)), (a, .inr (4, [.ref fr, .ref q2, .ref q3, .ref q5, .ref qm, .ref qo, .ref q6, .int 0, .int 0])), (fr, .inr (0, [.int 2, .int 1, .int 2])), (q2, .inl (cS, 12, .inr (.inr (.inr (.inr (fun k => some (Lf (9 + 3 * k)))))))), (q3, .inr (1, [.ref q4, .ref (L' 165), .int 0]))] ++ (q4, .inl (cS, 40, .inr (.inr (.inr (.inr (rf_to 40 45 L')))))) :: ((q5, .inr (2, [.ref fr, .ref q7, .ref q8])) :: (q7, .inl (cI, 36, .inl h)) :: (q8, .inl (cI, 6, .inl fun _ => 0)) :: (qo, .inr (3, [.ref fr, .ref qo1, .ref qo2, .int 0])) :: (qo1, .inl (cI, 36, .inl fun _ => 0)) :: (qo2, .inl (cI, 6, .inl fun _ => 0)) :: (qm, .inr (3, [.ref fr, .ref qm1, .ref qm2, .int 0])) :: (qm1, .inl (cI, 36, .inl fun _ => 0)) :: (qm2, .inl (cI, 6, .inl fun _ => 0)) :: (hs ++ ss))) H := h2
  have h2 := h2.cellAt (y := (40, .inr (.inr (.inr (.inr (fun k => some (Lf (45 + 3 * k)))))))) (refs_cg (fun k hk => by unfold rf_to; rw [if_pos hk, hl2 _ (by omega) (by omega)]))
  rw [← e3] at h2
  have e4 : (171 :: (171 + 1) :: (171 + 2) :: 168 :: (168 + 1) :: (168 + 2) :: (hp_ids 40 ++ sl_ids 12)).map (sp_ent fr cI Ls) = (171 :: (171 + 1) :: (171 + 2) :: 168 :: (168 + 1) :: (168 + 2) :: (hp_ids 40 ++ sl_ids 12)).map (fun i => (Lf i, ss_ceC Lf cI cS i (sX h i))) := by
    apply List.map_congr_left
    intro j hj
    rw [hLf]
    refine sp_ent_ce ?_
    rcases List.mem_cons.mp hj with e | hj
    · omega
    · rcases List.mem_cons.mp hj with e | hj
      · omega
      · rcases List.mem_cons.mp hj with e | hj
        · omega
        · rcases List.mem_cons.mp hj with e | hj
          · omega
          · rcases List.mem_cons.mp hj with e | hj
            · omega
            · rcases List.mem_cons.mp hj with e | hj
              · omega
              · have := hb1 j hj; omega
  rw [e4] at h2
  have hqm : Lf 168 = qm := by rw [hLs9 168 (by omega), hLs, up3_ne _ (by omega), up3_0]
  have hqo : Lf 171 = qo := by rw [hLs9 171 (by omega), hLs, up3_0]
  have h165 : Lf 165 = L' 165 := hl2 165 (by omega) (by omega)
  rw [← hqm, ← hqo, ← h165] at h2
  have h3 : ss_P2 D A (all_ids.map (fun i => (Lf i, ss_ceC Lf cI cS i (sX h i)))) H := by
    have z : Lf 0 = a ∧ Lf 1 = fr ∧ Lf 2 = q2 ∧ Lf 3 = q3 ∧ Lf 4 = q4 ∧ Lf 5 = q5 ∧ Lf 6 = q6 ∧ Lf 7 = q7 ∧ Lf 8 = q8 := by rw [hLf]; exact ⟨rfl, rfl, rfl, rfl, rfl, rfl, rfl, rfl, rfl⟩
    obtain ⟨z0, z1, z2, z3, z4, z5, z6, z7, z8⟩ := z
    clear hLf hLs9 hl1 hl2 hqm hqo h165 e4
    subst z0 z1 z2 z3 z4 z5 z6 z7 z8
    exact h2
  exact ss_retN (S := (Nat → Nat) × (Nat → Int32)) (Lf, h) F (h3.perm (all_ids_p.map _)) hS ⟨by rw [hLf]; rfl, hLn⟩ (Nat.le_of_ble_eq_true rfl) (Nat.le_of_ble_eq_true rfl) dX4_init_123
