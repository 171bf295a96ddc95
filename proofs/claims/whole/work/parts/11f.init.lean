set_option maxHeartbeats 4000000 in
set_option maxRecDepth 100000 in
theorem tX4_init_26 {p : Program} {l : Launch} {e : Env} {s : State} {m : MethodId} {args : Array Value} {below : List Frame} {meth : Method} {c : Code} {D : va_G} {cI cZ cS : ClassId} {a fr q2 : Nat} {A : Nat → Prop} {Q : State → Prop} (F : ss_F p rmX4_init s m args meth c (ss_E0 D (ss_tys cI cZ cS)) cX4_init 2 wsX4_init RX4 none rmX4_init) (hO : va_AO RX3 s) (hA : ∀ q, s.heap.size ≤ q → A q)
    (hend : ∀ (L : Nat → Nat) (H : Heap) (locs : List Loc) (ls : Array Slot), ss_P2 D A ((a, .inr (4, [.ref fr, .ref q2, .null, .null, .null, .null, .null, .int 0, .int 0])) :: (fr, .inr (0, [.int 2, .int 1, .int 2])) :: (q2, .inl (cS, 12, .inr (.inr (.inr (.inr (rf_to 12 9 L)))))) :: (sl_ids 12).map (sp_ent fr cI L)) H → va_S A s.heap H locs → lv_has ls 2 [(0, .ref a)] → W p l e rmX4_init s m args below meth c H locs 38 567 Q (F0 m 55 ls [])) :
    ∀ (d i : Nat), i + d = 12 → ∀ (L : Nat → Nat) (H : Heap) (locs : List Loc) (ls : Array Slot), ss_P2 D A ((a, .inr (4, [.ref fr, .ref q2, .null, .null, .null, .null, .null, .int 0, .int 0])) :: (fr, .inr (0, [.int 2, .int 1, .int 2])) :: (q2, .inl (cS, 12, .inr (.inr (.inr (.inr (rf_to i 9 L)))))) :: (sl_ids i).map (sp_ent fr cI L)) H → va_S A s.heap H locs → lv_has ls 2 [(0, .ref a), (1, .int (nI i))] → W p l e rmX4_init s m args below meth c H locs (2 + 3 * i) (15 + 46 * i) Q (F0 m 26 ls []) := by
  have hx := F.1.1
  have hb := F.1.2.1
  have u_X4 : ∀ w ∈ u_ws RX4 TX4 9, w ∈ wsX4_init := by decide +kernel
  have u_X3 : ∀ w ∈ u_ws RX3 TX3 4, w ∈ wsX4_init := by decide +kernel
  intro d
  induction d with
  | zero =>
    intro i hi L H locs ls h2 hS hl
    have ei : i = 12 := by omega
    subst ei
    refine lv_iload_n hx hb dX4_init_26 rfl (lv_at hl 1 rfl) ?_
    refine lv_bipush (v := 12) hx hb dX4_init_27 (by decide) ?_
    refine lv_icmp_ge (tgt := 55) hx hb dX4_init_29 (by decide) (fun hc => hend L H locs ls h2 hS (lv_sub hl [0] rfl)) (fun hc => absurd (nI_le (a := 12) (b := 12) (Nat.le_refl _) (by omega)) hc)
  | succ d ih =>
    intro i hi L H locs ls h2 hS hl
    refine lv_iload_n hx hb dX4_init_26 rfl (lv_at hl 1 rfl) ?_
    refine lv_bipush (v := 12) hx hb dX4_init_27 (by decide) ?_
    refine lv_icmp_ge (tgt := 55) hx hb dX4_init_29 (by decide) (fun hc => absurd hc (nI_ge (b := 12) (by omega) (by omega))) (fun hc => ?_)
    refine lv_aload_n hx hb dX4_init_32 rfl (lv_at hl 0 rfl) ?_
    refine ss_getC (v := .ref q2) (T := TX4) (N := 9) (ci := 4) F h2 u_X4 0 rfl rfl 1 (by decide) (by decide +kernel) rfl dX4_init_33 ?_
    refine lv_iload_n hx hb dX4_init_36 rfl (lv_at hl 1 rfl) ?_
    refine ss_newO F hA h2 hS (C := RX3) (T := TX3) (N := 4) (ci := 3) u_X3 tyX3 tyX3_ok (by decide +kernel) (by decide +kernel) (by decide +kernel) rfl [.null, .null, .null, .int 0] (fun j hj => by rcases (show j = 0 ∨ j = 1 ∨ j = 2 ∨ j = 3 by omega) with rfl | rfl | rfl | rfl <;> rfl) (by show 2 + 3 * i + 1 ≤ 173; omega) (by show 15 + 46 * i + 4 ≤ 2639; omega) dX4_init_37 (fun q H h2 hS => ?_)
    refine lv_dup hx hb dX4_init_40 rfl ?_
    refine lv_aload_n hx hb dX4_init_41 rfl (lv_at hl 0 rfl) ?_
    refine ss_getC (v := .ref fr) (T := TX4) (N := 9) (ci := 4) F h2 u_X4 1 rfl rfl 0 (by decide) (by decide +kernel) rfl dX4_init_42 ?_
    refine ss_kN (E := ss_E0 D (ss_tys cI cZ cS)) (w0 := [(q, .inr (3, [.null, .null, .null, .int 0]))]) (ss_rIN (As := [.ref fr]) (rest := [.ref q, .int (nI i), .ref q2]) F (nX3_init l D cI cZ cS q fr H.size) gX4_init_X3_init_n22 rfl ⟨rfl, rfl⟩ ⟨rfl, dvX3_init⟩ (host := RX4) (by decide +kernel) ⟨by decide +kernel, by decide +kernel⟩ ⟨Nat.le_of_ble_eq_true rfl, Nat.le_of_ble_eq_true rfl⟩ (ss_preNS F hO h2) rfl hl.1 rfl (Nat.le_of_ble_eq_true rfl) dX4_init_45 ⟨by show 2 + 3 * i + 1 + 2 ≤ 173; omega, by show 15 + 46 * i + 4 + 42 ≤ 2639; omega⟩) h2 hS hA (fun u H locs _ h2 hS => ?_)
    obtain ⟨q1, q3⟩ := u
    refine ss_astN F h2 hS 5 2 0 rfl rfl rfl (vin (by omega)) dX4_init_48 (fun H locs h2 hS => ?_)
    rw [ncl (by omega)] at h2
    have h2 : ss_P2 D A (([(q, .inr (3, [.ref fr, .ref q1, .ref q3, .int 0])), (q1, .inl (cI, 36, .inl (fun _ => 0))), (q3, .inl (cI, 6, .inl (fun _ => 0)))] ++ [(a, .inr (4, [.ref fr, .ref q2, .null, .null, .null, .null, .null, .int 0, .int 0])), (fr, .inr (0, [.int 2, .int 1, .int 2])), (q2, .inl (cS, 12, .inr (.inr (.inr (.inr (va_up (rf_to i 9 L) i (some q)))))))]) ++ (sl_ids i).map (sp_ent fr cI L)) H := h2
    have h2 := h2.perm (List.Perm.append_right _ List.perm_append_comm)
    rw [rf_to_up i 9 L q q1 q3] at h2
    refine lv_iinc (v := nI (i + 1)) (lv' := [(1, .int (nI (i + 1))), (0, .ref a)]) hx hb dX4_init_49 hl (k := 1) rfl (nI_1 i) (by decide) rfl (fun ls hl => ?_)
    refine lv_goto (tgt := 26) hx hb dX4_init_52 (by decide) ?_
    have hd := sl_ids_b i
    have e1 := sp_cons3 (fr := fr) (cI := cI) (L := L) (b := 9 + 3 * i) (q := q) (q1 := q1) (q2 := q3) (by omega) (ids := sl_ids i) (fun j hj => by have := hd j hj; omega)
    have := ih (i + 1) (by omega) (up3 L (9 + 3 * i) q q1 q3) H locs ls (by
      show ss_P2 D A (_ :: _ :: _ :: (((9 + 3 * i) :: (9 + 3 * i + 1) :: (9 + 3 * i + 2) :: sl_ids i).map (sp_ent fr cI (up3 L (9 + 3 * i) q q1 q3)))) H
      rw [e1]
      exact h2) hS (lv_sub hl [1, 0] rfl)
    rw [show 2 + 3 * (i + 1) = 2 + 3 * i + 1 + 2 by omega, show 15 + 46 * (i + 1) = 15 + 46 * i + 4 + 42 by omega] at this
    exact this
