theorem dvX0_init : ss_dV yX0_init 0 := by decide +kernel
theorem dvX1_init : ss_dV yX1_init 1 := by decide +kernel
theorem dvX2_init : ss_dV yX2_init 1 := by decide +kernel
theorem dvX3_init : ss_dV yX3_init 1 := by decide +kernel
theorem dvX4_init : ss_dV yX4_init 0 := by decide +kernel
theorem dvX5_init : ss_dV yX5_init 0 := by decide +kernel
def sp_ent (fr : Nat) (cI : ClassId) (L : Nat → Nat) (i : Nat) : Nat × va_E := (L i, if i % 3 = 0 then .inr (3, [.ref fr, .ref (L (i + 1)), .ref (L (i + 2)), .int 0]) else if i % 3 = 1 then .inl (cI, 36, .inl (fun _ => 0)) else .inl (cI, 6, .inl (fun _ => 0)))
def up3 (L : Nat → Nat) (b q q1 q2 : Nat) : Nat → Nat := fun j => if j = b then q else if j = b + 1 then q1 else if j = b + 2 then q2 else L j
theorem up3_0 (L : Nat → Nat) (b q q1 q2 : Nat) : up3 L b q q1 q2 b = q := by simp [up3]
theorem up3_1 (L : Nat → Nat) (b q q1 q2 : Nat) : up3 L b q q1 q2 (b + 1) = q1 := by simp [up3]
theorem up3_2 (L : Nat → Nat) (b q q1 q2 : Nat) : up3 L b q q1 q2 (b + 2) = q2 := by simp [up3]
theorem up3_ne (L : Nat → Nat) {b q q1 q2 j : Nat} (h : j < b ∨ b + 2 < j) : up3 L b q q1 q2 j = L j := by
  unfold up3
  rw [if_neg (by omega), if_neg (by omega), if_neg (by omega)]
theorem sp_ent_0 {fr : Nat} {cI : ClassId} {L : Nat → Nat} {i : Nat} (h : i % 3 = 0) : sp_ent fr cI L i = (L i, .inr (3, [.ref fr, .ref (L (i + 1)), .ref (L (i + 2)), .int 0])) := by simp [sp_ent, h]
theorem sp_ent_1 {fr : Nat} {cI : ClassId} {L : Nat → Nat} {i : Nat} (h : i % 3 = 1) : sp_ent fr cI L i = (L i, .inl (cI, 36, .inl (fun _ => 0))) := by simp [sp_ent, h]
theorem sp_ent_2 {fr : Nat} {cI : ClassId} {L : Nat → Nat} {i : Nat} (h : i % 3 = 2) : sp_ent fr cI L i = (L i, .inl (cI, 6, .inl (fun _ => 0))) := by simp [sp_ent, h]
theorem sp_ent_cg {fr : Nat} {cI : ClassId} {L L' : Nat → Nat} {i : Nat} (h0 : L' i = L i) (h : i % 3 = 0 → L' (i + 1) = L (i + 1) ∧ L' (i + 2) = L (i + 2)) : sp_ent fr cI L' i = sp_ent fr cI L i := by
  unfold sp_ent
  rw [h0]
  by_cases e : i % 3 = 0
  · rw [if_pos e, if_pos e, (h e).1, (h e).2]
  · rw [if_neg e, if_neg e]
theorem sp_map_up3 {fr : Nat} {cI : ClassId} {L : Nat → Nat} {b q q1 q2 : Nat} (hb : b % 3 = 0) {ids : List Nat} (h : ∀ j ∈ ids, j < b ∨ b + 2 < j) : ids.map (sp_ent fr cI (up3 L b q q1 q2)) = ids.map (sp_ent fr cI L) := by
  apply List.map_congr_left
  intro j hj
  have := h j hj
  refine sp_ent_cg (up3_ne L this) (fun e => ⟨up3_ne L ?_, up3_ne L ?_⟩) <;> omega
theorem sp_cons3 {fr : Nat} {cI : ClassId} {L : Nat → Nat} {b q q1 q2 : Nat} (hb : b % 3 = 0) {ids : List Nat} (h : ∀ j ∈ ids, j < b ∨ b + 2 < j) : (b :: (b + 1) :: (b + 2) :: ids).map (sp_ent fr cI (up3 L b q q1 q2)) = (q, .inr (3, [.ref fr, .ref q1, .ref q2, .int 0])) :: (q1, .inl (cI, 36, .inl (fun _ => 0))) :: (q2, .inl (cI, 6, .inl (fun _ => 0))) :: ids.map (sp_ent fr cI L) := by
  rw [List.map_cons, List.map_cons, List.map_cons, sp_map_up3 hb h, sp_ent_0 hb, sp_ent_1 (by omega), sp_ent_2 (by omega), up3_0, up3_1, up3_2]
def hp_ids : Nat → List Nat
  | 0 => [165, 166, 167]
  | i + 1 => (45 + 3 * i) :: (45 + 3 * i + 1) :: (45 + 3 * i + 2) :: hp_ids i
def sl_ids : Nat → List Nat
  | 0 => []
  | i + 1 => (9 + 3 * i) :: (9 + 3 * i + 1) :: (9 + 3 * i + 2) :: sl_ids i
theorem hp_ids_b (i : Nat) : ∀ j ∈ hp_ids i, (165 ≤ j ∧ j < 168) ∨ (45 ≤ j ∧ j < 45 + 3 * i) := by
  induction i with
  | zero => intro j hj; simp [hp_ids] at hj; omega
  | succ i ih =>
    intro j hj
    unfold hp_ids at hj
    rcases List.mem_cons.mp hj with e | hj
    · omega
    · rcases List.mem_cons.mp hj with e | hj
      · omega
      · rcases List.mem_cons.mp hj with e | hj
        · omega
        · have := ih j hj; omega
theorem sl_ids_b (i : Nat) : ∀ j ∈ sl_ids i, 9 ≤ j ∧ j < 9 + 3 * i := by
  induction i with
  | zero => intro j hj; simp [sl_ids] at hj
  | succ i ih =>
    intro j hj
    unfold sl_ids at hj
    rcases List.mem_cons.mp hj with e | hj
    · omega
    · rcases List.mem_cons.mp hj with e | hj
      · omega
      · rcases List.mem_cons.mp hj with e | hj
        · omega
        · have := ih j hj; omega
def rf_to (i o : Nat) (L : Nat → Nat) : Nat → Option Nat := fun k => if k < i then some (L (o + 3 * k)) else none
theorem rf_to_0 (o : Nat) (L : Nat → Nat) : (fun _ => none) = rf_to 0 o L := by
  funext k
  simp [rf_to]
theorem rf_to_up (i o : Nat) (L : Nat → Nat) (q q1 q2 : Nat) : va_up (rf_to i o L) i (some q) = rf_to (i + 1) o (up3 L (o + 3 * i) q q1 q2) := by
  funext k
  unfold va_up rf_to
  by_cases e : k = i
  · subst e
    rw [if_pos rfl, if_pos (by omega), up3_0]
  · rw [if_neg e]
    by_cases h : k < i
    · rw [if_pos h, if_pos (by omega), up3_ne L (by omega)]
    · rw [if_neg h, if_neg (by omega)]
section
variable {p : Program} {l : Launch} {e : Env} {R : Room} {s : State} {m : MethodId} {args : Array Value} {below : List Frame} {meth : Method} {c : Code} {H : Heap} {locs : List Loc} {cells slots : Nat} {Q : State → Prop}
variable {cc : ByteArray} {pc nL : Nat} {ls : Array Slot} {rest : List Value} {E : ss_E} {Ts : List Cond} {own : String} {ret : Option FieldType} {rm : Room} {A : Nat → Prop} {ws : va_W}
theorem ss_astN (F : ss_F p R s m args meth c E cc nL Ts own ret rm) (h2 : ss_P2 E.1 A ws H) (hS : va_S A s.heap H locs) (q0 t0 qk : Nat) {a v n : Nat} {cA : ClassId} {vs : List Value} {f : Nat → Option Nat} (ha : ws[q0]? = some (a, .inl (cA, n, .inr (.inr (.inr (.inr f)))))) (ht : E.2.2.2.2.2.2[t0]? = some (cA, .object RX3)) (hv : ws[qk]? = some (v, .inr (3, vs))) {i : Int32} (hin : vp_in i n) (hdg : decode cc pc = .ok (.aastore, 1))
    (kk : ∀ (H1 : Heap) (locs1 : List Loc), ss_P2 E.1 A (ws.set q0 (a, .inl (cA, n, .inr (.inr (.inr (.inr (va_up f i.toNatClampNeg (some v)))))))) H1 → va_S A s.heap H1 locs1 → W p l e R s m args below meth c H1 locs1 cells slots Q (F0 m (pc + 1) ls rest)) : W p l e R s m args below meth c H locs cells slots Q (F0 m pc ls (.ref v :: .int i :: .ref a :: rest)) :=
  va_astq (D := E.1) (cl := vwCl) (ws := ws) (A := A) (r := (RX3, TX3, 4)) F.1.1 F.1.2.1 F.2.2.2.2.1 h2.1 h2.2 hS q0 t0 qk 3 ha ht hv rfl hin hdg (fun H1 locs1 x y z => kk H1 locs1 ⟨x, y⟩ z)
end
set_option maxHeartbeats 4000000 in
set_option maxRecDepth 100000 in
theorem tX1_init_27 {p : Program} {l : Launch} {e : Env} {s : State} {m : MethodId} {args : Array Value} {below : List Frame} {meth : Method} {c : Code} {D : va_G} {cI cZ cS : ClassId} {a fr q4 : Nat} {A : Nat → Prop} {Q : State → Prop} (F : ss_F p rmX1_init s m args meth c (ss_E0 D (ss_tys cI cZ cS)) cX1_init 3 wsX1_init RX1 none rmX1_init) (hO : va_AO RX3 s) (hA : ∀ q, s.heap.size ≤ q → A q)
    (hend : ∀ (L : Nat → Nat) (H : Heap) (locs : List Loc) (ls : Array Slot), ss_P2 D A ((a, .inr (1, [.ref q4, .ref (L 165), .int 0])) :: (q4, .inl (cS, 40, .inr (.inr (.inr (.inr (rf_to 40 45 L)))))) :: (hp_ids 40).map (sp_ent fr cI L)) H → va_S A s.heap H locs → W p l e rmX1_init s m args below meth c H locs 124 1926 Q (F0 m 53 ls [])) :
    ∀ (d i : Nat), i + d = 40 → ∀ (L : Nat → Nat) (H : Heap) (locs : List Loc) (ls : Array Slot), ss_P2 D A ((a, .inr (1, [.ref q4, .ref (L 165), .int 0])) :: (q4, .inl (cS, 40, .inr (.inr (.inr (.inr (rf_to i 45 L)))))) :: (hp_ids i).map (sp_ent fr cI L)) H → va_S A s.heap H locs → lv_has ls 3 [(0, .ref a), (1, .ref fr), (2, .int (nI i))] → W p l e rmX1_init s m args below meth c H locs (4 + 3 * i) (86 + 46 * i) Q (F0 m 27 ls []) := by
  have hx := F.1.1
  have hb := F.1.2.1
  have u_X1 : ∀ w ∈ u_ws RX1 TX1 3, w ∈ wsX1_init := by decide +kernel
  have u_X3 : ∀ w ∈ u_ws RX3 TX3 4, w ∈ wsX1_init := by decide +kernel
  intro d
  induction d with
  | zero =>
    intro i hi L H locs ls h2 hS hl
    have ei : i = 40 := by omega
    subst ei
    refine lv_iload_n hx hb dX1_init_27 rfl (lv_at hl 2 rfl) ?_
    refine lv_bipush (v := 40) hx hb dX1_init_28 (by decide) ?_
    refine lv_icmp_ge (tgt := 53) hx hb dX1_init_30 (by decide) (fun hc => hend L H locs ls h2 hS) (fun hc => absurd (nI_le (a := 40) (b := 40) (Nat.le_refl _) (by omega)) hc)
  | succ d ih =>
    intro i hi L H locs ls h2 hS hl
    refine lv_iload_n hx hb dX1_init_27 rfl (lv_at hl 2 rfl) ?_
    refine lv_bipush (v := 40) hx hb dX1_init_28 (by decide) ?_
    refine lv_icmp_ge (tgt := 53) hx hb dX1_init_30 (by decide) (fun hc => absurd hc (nI_ge (b := 40) (by omega) (by omega))) (fun hc => ?_)
    refine lv_aload_n hx hb dX1_init_33 rfl (lv_at hl 0 rfl) ?_
    refine ss_getC (v := .ref q4) (T := TX1) (N := 3) (ci := 1) F h2 u_X1 0 rfl rfl 0 (by decide) (by decide +kernel) rfl dX1_init_34 ?_
    refine lv_iload_n hx hb dX1_init_37 rfl (lv_at hl 2 rfl) ?_
    refine ss_newO F hA h2 hS (C := RX3) (T := TX3) (N := 4) (ci := 3) u_X3 tyX3 tyX3_ok (by decide +kernel) (by decide +kernel) (by decide +kernel) rfl [.null, .null, .null, .int 0] (fun j hj => by rcases (show j = 0 ∨ j = 1 ∨ j = 2 ∨ j = 3 by omega) with rfl | rfl | rfl | rfl <;> rfl) (by show 4 + 3 * i + 1 ≤ 124; omega) (by show 86 + 46 * i + 4 ≤ 1926; omega) dX1_init_38 (fun q H h2 hS => ?_)
    refine lv_dup hx hb dX1_init_41 rfl ?_
    refine lv_aload_n hx hb dX1_init_42 rfl (lv_at hl 1 rfl) ?_
    refine ss_kN (E := ss_E0 D (ss_tys cI cZ cS)) (w0 := [(q, .inr (3, [.null, .null, .null, .int 0]))]) (ss_rIN (As := [.ref fr]) (rest := [.ref q, .int (nI i), .ref q4]) F (nX3_init l D cI cZ cS q fr H.size) gX1_init_X3_init_n17 rfl ⟨rfl, rfl⟩ ⟨rfl, dvX3_init⟩ (host := RX4) (by decide +kernel) ⟨by decide +kernel, by decide +kernel⟩ ⟨Nat.le_of_ble_eq_true rfl, Nat.le_of_ble_eq_true rfl⟩ (ss_preNS F hO h2) rfl hl.1 rfl (Nat.le_of_ble_eq_true rfl) dX1_init_43 ⟨by show 4 + 3 * i + 1 + 2 ≤ 124; omega, by show 86 + 46 * i + 4 + 42 ≤ 1926; omega⟩) h2 hS hA (fun u H locs _ h2 hS => ?_)
    obtain ⟨q1, q2⟩ := u
    refine ss_astN F h2 hS 4 2 0 rfl rfl rfl (vp_in_nI (by omega) (by omega)) dX1_init_46 (fun H locs h2 hS => ?_)
    rw [nI_clamp (by omega)] at h2
    have h2 : ss_P2 D A (([(q, .inr (3, [.ref fr, .ref q1, .ref q2, .int 0])), (q1, .inl (cI, 36, .inl (fun _ => 0))), (q2, .inl (cI, 6, .inl (fun _ => 0)))] ++ [(a, .inr (1, [.ref q4, .ref (L 165), .int 0])), (q4, .inl (cS, 40, .inr (.inr (.inr (.inr (va_up (rf_to i 45 L) i (some q)))))))]) ++ (hp_ids i).map (sp_ent fr cI L)) H := h2
    have h2 := h2.perm (List.Perm.append_right _ List.perm_append_comm)
    rw [rf_to_up i 45 L q q1 q2] at h2
    refine lv_iinc (v := nI (i + 1)) (lv' := [(2, .int (nI (i + 1))), (0, .ref a), (1, .ref fr)]) hx hb dX1_init_47 hl (k := 2) rfl (nI_1 i) (by decide) rfl (fun ls hl => ?_)
    refine lv_goto (tgt := 27) hx hb dX1_init_50 (by decide) ?_
    have hd := hp_ids_b i
    have e1 := sp_cons3 (fr := fr) (cI := cI) (L := L) (b := 45 + 3 * i) (q := q) (q1 := q1) (q2 := q2) (by omega) (ids := hp_ids i) (fun j hj => by have := hd j hj; omega)
    have e2 : up3 L (45 + 3 * i) q q1 q2 165 = L 165 := up3_ne L (by omega)
    have := ih (i + 1) (by omega) (up3 L (45 + 3 * i) q q1 q2) H locs ls (by
      show ss_P2 D A (_ :: _ :: (((45 + 3 * i) :: (45 + 3 * i + 1) :: (45 + 3 * i + 2) :: hp_ids i).map (sp_ent fr cI (up3 L (45 + 3 * i) q q1 q2)))) H
      rw [e1, e2]
      exact h2) hS (lv_sub hl [1, 2, 0] rfl)
    rw [show 4 + 3 * (i + 1) = 4 + 3 * i + 1 + 2 by omega, show 86 + 46 * (i + 1) = 86 + 46 * i + 4 + 42 by omega] at this
    exact this
set_option maxHeartbeats 4000000 in
set_option maxRecDepth 100000 in
theorem nX1_init (l : Launch) (D : va_G) (cI cZ cS : ClassId) (a fr : Nat) : ss_MN (S := Nat × (Nat → Nat)) l yX1_init wsX1_init rmX1_init D (ss_tys cI cZ cS) [.ref a, .ref fr] [(a, .inr (1, [.null, .null, .int 0]))] (fun _ => True) (fun u => (a, .inr (1, [.ref u.1, .ref (u.2 165), .int 0])) :: (u.1, .inl (cS, 40, .inr (.inr (.inr (.inr (rf_to 40 45 u.2)))))) :: (hp_ids 40).map (sp_ent fr cI u.2)) 124 1926 := by
  refine ss_MN.of (cc := cX1_init) (nL := 3) (own := RX1) (by decide) rfl rfl rfl (Nat.le_of_ble_eq_true rfl) (fun p e s m below meth c ls A F hi hO hA h2 hl => ?_)
  have hx := F.1.1
  have hb := F.1.2.1
  have hl : lv_has ls 3 [(0, .ref a), (1, .ref fr)] := hl
  have hS : va_S A s.heap s.heap [] := va_S.rf
  have u_X1 : ∀ w ∈ u_ws RX1 TX1 3, w ∈ wsX1_init := by decide +kernel
  have u_X3 : ∀ w ∈ u_ws RX3 TX3 4, w ∈ wsX1_init := by decide +kernel
  refine lv_aload_n hx hb dX1_init_0 rfl (lv_at hl 0 rfl) ?_
  refine ss_oi F (by decide +kernel) (by decide +kernel) (by decide +kernel) hl.1 (Nat.le_of_ble_eq_true rfl) (Nat.le_of_ble_eq_true rfl) dX1_init_1 ?_
  refine lv_aload_n hx hb dX1_init_4 rfl (lv_at hl 0 rfl) ?_
  refine lv_bipush (v := 40) hx hb dX1_init_5 (by decide) ?_
  refine ss_newQ F hO hA h2 hS (by decide +kernel) 2 rfl 40 (by decide) (by decide) (Nat.le_of_ble_eq_true rfl) (Nat.le_of_ble_eq_true rfl) (Nat.le_of_ble_eq_true rfl) dX1_init_7 (fun q4 H h2 hS => ?_)
  refine ss_putC (ty := .array (.object "SmallSpaces$Space")) F hi h2 hS tyX1 tyX1_ok nmX1 u_X1 1 rfl rfl 0 (by decide) rfl (by decide +kernel) rfl (by decide +kernel) rfl rfl (Nat.le_of_ble_eq_true rfl) dX1_init_10 (fun H locs h2 hS => ?_)
  have h2 : ss_P2 D A [(q4, .inl (cS, 40, .inr (.inr (.inr (.inr (fun _ => none)))))), (a, .inr (1, [.ref q4, .null, .int 0]))] H := h2
  refine lv_aload_n hx hb dX1_init_13 rfl (lv_at hl 0 rfl) ?_
  refine ss_newO F hA h2 hS (C := RX3) (T := TX3) (N := 4) (ci := 3) u_X3 tyX3 tyX3_ok (by decide +kernel) (by decide +kernel) (by decide +kernel) rfl [.null, .null, .null, .int 0] (fun j hj => by rcases (show j = 0 ∨ j = 1 ∨ j = 2 ∨ j = 3 by omega) with rfl | rfl | rfl | rfl <;> rfl) (Nat.le_of_ble_eq_true rfl) (Nat.le_of_ble_eq_true rfl) dX1_init_14 (fun q H h2 hS => ?_)
  refine lv_dup hx hb dX1_init_17 rfl ?_
  refine lv_aload_n hx hb dX1_init_18 rfl (lv_at hl 1 rfl) ?_
  refine ss_kN (E := ss_E0 D (ss_tys cI cZ cS)) (w0 := [(q, .inr (3, [.null, .null, .null, .int 0]))]) (ss_rIN (As := [.ref fr]) (rest := [.ref q, .ref a]) F (nX3_init l D cI cZ cS q fr H.size) gX1_init_X3_init_n17 rfl ⟨rfl, rfl⟩ ⟨rfl, dvX3_init⟩ (host := RX4) (by decide +kernel) ⟨by decide +kernel, by decide +kernel⟩ ⟨Nat.le_of_ble_eq_true rfl, Nat.le_of_ble_eq_true rfl⟩ (ss_preNS F hO h2) rfl hl.1 rfl (Nat.le_of_ble_eq_true rfl) dX1_init_19 ⟨Nat.le_of_ble_eq_true rfl, Nat.le_of_ble_eq_true rfl⟩) h2 hS hA (fun u H locs _ h2 hS => ?_)
  obtain ⟨q1, q2⟩ := u
  refine ss_putC (ty := .object "SmallSpaces$Space") F hi h2 hS tyX1 tyX1_ok nmX1 u_X1 4 rfl rfl 1 (by decide) rfl (by decide +kernel) rfl (by decide +kernel) rfl rfl (Nat.le_of_ble_eq_true rfl) dX1_init_22 (fun H locs h2 hS => ?_)
  have h2 : ss_P2 D A ([(q, .inr (3, [.ref fr, .ref q1, .ref q2, .int 0])), (q1, .inl (cI, 36, .inl (fun _ => 0))), (q2, .inl (cI, 6, .inl (fun _ => 0)))] ++ [(q4, .inl (cS, 40, .inr (.inr (.inr (.inr (fun _ => none)))))), (a, .inr (1, [.ref q4, .ref q, .int 0]))]) H := h2
  have h2 := (h2.perm List.perm_append_comm).perm (List.Perm.swap _ _ _)
  refine lv_iconst (v := 0) hx hb dX1_init_25 (by decide) ?_
  refine lv_istore_n (lv' := [(2, .int (nI 0)), (0, .ref a), (1, .ref fr)]) hx hb dX1_init_26 rfl hl (by decide) rfl (fun ls hl => ?_)
  refine tX1_init_27 (q4 := q4) (a := a) (fr := fr) F hO hA (fun L H locs ls h2 hS => ?_) 40 0 (by omega) (up3 (fun _ => 0) 165 q q1 q2) H locs ls ?_ hS (lv_sub hl [1, 2, 0] rfl)
  · exact ss_retN (S := Nat × (Nat → Nat)) (q4, L) F h2 hS trivial (Nat.le_of_ble_eq_true rfl) (Nat.le_of_ble_eq_true rfl) dX1_init_53
  · rw [← rf_to_0, up3_0]
    have e1 := sp_cons3 (fr := fr) (cI := cI) (L := fun _ => 0) (b := 165) (q := q) (q1 := q1) (q2 := q2) rfl (ids := []) (fun j hj => by simp at hj)
    show ss_P2 D A (_ :: _ :: ((165 :: (165 + 1) :: (165 + 2) :: []).map (sp_ent fr cI (up3 (fun _ => 0) 165 q q1 q2)))) H
    rw [e1]
    exact h2
