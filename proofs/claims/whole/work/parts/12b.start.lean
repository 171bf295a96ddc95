theorem sim_all : ss_Sim Inv := fun σ τ hI x1 x2 x3 => ⟨sim_field hI x1 x2, sim_plus hI x1 x2 x3, sim_times hI x1 x2, sim_add hI x1 x2, sim_clear hI x1, sim_dim hI x1, sim_row hI x1 x2, sim_join hI x1 x2 x3, sim_meet hI x1 x2 x3, sim_dual hI x1 x2, sim_has hI x1 x2, sim_within hI x1 x2, sim_apart hI x1 x2, sim_number hI x1, sim_numbered hI x1 x2 x3, sim_many hI x1, sim_over hI x1 x2, sim_meeting hI x1 x2 x3, sim_put hI x1, sim_empty hI, sim_take hI x1 x2, sim_least hI, sim_bare hI, sim_greedy hI x1 x2, sim_image hI x1 x2, sim_mapped hI x1, sim_map hI x1 x2, sim_kernel hI x1, sim_round hI x1, sim_told hI x1, sim_digest hI⟩
theorem sX_sp (h : Nat → Int32) (k : Nat) : sX h (9 + 3 * k) = fun _ => 0 := by
  rw [Nat.add_comm]
  rfl
theorem inv_start {h : Nat → Int32} {τ : ss_S} (hL : LnC (fun _ => h) 2 1 la_e) (x1 : FrM τ 2 1) (x2 : ∀ j, 3 ≤ j → j ≠ 13 → τ 0 j = 0) (x3 : τ 0 13 = nI 0) (x4 : ∀ k, k < 12 → τ 4 k = nI 0) (x5 : LnM τ 2 1 la_e) : Inv (sX h) τ := by
  refine ⟨2, 1, 0, 0, 0, ⟨x1.1, rfl, rfl, rfl⟩, x1, ⟨by omega, rfl, x3⟩, ⟨by omega, rfl, x2 4 (by omega) (by omega)⟩, ⟨by omega, rfl, x2 5 (by omega) (by omega)⟩, fun k hk => ⟨la_no, fun _ => la_z, ⟨la_R_no _ _ _, ?_, fun p hp => absurd hp (by simp [la_no])⟩, by rw [x4 k hk, ct_no], fun p hp => absurd hp (by simp [la_no])⟩, fun k hk => absurd hk (Nat.not_lt_zero _), la_e, fun p hp => hL p hp, x5⟩
  rw [sX_sp, la_mk_no]
  rfl
theorem iL2 : ∀ w ∈ u_ws RX2 TX2 3, w ∈ wsL_law := fun w h => by
  unfold wsL_law
  exact List.mem_append_left _ (List.mem_append_right _ h)
theorem iL1 : ∀ w ∈ u_ws RX1 TX1 3, w ∈ wsL_law := fun w h => by
  unfold wsL_law
  exact List.mem_append_left _ (List.mem_append_left _ (List.mem_append_right _ h))
theorem iL3 : ∀ w ∈ u_ws RX3 TX3 4, w ∈ wsL_law := fun w h => by
  unfold wsL_law
  exact List.mem_append_left _ (List.mem_append_left _ (List.mem_append_left _ (List.mem_append_right _ h)))
theorem iL0 : ∀ w ∈ u_ws RX0 TX0 3, w ∈ wsL_law := fun w h => by
  unfold wsL_law
  exact List.mem_append_left _ (List.mem_append_left _ (List.mem_append_left _ (List.mem_append_left _ (List.mem_append_right _ h))))
theorem iL5 : ∀ w ∈ u_ws RX5 TX5 16, w ∈ wsL_law := fun w h => by
  unfold wsL_law
  exact List.mem_append_left _ (List.mem_append_left _ (List.mem_append_left _ (List.mem_append_left _ (List.mem_append_left _ (List.mem_append_right _ h)))))
theorem iL4 : ∀ w ∈ u_ws RX4 TX4 9, w ∈ wsL_law := fun w h => by
  unfold wsL_law
  exact List.mem_append_left _ (List.mem_append_left _ (List.mem_append_left _ (List.mem_append_left _ (List.mem_append_left _ (List.mem_append_left _ (List.mem_append_right _ h))))))
set_option maxHeartbeats 8000000 in
set_option maxRecDepth 100000 in
theorem whole_start {p : Program} {e : Env} {s : State} {m : MethodId} {below : List Frame} {meth : Method} {c : Code} (l : Launch) {b L : Nat} {xs : Nat → Int32} (hL : L ≤ 2048) (C0 : lw_At p s m meth c b L xs) : W p l e room_1 s m #[Value.ref b] below meth c s.heap [] 0 0 (lw_Z below #[Value.ref b] s) (entryFrame m ([Value.ref b] : List Value).toArray 4) := by
  obtain ⟨hx, hb, hr, hml, hown, hts, hX, hbl, hlocks, hgv⟩ := id C0
  have hA : ∀ q : Nat, s.heap.size ≤ q → (fun q : Nat => s.heap.size ≤ q) q := fun _ h => h
  have hbA : ¬ (fun q : Nat => s.heap.size ≤ q) b := Nat.not_le.mpr hbl
  have htl : ∀ w ∈ wsL_law, w.before #[Value.ref b] s = true := fun w hw => hts w (wsL_law_in w hw)
  have hNW : ss_NW s := ss_NW.of (args := #[Value.ref b]) (fun w hw => hts w (ss_nw_in w hw))
  have hAO := hts (.arrayOver (.object RX3)) (by decide +kernel)
  have hO : va_AO RX3 s := va_AO.of hAO
  obtain ⟨c0, i0, hKn0⟩ := u_known (C := RX0) (T := TX0) (N := 3) (n := 3) htl iL0 (hts (.instantiable RX0 3) (by decide +kernel))
  obtain ⟨c1, i1, hKn1⟩ := u_known (C := RX1) (T := TX1) (N := 3) (n := 3) htl iL1 (hts (.instantiable RX1 3) (by decide +kernel))
  obtain ⟨c2, i2, hKn2⟩ := u_known (C := RX2) (T := TX2) (N := 3) (n := 3) htl iL2 (hts (.instantiable RX2 3) (by decide +kernel))
  obtain ⟨c3, i3, hKn3⟩ := u_known (C := RX3) (T := TX3) (N := 4) (n := 4) htl iL3 (hts (.instantiable RX3 4) (by decide +kernel))
  obtain ⟨c4, i4, hKn4⟩ := u_known (C := RX4) (T := TX4) (N := 9) (n := 9) htl iL4 (hts (.instantiable RX4 9) (by decide +kernel))
  obtain ⟨c5, i5, hKn5⟩ := u_known (C := RX5) (T := TX5) (N := 16) (n := 16) htl iL5 (hts (.instantiable RX5 16) (by decide +kernel))
  obtain ⟨D, hKc⟩ : ∃ D : va_G, ∀ (k : Nat) (q : vw_C), vwCl[k]? = some q → u_Kn s q.1 q.2.1 q.2.2 (D.1 k) (D.2 k) := by
    refine ⟨(fun k => match k with | 0 => c0 | 1 => c1 | 2 => c2 | 3 => c3 | 4 => c4 | _ => c5, fun k => match k with | 0 => i0 | 1 => i1 | 2 => i2 | 3 => i3 | 4 => i4 | _ => i5), ?_⟩
    intro k q hq
    match k, hq with
    | 0, hq => cases hq; exact hKn0
    | 1, hq => cases hq; exact hKn1
    | 2, hq => cases hq; exact hKn2
    | 3, hq => cases hq; exact hKn3
    | 4, hq => cases hq; exact hKn4
    | 5, hq => cases hq; exact hKn5
    | k + 6, hq => simp at hq
  obtain ⟨cI, kI, pI, fI, gI, tI⟩ := Cond.arrayClass_spec (hts (.arrayClass .int) (by decide +kernel))
  obtain ⟨cZ, kZ, pZ, fZ, gZ, tZ⟩ := Cond.arrayClass_spec (hts (.arrayClass .boolean) (by decide +kernel))
  obtain ⟨pS, cS, kS, fS, gS0, gS, tS, nS⟩ := Cond.arrayOver_spec hAO
  have hK : va_K D vwCl (ss_tys cI cZ cS) s := by
    refine ⟨hKc, fun k q hk => ?_⟩
    match k, hk with
    | 0, hk => cases hk; exact ⟨fun n z => ⟨(fun k h => by cases h), kI, gI, pI, tI⟩, fI⟩
    | 1, hk => cases hk; exact ⟨fun n z => ⟨(fun k h => by cases h), kZ, gZ, pZ, tZ⟩, fZ⟩
    | 2, hk => cases hk; exact ⟨fun n z => ⟨(fun k h => by cases h), kS, gS, pS, tS⟩, kS, pS, gS, tS, fS, nS⟩
    | k + 3, hk => simp at hk
  have F : ss_F p room_1 s m #[Value.ref b] meth c (ss_E0 D (ss_tys cI cZ cS)) cL_law 4 wsL_law RL ret room_1 := ⟨⟨hx, hb, hml, hown, htl⟩, hr, hlocks, ⟨Nat.le_refl _, Nat.le_refl _⟩, hK, hNW⟩
  have hl := lv_entry ([.ref b]) (n := 4) (Nat.le_of_ble_eq_true rfl)
  rw [lg_entry_eq]
  generalize (lg_sl ([.ref b]) ++ List.replicate (4 - (lg_sl ([.ref b])).length) Slot.unset).toArray = ls at hl ⊢
  have hl : lv_has ls 4 [(0, .ref b)] := hl
  have h2 : ss_P2 D (fun q : Nat => s.heap.size ≤ q) [] s.heap := ⟨fun k q h => by simp at h, fun i j p q h => by simp at h, fun k q h => by simp at h⟩
  have hS : va_S (fun q : Nat => s.heap.size ≤ q) s.heap s.heap [] := va_S.rf
  refine ss_newO F hA h2 hS (C := RX4) (T := TX4) (N := 9) (ci := 4) iL4 tyX4 tyX4_ok (by decide +kernel) (by decide +kernel) (by decide +kernel) rfl [.null, .null, .null, .null, .null, .null, .null, .int 0, .int 0] (fun j hj => by rcases (show j = 0 ∨ j = 1 ∨ j = 2 ∨ j = 3 ∨ j = 4 ∨ j = 5 ∨ j = 6 ∨ j = 7 ∨ j = 8 by omega) with rfl | rfl | rfl | rfl | rfl | rfl | rfl | rfl | rfl <;> rfl) (Nat.le_of_ble_eq_true rfl) (Nat.le_of_ble_eq_true rfl) dL_law_0 (fun qx H h2 hS => ?_)
  refine lv_dup hx hb dL_law_3 rfl ?_
  refine ss_kN (E := ss_E0 D (ss_tys cI cZ cS)) (w0 := [(qx, .inr (4, [.null, .null, .null, .null, .null, .null, .null, .int 0, .int 0]))]) (ws := []) (ss_rI (As := []) (rest := [.ref qx]) F (nX4_init l D cI cZ cS qx H.size) gL_law_X4_init rfl ⟨rfl, rfl⟩ ⟨rfl, dvX4_init⟩ (by decide +kernel) ⟨by decide +kernel, by decide +kernel⟩ ⟨Nat.le_of_ble_eq_true rfl, Nat.le_of_ble_eq_true rfl⟩ (ss_preNS (ws := []) F hO h2) rfl hl.1 rfl (Nat.le_of_ble_eq_true rfl) dL_law_4 ⟨Nat.le_of_ble_eq_true rfl, Nat.le_of_ble_eq_true rfl⟩) h2 hS hA (fun u H locs hu h2c hS => ?_)
  obtain ⟨Lc, h⟩ := u
  obtain ⟨ec, hLn⟩ := hu
  have ec : Lc 0 = qx := ec
  have hLn : LnC (fun _ => h) 2 1 la_e := hLn
  subst ec
  rw [List.append_nil] at h2c
  have h2 : ss_P2 D (fun q : Nat => s.heap.size ≤ q) (ss_ws 174 Lc (ss_ceC Lc cI cS) (sX h)) H := h2c
  refine lv_astore_n (lv' := [(1, .ref (Lc 0)), (0, .ref b)]) hx hb dL_law_7 rfl hl (by decide) rfl (fun ls hl => ?_)
  refine ss_newO F hA h2 hS (C := RX5) (T := TX5) (N := 16) (ci := 5) iL5 tyX5 tyX5_ok (by decide +kernel) (by decide +kernel) (by decide +kernel) rfl [.int 0, .int 0, .int 0, .null, .int 0, .int 0, .null, .int 0, .null, .null, .null, .null, .null, .int 0, .null, .null] (fun j hj => by rcases (show j = 0 ∨ j = 1 ∨ j = 2 ∨ j = 3 ∨ j = 4 ∨ j = 5 ∨ j = 6 ∨ j = 7 ∨ j = 8 ∨ j = 9 ∨ j = 10 ∨ j = 11 ∨ j = 12 ∨ j = 13 ∨ j = 14 ∨ j = 15 by omega) with rfl | rfl | rfl | rfl | rfl | rfl | rfl | rfl | rfl | rfl | rfl | rfl | rfl | rfl | rfl | rfl <;> rfl) (Nat.le_of_ble_eq_true rfl) (Nat.le_of_ble_eq_true rfl) dL_law_8 (fun qm H h2 hS => ?_)
  refine lv_dup hx hb dL_law_11 rfl ?_
  refine ss_kN (E := ss_E0 D (ss_tys cI cZ cS)) (w0 := [(qm, .inr (5, [.int 0, .int 0, .int 0, .null, .int 0, .int 0, .null, .int 0, .null, .null, .null, .null, .null, .int 0, .null, .null]))]) (ws := ss_ws 174 Lc (ss_ceC Lc cI cS) (sX h)) (ss_rI (As := []) (rest := [.ref qm]) F (nX5_init l D cI cZ cS qm H.size) gL_law_X5_init rfl ⟨rfl, rfl⟩ ⟨rfl, dvX5_init⟩ (by decide +kernel) ⟨by decide +kernel, by decide +kernel⟩ ⟨Nat.le_of_ble_eq_true rfl, Nat.le_of_ble_eq_true rfl⟩ (ss_preNS (ws := ss_ws 174 Lc (ss_ceC Lc cI cS) (sX h)) F hO h2) rfl hl.1 rfl (Nat.le_of_ble_eq_true rfl) dL_law_12 ⟨Nat.le_of_ble_eq_true rfl, Nat.le_of_ble_eq_true rfl⟩) h2 hS hA (fun u H locs hu h2m hS => ?_)
  obtain ⟨Lm, τ⟩ := u
  obtain ⟨em, x1, x2, x3, x4, x5⟩ := hu
  have em : Lm 0 = qm := em
  subst em
  refine lv_astore_n (lv' := [(2, .ref (Lm 0)), (1, .ref (Lc 0)), (0, .ref b)]) hx hb dL_law_15 rfl hl (by decide) rfl (fun ls hl => ?_)
  refine lv_iconst (v := 0) hx hb dL_law_16 (by decide) ?_
  refine lv_istore_n (lv' := [(3, .int (nI 0)), (2, .ref (Lm 0)), (1, .ref (Lc 0)), (0, .ref b)]) hx hb dL_law_17 rfl hl (by decide) rfl (fun ls hl => ?_)
  refine W.widen (k := 600000) (n := 7302250) (Nat.le_of_ble_eq_true rfl) (Nat.le_of_ble_eq_true rfl) ?_
  have hC : ss_C (ss_EC D (fun q : Nat => s.heap.size ≤ q) Lc (ss_ws 10 Lm (ss_ceM Lm cI cZ) τ) cI cZ cS) (sX h) s H locs := ss_swC ⟨h2m.1, h2m.2, hS⟩
  refine law_loop sim_all (ss_FM F) ⟨Nat.le_of_ble_eq_true rfl, Nat.le_of_ble_eq_true rfl⟩ hX hbl hbA hL (fun H locs ls hS => ?_) 513 0 (by omega) (sX h) τ H locs ls hC (lv_sub hl [3, 2, 1, 0] rfl) (inv_start hLn x1 x2 x3 x4 x5) (by omega)
  refine lv_iconst (v := 1) hx hb dL_law_1082 (by decide) ?_
  refine va_forget (fun q hq => hS.2.2 q hq) ?_
  exact lw_ret hx hb hr hlocks dL_law_1083
