theorem ss_cmp0 (r : Int64) : lg_cmp r r = 0 := by simp [lg_cmp]
theorem law_in1 {i LL : Nat} (hi : i + 4 ≤ LL) (hL : LL ≤ 2048) : vp_in (nI i + 1) LL := by rw [show (1 : Int32) = nI 1 from rfl, nI_add]; exact vp_in_nI (by omega) (by omega)
theorem law_in2 {i LL : Nat} (hi : i + 4 ≤ LL) (hL : LL ≤ 2048) : vp_in (nI i + 2) LL := by rw [show (2 : Int32) = nI 2 from rfl, nI_add]; exact vp_in_nI (by omega) (by omega)
theorem law_in3 {i LL : Nat} (hi : i + 4 ≤ LL) (hL : LL ≤ 2048) : vp_in (nI i + 3) LL := by rw [show (3 : Int32) = nI 3 from rfl, nI_add]; exact vp_in_nI (by omega) (by omega)
section
variable {p : Program} {l : Launch} {e : Env} {R : Room} {s : State} {m : MethodId} {args : Array Value} {below : List Frame} {meth : Method} {c : Code} {H : Heap} {locs : List Loc} {Q : State → Prop} {D : va_G} {A : Nat → Prop} {Lc Lm : Nat → Nat} {cI cZ cS : ClassId} {b LL i : Nat} {xs : Nat → Int32} {σ τ : ss_S} {ls : Array Slot} {Inv : ss_S → ss_S → Prop}
theorem ss_swM (hC : ss_C (ss_EC D A Lc (ss_ws 10 Lm (ss_ceM Lm cI cZ) τ) cI cZ cS) σ s H locs) : ss_C (ss_EM D A Lm (ss_ws 174 Lc (ss_ceC Lc cI cS) σ) cI cZ cS) τ s H locs :=
  ⟨va_P.swap (a := []) hC.1, va_D.swap (a := []) hC.2.1, hC.2.2⟩
theorem ss_swC (hC : ss_C (ss_EM D A Lm (ss_ws 174 Lc (ss_ceC Lc cI cS) σ) cI cZ cS) τ s H locs) : ss_C (ss_EC D A Lc (ss_ws 10 Lm (ss_ceM Lm cI cZ) τ) cI cZ cS) σ s H locs :=
  ⟨va_P.swap (a := []) hC.1, va_D.swap (a := []) hC.2.1, hC.2.2⟩
theorem ss_FM {E E' : ss_E} {cc : ByteArray} {nL : Nat} {ws : List Cond} {own : String} {rt : Option FieldType} {rm : Room} (F : ss_F p R s m args meth c E cc nL ws own rt rm) (h1 : E.1 = E'.1 := by rfl) (h2 : E.2.2.2.2.2.2 = E'.2.2.2.2.2.2 := by rfl) : ss_F p R s m args meth c E' cc nL ws own rt rm := by
  unfold ss_F at F ⊢
  rw [← h1, ← h2]
  exact F
def ss_Sim (Inv : ss_S → ss_S → Prop) : Prop := ∀ (σ τ : ss_S), Inv σ τ → ∀ (x1 x2 x3 : Int32),
  (wX4_field x1 x2 σ (fun r σ1 => wX5_field x1 x2 τ (fun r' τ1 => r = r' ∧ Inv σ1 τ1))) ∧
  (wX4_plus x1 x2 x3 σ (fun r σ1 => wX5_plus x1 x2 x3 τ (fun r' τ1 => r = r' ∧ Inv σ1 τ1))) ∧
  (wX4_times x1 x2 σ (fun r σ1 => wX5_times x1 x2 τ (fun r' τ1 => r = r' ∧ Inv σ1 τ1))) ∧
  (wX4_add x1 x2 σ (fun r σ1 => wX5_add x1 x2 τ (fun r' τ1 => r = r' ∧ Inv σ1 τ1))) ∧
  (wX4_clear x1 σ (fun r σ1 => wX5_clear x1 τ (fun r' τ1 => r = r' ∧ Inv σ1 τ1))) ∧
  (wX4_dim x1 σ (fun r σ1 => wX5_dim x1 τ (fun r' τ1 => r = r' ∧ Inv σ1 τ1))) ∧
  (wX4_row x1 x2 σ (fun r σ1 => wX5_row x1 x2 τ (fun r' τ1 => r = r' ∧ Inv σ1 τ1))) ∧
  (wX4_join x1 x2 x3 σ (fun r σ1 => wX5_join x1 x2 x3 τ (fun r' τ1 => r = r' ∧ Inv σ1 τ1))) ∧
  (wX4_meet x1 x2 x3 σ (fun r σ1 => wX5_meet x1 x2 x3 τ (fun r' τ1 => r = r' ∧ Inv σ1 τ1))) ∧
  (wX4_dual x1 x2 σ (fun r σ1 => wX5_dual x1 x2 τ (fun r' τ1 => r = r' ∧ Inv σ1 τ1))) ∧
  (wX4_has x1 x2 σ (fun r σ1 => wX5_has x1 x2 τ (fun r' τ1 => r = r' ∧ Inv σ1 τ1))) ∧
  (wX4_within x1 x2 σ (fun r σ1 => wX5_within x1 x2 τ (fun r' τ1 => r = r' ∧ Inv σ1 τ1))) ∧
  (wX4_apart x1 x2 σ (fun r σ1 => wX5_apart x1 x2 τ (fun r' τ1 => r = r' ∧ Inv σ1 τ1))) ∧
  (wX4_number x1 σ (fun r σ1 => wX5_number x1 τ (fun r' τ1 => r = r' ∧ Inv σ1 τ1))) ∧
  (wX4_numbered x1 x2 x3 σ (fun r σ1 => wX5_numbered x1 x2 x3 τ (fun r' τ1 => r = r' ∧ Inv σ1 τ1))) ∧
  (wX4_many x1 σ (fun r σ1 => wX5_many x1 τ (fun r' τ1 => r = r' ∧ Inv σ1 τ1))) ∧
  (wX4_over x1 x2 σ (fun r σ1 => wX5_over x1 x2 τ (fun r' τ1 => r = r' ∧ Inv σ1 τ1))) ∧
  (wX4_meeting x1 x2 x3 σ (fun r σ1 => wX5_meeting x1 x2 x3 τ (fun r' τ1 => r = r' ∧ Inv σ1 τ1))) ∧
  (wX4_put x1 σ (fun r σ1 => wX5_put x1 τ (fun r' τ1 => r = r' ∧ Inv σ1 τ1))) ∧
  (wX4_empty  σ (fun r σ1 => wX5_empty  τ (fun r' τ1 => r = r' ∧ Inv σ1 τ1))) ∧
  (wX4_take x1 x2 σ (fun r σ1 => wX5_take x1 x2 τ (fun r' τ1 => r = r' ∧ Inv σ1 τ1))) ∧
  (wX4_least  σ (fun r σ1 => wX5_least  τ (fun r' τ1 => r = r' ∧ Inv σ1 τ1))) ∧
  (wX4_bare  σ (fun r σ1 => wX5_bare  τ (fun r' τ1 => r = r' ∧ Inv σ1 τ1))) ∧
  (wX4_greedy x1 x2 σ (fun r σ1 => wX5_greedy x1 x2 τ (fun r' τ1 => r = r' ∧ Inv σ1 τ1))) ∧
  (wX4_image x1 x2 σ (fun r σ1 => wX5_image x1 x2 τ (fun r' τ1 => r = r' ∧ Inv σ1 τ1))) ∧
  (wX4_mapped x1 σ (fun r σ1 => wX5_mapped x1 τ (fun r' τ1 => r = r' ∧ Inv σ1 τ1))) ∧
  (wX4_map x1 x2 σ (fun r σ1 => wX5_map x1 x2 τ (fun r' τ1 => r = r' ∧ Inv σ1 τ1))) ∧
  (wX4_kernel x1 σ (fun r σ1 => wX5_kernel x1 τ (fun r' τ1 => r = r' ∧ Inv σ1 τ1))) ∧
  (wX4_round x1 σ (fun r σ1 => wX5_round x1 τ (fun r' τ1 => r = r' ∧ Inv σ1 τ1))) ∧
  (wX4_told x1 σ (fun r σ1 => wX5_told x1 τ (fun r' τ1 => r = r' ∧ Inv σ1 τ1))) ∧
  (wX4_digest  σ (fun r σ1 => wX5_digest  τ (fun r' τ1 => r = r' ∧ Inv σ1 τ1)))
set_option maxHeartbeats 4000000 in
theorem law_last (hX : va_X b LL xs s s.heap) (hbl : b < s.heap.size) (hbA : ¬ A b) (hL : LL ≤ 2048) (hx : p.tables.exec = Jvm.exec) (hb : c.code = cL_law) (hS : va_S A s.heap H locs) (hl : lv_has ls 4 [(0, .ref b), (1, .ref (Lc 0)), (2, .ref (Lm 0)), (3, .int (nI i))]) (hi : LL < i + 4) (hi8 : i ≤ 2048) (hend : W p l e R s m args below meth c H locs 600000 7302250 Q (F0 m 1082 ls [])) : W p l e R s m args below meth c H locs 600000 7302250 Q (F0 m 18 ls []) := by
  refine lv_iload_n hx hb dL_law_18 rfl (lv_at hl 3 rfl) ?_
  refine lv_aload_n hx hb dL_law_19 rfl (lv_at hl 0 rfl) ?_
  refine va_slen hx hb hX hbl hbA hS dL_law_20 ?_
  refine lv_iconst (v := 4) hx hb dL_law_21 (by decide) ?_
  refine lv_isub hx hb dL_law_22 ?_
  refine lv_icmp_gt (tgt := 1082) hx hb dL_law_23 (by decide) (fun hc => hend) (fun hc => ?_)
  exfalso
  apply hc
  have e1 : (Int32.ofNat LL - 4).toInt = (LL : Int) - 4 := by rw [show (4 : Int32) = nI 4 from rfl]; exact pk_sub_toInt (a := LL) (b := 4) (by omega) (by omega)
  have e2 : (nI i).toInt = (i : Int) := nI_toInt (by omega)
  rw [Int32.lt_iff_toInt_lt, e1, e2]
  omega
set_option maxHeartbeats 4000000 in
set_option maxRecDepth 100000 in
theorem law_c0 (F : ss_F p R s m args meth c (ss_EC D A Lc (ss_ws 10 Lm (ss_ceM Lm cI cZ) τ) cI cZ cS) cL_law 4 wsL_law RL ret room_1) (hf : 600000 ≤ R.cells ∧ 7302250 ≤ R.slots) (hX : va_X b LL xs s s.heap) (hbl : b < s.heap.size) (hbA : ¬ A b) (hi : i + 4 ≤ LL) (hL : LL ≤ 2048) (hC : ss_C (ss_EC D A Lc (ss_ws 10 Lm (ss_ceM Lm cI cZ) τ) cI cZ cS) σ s H locs) (hl : lv_has ls 4 [(0, .ref b), (1, .ref (Lc 0)), (2, .ref (Lm 0)), (3, .int (nI i))]) (hw : wX4_field (xs (Int32.toNatClampNeg (nI i + 1))) (xs (Int32.toNatClampNeg (nI i + 2))) σ (fun r σ1 => wX5_field (xs (Int32.toNatClampNeg (nI i + 1))) (xs (Int32.toNatClampNeg (nI i + 2))) τ (fun r' τ1 => r = r' ∧ Inv σ1 τ1))) (hk : ∀ (σ τ : ss_S) (H : Heap) (locs : List Loc) (ls : Array Slot), ss_C (ss_EC D A Lc (ss_ws 10 Lm (ss_ceM Lm cI cZ) τ) cI cZ cS) σ s H locs → lv_has ls 4 [(0, .ref b), (1, .ref (Lc 0)), (2, .ref (Lm 0)), (3, .int (nI i))] → Inv σ τ → W p l e R s m args below meth c H locs 600000 7302250 Q (F0 m 1076 ls [])) : W p l e R s m args below meth c H locs 600000 7302250 Q (F0 m 172 ls []) := by
  have hx := F.1.1
  have hb := F.1.2.1
  refine lv_aload_n hx hb dL_law_172 rfl (lv_at hl 1 rfl) ?_
  refine lv_aload_n hx hb dL_law_173 rfl (lv_at hl 0 rfl) ?_
  refine lv_iload_n hx hb dL_law_174 rfl (lv_at hl 3 rfl) ?_
  refine lv_iconst (v := 1) hx hb dL_law_175 (by decide) ?_
  refine lv_iadd hx hb dL_law_176 ?_
  refine va_sld hx hb hX hbl hbA hC.2.2 (law_in1 hi hL) dL_law_177 ?_
  refine lv_aload_n hx hb dL_law_178 rfl (lv_at hl 0 rfl) ?_
  refine lv_iload_n hx hb dL_law_179 rfl (lv_at hl 3 rfl) ?_
  refine lv_iconst (v := 2) hx hb dL_law_180 (by decide) ?_
  refine lv_iadd hx hb dL_law_181 ?_
  refine va_sld hx hb hX hbl hbA hC.2.2 (law_in2 hi hL) dL_law_182 ?_
  refine ss_ki (ss_rV (E := (ss_EC D A Lc (ss_ws 10 Lm (ss_ceM Lm cI cZ) τ) cI cZ cS)) (C := RX4) (As := [.int (xs (Int32.toNatClampNeg (nI i + 1))), .int (xs (Int32.toNatClampNeg (nI i + 2)))]) (rest := []) F (mX4_field l D A Lc (ss_ws 10 Lm (ss_ceM Lm cI cZ) τ) cI cZ cS σ (xs (Int32.toNatClampNeg (nI i + 1))) (xs (Int32.toNatClampNeg (nI i + 2))) _) gL_law_X4_field rfl ⟨rfl, rfl⟩ ⟨rfl, dvX4_field⟩ ⟨Nat.le_of_ble_eq_true rfl, Nat.le_of_ble_eq_true rfl⟩ (ss_preV F.2.2.2.2.1 F.2.2.2.2.2 hC (ss_rec (C := RX4) (T := TX4) (N := 9) (ci := 4) F.2.2.2.2.1 hC 0 (Nat.le_of_ble_eq_true rfl) rfl rfl) hw) rfl hl.1 rfl (Nat.le_of_ble_eq_true rfl) dL_law_183 hf) hC (fun r σ1 H locs hC hw => ?_)
  replace hC := ss_swM hC
  refine lv_aload_n hx hb dL_law_186 rfl (lv_at hl 2 rfl) ?_
  refine lv_aload_n hx hb dL_law_187 rfl (lv_at hl 0 rfl) ?_
  refine lv_iload_n hx hb dL_law_188 rfl (lv_at hl 3 rfl) ?_
  refine lv_iconst (v := 1) hx hb dL_law_189 (by decide) ?_
  refine lv_iadd hx hb dL_law_190 ?_
  refine va_sld hx hb hX hbl hbA hC.2.2 (law_in1 hi hL) dL_law_191 ?_
  refine lv_aload_n hx hb dL_law_192 rfl (lv_at hl 0 rfl) ?_
  refine lv_iload_n hx hb dL_law_193 rfl (lv_at hl 3 rfl) ?_
  refine lv_iconst (v := 2) hx hb dL_law_194 (by decide) ?_
  refine lv_iadd hx hb dL_law_195 ?_
  refine va_sld hx hb hX hbl hbA hC.2.2 (law_in2 hi hL) dL_law_196 ?_
  refine ss_ki (ss_rV (E := (ss_EM D A Lm (ss_ws 174 Lc (ss_ceC Lc cI cS) σ1) cI cZ cS)) (C := RX5) (As := [.int (xs (Int32.toNatClampNeg (nI i + 1))), .int (xs (Int32.toNatClampNeg (nI i + 2)))]) (rest := [.int r]) (ss_FM F) (mX5_field l D A Lm (ss_ws 174 Lc (ss_ceC Lc cI cS) σ1) cI cZ cS τ (xs (Int32.toNatClampNeg (nI i + 1))) (xs (Int32.toNatClampNeg (nI i + 2))) _) gL_law_X5_field rfl ⟨rfl, rfl⟩ ⟨rfl, dvX5_field⟩ ⟨Nat.le_of_ble_eq_true rfl, Nat.le_of_ble_eq_true rfl⟩ (ss_preV (E := (ss_EM D A Lm (ss_ws 174 Lc (ss_ceC Lc cI cS) σ1) cI cZ cS)) F.2.2.2.2.1 F.2.2.2.2.2 hC (ss_rec (E := (ss_EM D A Lm (ss_ws 174 Lc (ss_ceC Lc cI cS) σ1) cI cZ cS)) (C := RX5) (T := TX5) (N := 16) (ci := 5) F.2.2.2.2.1 hC 0 (Nat.le_of_ble_eq_true rfl) rfl rfl) hw) rfl hl.1 rfl (Nat.le_of_ble_eq_true rfl) dL_law_197 hf) hC (fun r' τ1 H locs hC hw => ?_)
  replace hC := ss_swC hC
  refine lv_icmp_eq (tgt := 1076) hx hb dL_law_200 (by decide) (fun hc => ?_) (fun hc => absurd hw.1 hc)
  exact hk _ _ _ _ _ hC hl hw.2

set_option maxHeartbeats 4000000 in
set_option maxRecDepth 100000 in
theorem law_c1 (F : ss_F p R s m args meth c (ss_EC D A Lc (ss_ws 10 Lm (ss_ceM Lm cI cZ) τ) cI cZ cS) cL_law 4 wsL_law RL ret room_1) (hf : 600000 ≤ R.cells ∧ 7302250 ≤ R.slots) (hX : va_X b LL xs s s.heap) (hbl : b < s.heap.size) (hbA : ¬ A b) (hi : i + 4 ≤ LL) (hL : LL ≤ 2048) (hC : ss_C (ss_EC D A Lc (ss_ws 10 Lm (ss_ceM Lm cI cZ) τ) cI cZ cS) σ s H locs) (hl : lv_has ls 4 [(0, .ref b), (1, .ref (Lc 0)), (2, .ref (Lm 0)), (3, .int (nI i))]) (hw : wX4_plus (xs (Int32.toNatClampNeg (nI i + 1))) (xs (Int32.toNatClampNeg (nI i + 2))) (xs (Int32.toNatClampNeg (nI i + 3))) σ (fun r σ1 => wX5_plus (xs (Int32.toNatClampNeg (nI i + 1))) (xs (Int32.toNatClampNeg (nI i + 2))) (xs (Int32.toNatClampNeg (nI i + 3))) τ (fun r' τ1 => r = r' ∧ Inv σ1 τ1))) (hk : ∀ (σ τ : ss_S) (H : Heap) (locs : List Loc) (ls : Array Slot), ss_C (ss_EC D A Lc (ss_ws 10 Lm (ss_ceM Lm cI cZ) τ) cI cZ cS) σ s H locs → lv_has ls 4 [(0, .ref b), (1, .ref (Lc 0)), (2, .ref (Lm 0)), (3, .int (nI i))] → Inv σ τ → W p l e R s m args below meth c H locs 600000 7302250 Q (F0 m 1076 ls [])) : W p l e R s m args below meth c H locs 600000 7302250 Q (F0 m 205 ls []) := by
  have hx := F.1.1
  have hb := F.1.2.1
  refine lv_aload_n hx hb dL_law_205 rfl (lv_at hl 1 rfl) ?_
  refine lv_aload_n hx hb dL_law_206 rfl (lv_at hl 0 rfl) ?_
  refine lv_iload_n hx hb dL_law_207 rfl (lv_at hl 3 rfl) ?_
  refine lv_iconst (v := 1) hx hb dL_law_208 (by decide) ?_
  refine lv_iadd hx hb dL_law_209 ?_
  refine va_sld hx hb hX hbl hbA hC.2.2 (law_in1 hi hL) dL_law_210 ?_
  refine lv_aload_n hx hb dL_law_211 rfl (lv_at hl 0 rfl) ?_
  refine lv_iload_n hx hb dL_law_212 rfl (lv_at hl 3 rfl) ?_
  refine lv_iconst (v := 2) hx hb dL_law_213 (by decide) ?_
  refine lv_iadd hx hb dL_law_214 ?_
  refine va_sld hx hb hX hbl hbA hC.2.2 (law_in2 hi hL) dL_law_215 ?_
  refine lv_aload_n hx hb dL_law_216 rfl (lv_at hl 0 rfl) ?_
  refine lv_iload_n hx hb dL_law_217 rfl (lv_at hl 3 rfl) ?_
  refine lv_iconst (v := 3) hx hb dL_law_218 (by decide) ?_
  refine lv_iadd hx hb dL_law_219 ?_
  refine va_sld hx hb hX hbl hbA hC.2.2 (law_in3 hi hL) dL_law_220 ?_
  refine ss_ki (ss_rV (E := (ss_EC D A Lc (ss_ws 10 Lm (ss_ceM Lm cI cZ) τ) cI cZ cS)) (C := RX4) (As := [.int (xs (Int32.toNatClampNeg (nI i + 1))), .int (xs (Int32.toNatClampNeg (nI i + 2))), .int (xs (Int32.toNatClampNeg (nI i + 3)))]) (rest := []) F (mX4_plus l D A Lc (ss_ws 10 Lm (ss_ceM Lm cI cZ) τ) cI cZ cS σ (xs (Int32.toNatClampNeg (nI i + 1))) (xs (Int32.toNatClampNeg (nI i + 2))) (xs (Int32.toNatClampNeg (nI i + 3))) _) gL_law_X4_plus rfl ⟨rfl, rfl⟩ ⟨rfl, dvX4_plus⟩ ⟨Nat.le_of_ble_eq_true rfl, Nat.le_of_ble_eq_true rfl⟩ (ss_preV F.2.2.2.2.1 F.2.2.2.2.2 hC (ss_rec (C := RX4) (T := TX4) (N := 9) (ci := 4) F.2.2.2.2.1 hC 0 (Nat.le_of_ble_eq_true rfl) rfl rfl) hw) rfl hl.1 rfl (Nat.le_of_ble_eq_true rfl) dL_law_221 hf) hC (fun r σ1 H locs hC hw => ?_)
  replace hC := ss_swM hC
  refine lv_aload_n hx hb dL_law_224 rfl (lv_at hl 2 rfl) ?_
  refine lv_aload_n hx hb dL_law_225 rfl (lv_at hl 0 rfl) ?_
  refine lv_iload_n hx hb dL_law_226 rfl (lv_at hl 3 rfl) ?_
  refine lv_iconst (v := 1) hx hb dL_law_227 (by decide) ?_
  refine lv_iadd hx hb dL_law_228 ?_
  refine va_sld hx hb hX hbl hbA hC.2.2 (law_in1 hi hL) dL_law_229 ?_
  refine lv_aload_n hx hb dL_law_230 rfl (lv_at hl 0 rfl) ?_
  refine lv_iload_n hx hb dL_law_231 rfl (lv_at hl 3 rfl) ?_
  refine lv_iconst (v := 2) hx hb dL_law_232 (by decide) ?_
  refine lv_iadd hx hb dL_law_233 ?_
  refine va_sld hx hb hX hbl hbA hC.2.2 (law_in2 hi hL) dL_law_234 ?_
  refine lv_aload_n hx hb dL_law_235 rfl (lv_at hl 0 rfl) ?_
  refine lv_iload_n hx hb dL_law_236 rfl (lv_at hl 3 rfl) ?_
  refine lv_iconst (v := 3) hx hb dL_law_237 (by decide) ?_
  refine lv_iadd hx hb dL_law_238 ?_
  refine va_sld hx hb hX hbl hbA hC.2.2 (law_in3 hi hL) dL_law_239 ?_
  refine ss_ki (ss_rV (E := (ss_EM D A Lm (ss_ws 174 Lc (ss_ceC Lc cI cS) σ1) cI cZ cS)) (C := RX5) (As := [.int (xs (Int32.toNatClampNeg (nI i + 1))), .int (xs (Int32.toNatClampNeg (nI i + 2))), .int (xs (Int32.toNatClampNeg (nI i + 3)))]) (rest := [.int r]) (ss_FM F) (mX5_plus l D A Lm (ss_ws 174 Lc (ss_ceC Lc cI cS) σ1) cI cZ cS τ (xs (Int32.toNatClampNeg (nI i + 1))) (xs (Int32.toNatClampNeg (nI i + 2))) (xs (Int32.toNatClampNeg (nI i + 3))) _) gL_law_X5_plus rfl ⟨rfl, rfl⟩ ⟨rfl, dvX5_plus⟩ ⟨Nat.le_of_ble_eq_true rfl, Nat.le_of_ble_eq_true rfl⟩ (ss_preV (E := (ss_EM D A Lm (ss_ws 174 Lc (ss_ceC Lc cI cS) σ1) cI cZ cS)) F.2.2.2.2.1 F.2.2.2.2.2 hC (ss_rec (E := (ss_EM D A Lm (ss_ws 174 Lc (ss_ceC Lc cI cS) σ1) cI cZ cS)) (C := RX5) (T := TX5) (N := 16) (ci := 5) F.2.2.2.2.1 hC 0 (Nat.le_of_ble_eq_true rfl) rfl rfl) hw) rfl hl.1 rfl (Nat.le_of_ble_eq_true rfl) dL_law_240 hf) hC (fun r' τ1 H locs hC hw => ?_)
  replace hC := ss_swC hC
  refine lv_icmp_eq (tgt := 1076) hx hb dL_law_243 (by decide) (fun hc => ?_) (fun hc => absurd hw.1 hc)
  exact hk _ _ _ _ _ hC hl hw.2

set_option maxHeartbeats 4000000 in
set_option maxRecDepth 100000 in
theorem law_c2 (F : ss_F p R s m args meth c (ss_EC D A Lc (ss_ws 10 Lm (ss_ceM Lm cI cZ) τ) cI cZ cS) cL_law 4 wsL_law RL ret room_1) (hf : 600000 ≤ R.cells ∧ 7302250 ≤ R.slots) (hX : va_X b LL xs s s.heap) (hbl : b < s.heap.size) (hbA : ¬ A b) (hi : i + 4 ≤ LL) (hL : LL ≤ 2048) (hC : ss_C (ss_EC D A Lc (ss_ws 10 Lm (ss_ceM Lm cI cZ) τ) cI cZ cS) σ s H locs) (hl : lv_has ls 4 [(0, .ref b), (1, .ref (Lc 0)), (2, .ref (Lm 0)), (3, .int (nI i))]) (hw : wX4_times (xs (Int32.toNatClampNeg (nI i + 1))) (xs (Int32.toNatClampNeg (nI i + 2))) σ (fun r σ1 => wX5_times (xs (Int32.toNatClampNeg (nI i + 1))) (xs (Int32.toNatClampNeg (nI i + 2))) τ (fun r' τ1 => r = r' ∧ Inv σ1 τ1))) (hk : ∀ (σ τ : ss_S) (H : Heap) (locs : List Loc) (ls : Array Slot), ss_C (ss_EC D A Lc (ss_ws 10 Lm (ss_ceM Lm cI cZ) τ) cI cZ cS) σ s H locs → lv_has ls 4 [(0, .ref b), (1, .ref (Lc 0)), (2, .ref (Lm 0)), (3, .int (nI i))] → Inv σ τ → W p l e R s m args below meth c H locs 600000 7302250 Q (F0 m 1076 ls [])) : W p l e R s m args below meth c H locs 600000 7302250 Q (F0 m 248 ls []) := by
  have hx := F.1.1
  have hb := F.1.2.1
  refine lv_aload_n hx hb dL_law_248 rfl (lv_at hl 1 rfl) ?_
  refine lv_aload_n hx hb dL_law_249 rfl (lv_at hl 0 rfl) ?_
  refine lv_iload_n hx hb dL_law_250 rfl (lv_at hl 3 rfl) ?_
  refine lv_iconst (v := 1) hx hb dL_law_251 (by decide) ?_
  refine lv_iadd hx hb dL_law_252 ?_
  refine va_sld hx hb hX hbl hbA hC.2.2 (law_in1 hi hL) dL_law_253 ?_
  refine lv_aload_n hx hb dL_law_254 rfl (lv_at hl 0 rfl) ?_
  refine lv_iload_n hx hb dL_law_255 rfl (lv_at hl 3 rfl) ?_
  refine lv_iconst (v := 2) hx hb dL_law_256 (by decide) ?_
  refine lv_iadd hx hb dL_law_257 ?_
  refine va_sld hx hb hX hbl hbA hC.2.2 (law_in2 hi hL) dL_law_258 ?_
  refine ss_ki (ss_rV (E := (ss_EC D A Lc (ss_ws 10 Lm (ss_ceM Lm cI cZ) τ) cI cZ cS)) (C := RX4) (As := [.int (xs (Int32.toNatClampNeg (nI i + 1))), .int (xs (Int32.toNatClampNeg (nI i + 2)))]) (rest := []) F (mX4_times l D A Lc (ss_ws 10 Lm (ss_ceM Lm cI cZ) τ) cI cZ cS σ (xs (Int32.toNatClampNeg (nI i + 1))) (xs (Int32.toNatClampNeg (nI i + 2))) _) gL_law_X4_times rfl ⟨rfl, rfl⟩ ⟨rfl, dvX4_times⟩ ⟨Nat.le_of_ble_eq_true rfl, Nat.le_of_ble_eq_true rfl⟩ (ss_preV F.2.2.2.2.1 F.2.2.2.2.2 hC (ss_rec (C := RX4) (T := TX4) (N := 9) (ci := 4) F.2.2.2.2.1 hC 0 (Nat.le_of_ble_eq_true rfl) rfl rfl) hw) rfl hl.1 rfl (Nat.le_of_ble_eq_true rfl) dL_law_259 hf) hC (fun r σ1 H locs hC hw => ?_)
  replace hC := ss_swM hC
  refine lv_aload_n hx hb dL_law_262 rfl (lv_at hl 2 rfl) ?_
  refine lv_aload_n hx hb dL_law_263 rfl (lv_at hl 0 rfl) ?_
  refine lv_iload_n hx hb dL_law_264 rfl (lv_at hl 3 rfl) ?_
  refine lv_iconst (v := 1) hx hb dL_law_265 (by decide) ?_
  refine lv_iadd hx hb dL_law_266 ?_
  refine va_sld hx hb hX hbl hbA hC.2.2 (law_in1 hi hL) dL_law_267 ?_
  refine lv_aload_n hx hb dL_law_268 rfl (lv_at hl 0 rfl) ?_
  refine lv_iload_n hx hb dL_law_269 rfl (lv_at hl 3 rfl) ?_
  refine lv_iconst (v := 2) hx hb dL_law_270 (by decide) ?_
  refine lv_iadd hx hb dL_law_271 ?_
  refine va_sld hx hb hX hbl hbA hC.2.2 (law_in2 hi hL) dL_law_272 ?_
  refine ss_ki (ss_rV (E := (ss_EM D A Lm (ss_ws 174 Lc (ss_ceC Lc cI cS) σ1) cI cZ cS)) (C := RX5) (As := [.int (xs (Int32.toNatClampNeg (nI i + 1))), .int (xs (Int32.toNatClampNeg (nI i + 2)))]) (rest := [.int r]) (ss_FM F) (mX5_times l D A Lm (ss_ws 174 Lc (ss_ceC Lc cI cS) σ1) cI cZ cS τ (xs (Int32.toNatClampNeg (nI i + 1))) (xs (Int32.toNatClampNeg (nI i + 2))) _) gL_law_X5_times rfl ⟨rfl, rfl⟩ ⟨rfl, dvX5_times⟩ ⟨Nat.le_of_ble_eq_true rfl, Nat.le_of_ble_eq_true rfl⟩ (ss_preV (E := (ss_EM D A Lm (ss_ws 174 Lc (ss_ceC Lc cI cS) σ1) cI cZ cS)) F.2.2.2.2.1 F.2.2.2.2.2 hC (ss_rec (E := (ss_EM D A Lm (ss_ws 174 Lc (ss_ceC Lc cI cS) σ1) cI cZ cS)) (C := RX5) (T := TX5) (N := 16) (ci := 5) F.2.2.2.2.1 hC 0 (Nat.le_of_ble_eq_true rfl) rfl rfl) hw) rfl hl.1 rfl (Nat.le_of_ble_eq_true rfl) dL_law_273 hf) hC (fun r' τ1 H locs hC hw => ?_)
  replace hC := ss_swC hC
  refine lv_icmp_eq (tgt := 1076) hx hb dL_law_276 (by decide) (fun hc => ?_) (fun hc => absurd hw.1 hc)
  exact hk _ _ _ _ _ hC hl hw.2

set_option maxHeartbeats 4000000 in
set_option maxRecDepth 100000 in
theorem law_c3 (F : ss_F p R s m args meth c (ss_EC D A Lc (ss_ws 10 Lm (ss_ceM Lm cI cZ) τ) cI cZ cS) cL_law 4 wsL_law RL ret room_1) (hf : 600000 ≤ R.cells ∧ 7302250 ≤ R.slots) (hX : va_X b LL xs s s.heap) (hbl : b < s.heap.size) (hbA : ¬ A b) (hi : i + 4 ≤ LL) (hL : LL ≤ 2048) (hC : ss_C (ss_EC D A Lc (ss_ws 10 Lm (ss_ceM Lm cI cZ) τ) cI cZ cS) σ s H locs) (hl : lv_has ls 4 [(0, .ref b), (1, .ref (Lc 0)), (2, .ref (Lm 0)), (3, .int (nI i))]) (hw : wX4_add (xs (Int32.toNatClampNeg (nI i + 1))) (xs (Int32.toNatClampNeg (nI i + 2))) σ (fun r σ1 => wX5_add (xs (Int32.toNatClampNeg (nI i + 1))) (xs (Int32.toNatClampNeg (nI i + 2))) τ (fun r' τ1 => r = r' ∧ Inv σ1 τ1))) (hk : ∀ (σ τ : ss_S) (H : Heap) (locs : List Loc) (ls : Array Slot), ss_C (ss_EC D A Lc (ss_ws 10 Lm (ss_ceM Lm cI cZ) τ) cI cZ cS) σ s H locs → lv_has ls 4 [(0, .ref b), (1, .ref (Lc 0)), (2, .ref (Lm 0)), (3, .int (nI i))] → Inv σ τ → W p l e R s m args below meth c H locs 600000 7302250 Q (F0 m 1076 ls [])) : W p l e R s m args below meth c H locs 600000 7302250 Q (F0 m 281 ls []) := by
  have hx := F.1.1
  have hb := F.1.2.1
  refine lv_aload_n hx hb dL_law_281 rfl (lv_at hl 1 rfl) ?_
  refine lv_aload_n hx hb dL_law_282 rfl (lv_at hl 0 rfl) ?_
  refine lv_iload_n hx hb dL_law_283 rfl (lv_at hl 3 rfl) ?_
  refine lv_iconst (v := 1) hx hb dL_law_284 (by decide) ?_
  refine lv_iadd hx hb dL_law_285 ?_
  refine va_sld hx hb hX hbl hbA hC.2.2 (law_in1 hi hL) dL_law_286 ?_
  refine lv_aload_n hx hb dL_law_287 rfl (lv_at hl 0 rfl) ?_
  refine lv_iload_n hx hb dL_law_288 rfl (lv_at hl 3 rfl) ?_
  refine lv_iconst (v := 2) hx hb dL_law_289 (by decide) ?_
  refine lv_iadd hx hb dL_law_290 ?_
  refine va_sld hx hb hX hbl hbA hC.2.2 (law_in2 hi hL) dL_law_291 ?_
  refine ss_ki (ss_rV (E := (ss_EC D A Lc (ss_ws 10 Lm (ss_ceM Lm cI cZ) τ) cI cZ cS)) (C := RX4) (As := [.int (xs (Int32.toNatClampNeg (nI i + 1))), .int (xs (Int32.toNatClampNeg (nI i + 2)))]) (rest := []) F (mX4_add l D A Lc (ss_ws 10 Lm (ss_ceM Lm cI cZ) τ) cI cZ cS σ (xs (Int32.toNatClampNeg (nI i + 1))) (xs (Int32.toNatClampNeg (nI i + 2))) _) gL_law_X4_add rfl ⟨rfl, rfl⟩ ⟨rfl, dvX4_add⟩ ⟨Nat.le_of_ble_eq_true rfl, Nat.le_of_ble_eq_true rfl⟩ (ss_preV F.2.2.2.2.1 F.2.2.2.2.2 hC (ss_rec (C := RX4) (T := TX4) (N := 9) (ci := 4) F.2.2.2.2.1 hC 0 (Nat.le_of_ble_eq_true rfl) rfl rfl) hw) rfl hl.1 rfl (Nat.le_of_ble_eq_true rfl) dL_law_292 hf) hC (fun r σ1 H locs hC hw => ?_)
  replace hC := ss_swM hC
  refine lv_aload_n hx hb dL_law_295 rfl (lv_at hl 2 rfl) ?_
  refine lv_aload_n hx hb dL_law_296 rfl (lv_at hl 0 rfl) ?_
  refine lv_iload_n hx hb dL_law_297 rfl (lv_at hl 3 rfl) ?_
  refine lv_iconst (v := 1) hx hb dL_law_298 (by decide) ?_
  refine lv_iadd hx hb dL_law_299 ?_
  refine va_sld hx hb hX hbl hbA hC.2.2 (law_in1 hi hL) dL_law_300 ?_
  refine lv_aload_n hx hb dL_law_301 rfl (lv_at hl 0 rfl) ?_
  refine lv_iload_n hx hb dL_law_302 rfl (lv_at hl 3 rfl) ?_
  refine lv_iconst (v := 2) hx hb dL_law_303 (by decide) ?_
  refine lv_iadd hx hb dL_law_304 ?_
  refine va_sld hx hb hX hbl hbA hC.2.2 (law_in2 hi hL) dL_law_305 ?_
  refine ss_ki (ss_rV (E := (ss_EM D A Lm (ss_ws 174 Lc (ss_ceC Lc cI cS) σ1) cI cZ cS)) (C := RX5) (As := [.int (xs (Int32.toNatClampNeg (nI i + 1))), .int (xs (Int32.toNatClampNeg (nI i + 2)))]) (rest := [.int r]) (ss_FM F) (mX5_add l D A Lm (ss_ws 174 Lc (ss_ceC Lc cI cS) σ1) cI cZ cS τ (xs (Int32.toNatClampNeg (nI i + 1))) (xs (Int32.toNatClampNeg (nI i + 2))) _) gL_law_X5_add rfl ⟨rfl, rfl⟩ ⟨rfl, dvX5_add⟩ ⟨Nat.le_of_ble_eq_true rfl, Nat.le_of_ble_eq_true rfl⟩ (ss_preV (E := (ss_EM D A Lm (ss_ws 174 Lc (ss_ceC Lc cI cS) σ1) cI cZ cS)) F.2.2.2.2.1 F.2.2.2.2.2 hC (ss_rec (E := (ss_EM D A Lm (ss_ws 174 Lc (ss_ceC Lc cI cS) σ1) cI cZ cS)) (C := RX5) (T := TX5) (N := 16) (ci := 5) F.2.2.2.2.1 hC 0 (Nat.le_of_ble_eq_true rfl) rfl rfl) hw) rfl hl.1 rfl (Nat.le_of_ble_eq_true rfl) dL_law_306 hf) hC (fun r' τ1 H locs hC hw => ?_)
  replace hC := ss_swC hC
  refine lv_icmp_eq (tgt := 1076) hx hb dL_law_309 (by decide) (fun hc => ?_) (fun hc => absurd hw.1 hc)
  exact hk _ _ _ _ _ hC hl hw.2

set_option maxHeartbeats 4000000 in
set_option maxRecDepth 100000 in
theorem law_c4 (F : ss_F p R s m args meth c (ss_EC D A Lc (ss_ws 10 Lm (ss_ceM Lm cI cZ) τ) cI cZ cS) cL_law 4 wsL_law RL ret room_1) (hf : 600000 ≤ R.cells ∧ 7302250 ≤ R.slots) (hX : va_X b LL xs s s.heap) (hbl : b < s.heap.size) (hbA : ¬ A b) (hi : i + 4 ≤ LL) (hL : LL ≤ 2048) (hC : ss_C (ss_EC D A Lc (ss_ws 10 Lm (ss_ceM Lm cI cZ) τ) cI cZ cS) σ s H locs) (hl : lv_has ls 4 [(0, .ref b), (1, .ref (Lc 0)), (2, .ref (Lm 0)), (3, .int (nI i))]) (hw : wX4_clear (xs (Int32.toNatClampNeg (nI i + 1))) σ (fun r σ1 => wX5_clear (xs (Int32.toNatClampNeg (nI i + 1))) τ (fun r' τ1 => r = r' ∧ Inv σ1 τ1))) (hk : ∀ (σ τ : ss_S) (H : Heap) (locs : List Loc) (ls : Array Slot), ss_C (ss_EC D A Lc (ss_ws 10 Lm (ss_ceM Lm cI cZ) τ) cI cZ cS) σ s H locs → lv_has ls 4 [(0, .ref b), (1, .ref (Lc 0)), (2, .ref (Lm 0)), (3, .int (nI i))] → Inv σ τ → W p l e R s m args below meth c H locs 600000 7302250 Q (F0 m 1076 ls [])) : W p l e R s m args below meth c H locs 600000 7302250 Q (F0 m 314 ls []) := by
  have hx := F.1.1
  have hb := F.1.2.1
  refine lv_aload_n hx hb dL_law_314 rfl (lv_at hl 1 rfl) ?_
  refine lv_aload_n hx hb dL_law_315 rfl (lv_at hl 0 rfl) ?_
  refine lv_iload_n hx hb dL_law_316 rfl (lv_at hl 3 rfl) ?_
  refine lv_iconst (v := 1) hx hb dL_law_317 (by decide) ?_
  refine lv_iadd hx hb dL_law_318 ?_
  refine va_sld hx hb hX hbl hbA hC.2.2 (law_in1 hi hL) dL_law_319 ?_
  refine ss_ki (ss_rV (E := (ss_EC D A Lc (ss_ws 10 Lm (ss_ceM Lm cI cZ) τ) cI cZ cS)) (C := RX4) (As := [.int (xs (Int32.toNatClampNeg (nI i + 1)))]) (rest := []) F (mX4_clear l D A Lc (ss_ws 10 Lm (ss_ceM Lm cI cZ) τ) cI cZ cS σ (xs (Int32.toNatClampNeg (nI i + 1))) _) gL_law_X4_clear rfl ⟨rfl, rfl⟩ ⟨rfl, dvX4_clear⟩ ⟨Nat.le_of_ble_eq_true rfl, Nat.le_of_ble_eq_true rfl⟩ (ss_preV F.2.2.2.2.1 F.2.2.2.2.2 hC (ss_rec (C := RX4) (T := TX4) (N := 9) (ci := 4) F.2.2.2.2.1 hC 0 (Nat.le_of_ble_eq_true rfl) rfl rfl) hw) rfl hl.1 rfl (Nat.le_of_ble_eq_true rfl) dL_law_320 hf) hC (fun r σ1 H locs hC hw => ?_)
  replace hC := ss_swM hC
  refine lv_aload_n hx hb dL_law_323 rfl (lv_at hl 2 rfl) ?_
  refine lv_aload_n hx hb dL_law_324 rfl (lv_at hl 0 rfl) ?_
  refine lv_iload_n hx hb dL_law_325 rfl (lv_at hl 3 rfl) ?_
  refine lv_iconst (v := 1) hx hb dL_law_326 (by decide) ?_
  refine lv_iadd hx hb dL_law_327 ?_
  refine va_sld hx hb hX hbl hbA hC.2.2 (law_in1 hi hL) dL_law_328 ?_
  refine ss_ki (ss_rV (E := (ss_EM D A Lm (ss_ws 174 Lc (ss_ceC Lc cI cS) σ1) cI cZ cS)) (C := RX5) (As := [.int (xs (Int32.toNatClampNeg (nI i + 1)))]) (rest := [.int r]) (ss_FM F) (mX5_clear l D A Lm (ss_ws 174 Lc (ss_ceC Lc cI cS) σ1) cI cZ cS τ (xs (Int32.toNatClampNeg (nI i + 1))) _) gL_law_X5_clear rfl ⟨rfl, rfl⟩ ⟨rfl, dvX5_clear⟩ ⟨Nat.le_of_ble_eq_true rfl, Nat.le_of_ble_eq_true rfl⟩ (ss_preV (E := (ss_EM D A Lm (ss_ws 174 Lc (ss_ceC Lc cI cS) σ1) cI cZ cS)) F.2.2.2.2.1 F.2.2.2.2.2 hC (ss_rec (E := (ss_EM D A Lm (ss_ws 174 Lc (ss_ceC Lc cI cS) σ1) cI cZ cS)) (C := RX5) (T := TX5) (N := 16) (ci := 5) F.2.2.2.2.1 hC 0 (Nat.le_of_ble_eq_true rfl) rfl rfl) hw) rfl hl.1 rfl (Nat.le_of_ble_eq_true rfl) dL_law_329 hf) hC (fun r' τ1 H locs hC hw => ?_)
  replace hC := ss_swC hC
  refine lv_icmp_eq (tgt := 1076) hx hb dL_law_332 (by decide) (fun hc => ?_) (fun hc => absurd hw.1 hc)
  exact hk _ _ _ _ _ hC hl hw.2

set_option maxHeartbeats 4000000 in
set_option maxRecDepth 100000 in
theorem law_c5 (F : ss_F p R s m args meth c (ss_EC D A Lc (ss_ws 10 Lm (ss_ceM Lm cI cZ) τ) cI cZ cS) cL_law 4 wsL_law RL ret room_1) (hf : 600000 ≤ R.cells ∧ 7302250 ≤ R.slots) (hX : va_X b LL xs s s.heap) (hbl : b < s.heap.size) (hbA : ¬ A b) (hi : i + 4 ≤ LL) (hL : LL ≤ 2048) (hC : ss_C (ss_EC D A Lc (ss_ws 10 Lm (ss_ceM Lm cI cZ) τ) cI cZ cS) σ s H locs) (hl : lv_has ls 4 [(0, .ref b), (1, .ref (Lc 0)), (2, .ref (Lm 0)), (3, .int (nI i))]) (hw : wX4_dim (xs (Int32.toNatClampNeg (nI i + 1))) σ (fun r σ1 => wX5_dim (xs (Int32.toNatClampNeg (nI i + 1))) τ (fun r' τ1 => r = r' ∧ Inv σ1 τ1))) (hk : ∀ (σ τ : ss_S) (H : Heap) (locs : List Loc) (ls : Array Slot), ss_C (ss_EC D A Lc (ss_ws 10 Lm (ss_ceM Lm cI cZ) τ) cI cZ cS) σ s H locs → lv_has ls 4 [(0, .ref b), (1, .ref (Lc 0)), (2, .ref (Lm 0)), (3, .int (nI i))] → Inv σ τ → W p l e R s m args below meth c H locs 600000 7302250 Q (F0 m 1076 ls [])) : W p l e R s m args below meth c H locs 600000 7302250 Q (F0 m 337 ls []) := by
  have hx := F.1.1
  have hb := F.1.2.1
  refine lv_aload_n hx hb dL_law_337 rfl (lv_at hl 1 rfl) ?_
  refine lv_aload_n hx hb dL_law_338 rfl (lv_at hl 0 rfl) ?_
  refine lv_iload_n hx hb dL_law_339 rfl (lv_at hl 3 rfl) ?_
  refine lv_iconst (v := 1) hx hb dL_law_340 (by decide) ?_
  refine lv_iadd hx hb dL_law_341 ?_
  refine va_sld hx hb hX hbl hbA hC.2.2 (law_in1 hi hL) dL_law_342 ?_
  refine ss_ki (ss_rV (E := (ss_EC D A Lc (ss_ws 10 Lm (ss_ceM Lm cI cZ) τ) cI cZ cS)) (C := RX4) (As := [.int (xs (Int32.toNatClampNeg (nI i + 1)))]) (rest := []) F (mX4_dim l D A Lc (ss_ws 10 Lm (ss_ceM Lm cI cZ) τ) cI cZ cS σ (xs (Int32.toNatClampNeg (nI i + 1))) _) gL_law_X4_dim rfl ⟨rfl, rfl⟩ ⟨rfl, dvX4_dim⟩ ⟨Nat.le_of_ble_eq_true rfl, Nat.le_of_ble_eq_true rfl⟩ (ss_preV F.2.2.2.2.1 F.2.2.2.2.2 hC (ss_rec (C := RX4) (T := TX4) (N := 9) (ci := 4) F.2.2.2.2.1 hC 0 (Nat.le_of_ble_eq_true rfl) rfl rfl) hw) rfl hl.1 rfl (Nat.le_of_ble_eq_true rfl) dL_law_343 hf) hC (fun r σ1 H locs hC hw => ?_)
  replace hC := ss_swM hC
  refine lv_aload_n hx hb dL_law_346 rfl (lv_at hl 2 rfl) ?_
  refine lv_aload_n hx hb dL_law_347 rfl (lv_at hl 0 rfl) ?_
  refine lv_iload_n hx hb dL_law_348 rfl (lv_at hl 3 rfl) ?_
  refine lv_iconst (v := 1) hx hb dL_law_349 (by decide) ?_
  refine lv_iadd hx hb dL_law_350 ?_
  refine va_sld hx hb hX hbl hbA hC.2.2 (law_in1 hi hL) dL_law_351 ?_
  refine ss_ki (ss_rV (E := (ss_EM D A Lm (ss_ws 174 Lc (ss_ceC Lc cI cS) σ1) cI cZ cS)) (C := RX5) (As := [.int (xs (Int32.toNatClampNeg (nI i + 1)))]) (rest := [.int r]) (ss_FM F) (mX5_dim l D A Lm (ss_ws 174 Lc (ss_ceC Lc cI cS) σ1) cI cZ cS τ (xs (Int32.toNatClampNeg (nI i + 1))) _) gL_law_X5_dim rfl ⟨rfl, rfl⟩ ⟨rfl, dvX5_dim⟩ ⟨Nat.le_of_ble_eq_true rfl, Nat.le_of_ble_eq_true rfl⟩ (ss_preV (E := (ss_EM D A Lm (ss_ws 174 Lc (ss_ceC Lc cI cS) σ1) cI cZ cS)) F.2.2.2.2.1 F.2.2.2.2.2 hC (ss_rec (E := (ss_EM D A Lm (ss_ws 174 Lc (ss_ceC Lc cI cS) σ1) cI cZ cS)) (C := RX5) (T := TX5) (N := 16) (ci := 5) F.2.2.2.2.1 hC 0 (Nat.le_of_ble_eq_true rfl) rfl rfl) hw) rfl hl.1 rfl (Nat.le_of_ble_eq_true rfl) dL_law_352 hf) hC (fun r' τ1 H locs hC hw => ?_)
  replace hC := ss_swC hC
  refine lv_icmp_eq (tgt := 1076) hx hb dL_law_355 (by decide) (fun hc => ?_) (fun hc => absurd hw.1 hc)
  exact hk _ _ _ _ _ hC hl hw.2

set_option maxHeartbeats 4000000 in
set_option maxRecDepth 100000 in
theorem law_c6 (F : ss_F p R s m args meth c (ss_EC D A Lc (ss_ws 10 Lm (ss_ceM Lm cI cZ) τ) cI cZ cS) cL_law 4 wsL_law RL ret room_1) (hf : 600000 ≤ R.cells ∧ 7302250 ≤ R.slots) (hX : va_X b LL xs s s.heap) (hbl : b < s.heap.size) (hbA : ¬ A b) (hi : i + 4 ≤ LL) (hL : LL ≤ 2048) (hC : ss_C (ss_EC D A Lc (ss_ws 10 Lm (ss_ceM Lm cI cZ) τ) cI cZ cS) σ s H locs) (hl : lv_has ls 4 [(0, .ref b), (1, .ref (Lc 0)), (2, .ref (Lm 0)), (3, .int (nI i))]) (hw : wX4_row (xs (Int32.toNatClampNeg (nI i + 1))) (xs (Int32.toNatClampNeg (nI i + 2))) σ (fun r σ1 => wX5_row (xs (Int32.toNatClampNeg (nI i + 1))) (xs (Int32.toNatClampNeg (nI i + 2))) τ (fun r' τ1 => r = r' ∧ Inv σ1 τ1))) (hk : ∀ (σ τ : ss_S) (H : Heap) (locs : List Loc) (ls : Array Slot), ss_C (ss_EC D A Lc (ss_ws 10 Lm (ss_ceM Lm cI cZ) τ) cI cZ cS) σ s H locs → lv_has ls 4 [(0, .ref b), (1, .ref (Lc 0)), (2, .ref (Lm 0)), (3, .int (nI i))] → Inv σ τ → W p l e R s m args below meth c H locs 600000 7302250 Q (F0 m 1076 ls [])) : W p l e R s m args below meth c H locs 600000 7302250 Q (F0 m 360 ls []) := by
  have hx := F.1.1
  have hb := F.1.2.1
  refine lv_aload_n hx hb dL_law_360 rfl (lv_at hl 1 rfl) ?_
  refine lv_aload_n hx hb dL_law_361 rfl (lv_at hl 0 rfl) ?_
  refine lv_iload_n hx hb dL_law_362 rfl (lv_at hl 3 rfl) ?_
  refine lv_iconst (v := 1) hx hb dL_law_363 (by decide) ?_
  refine lv_iadd hx hb dL_law_364 ?_
  refine va_sld hx hb hX hbl hbA hC.2.2 (law_in1 hi hL) dL_law_365 ?_
  refine lv_aload_n hx hb dL_law_366 rfl (lv_at hl 0 rfl) ?_
  refine lv_iload_n hx hb dL_law_367 rfl (lv_at hl 3 rfl) ?_
  refine lv_iconst (v := 2) hx hb dL_law_368 (by decide) ?_
  refine lv_iadd hx hb dL_law_369 ?_
  refine va_sld hx hb hX hbl hbA hC.2.2 (law_in2 hi hL) dL_law_370 ?_
  refine ss_ki (ss_rV (E := (ss_EC D A Lc (ss_ws 10 Lm (ss_ceM Lm cI cZ) τ) cI cZ cS)) (C := RX4) (As := [.int (xs (Int32.toNatClampNeg (nI i + 1))), .int (xs (Int32.toNatClampNeg (nI i + 2)))]) (rest := []) F (mX4_row l D A Lc (ss_ws 10 Lm (ss_ceM Lm cI cZ) τ) cI cZ cS σ (xs (Int32.toNatClampNeg (nI i + 1))) (xs (Int32.toNatClampNeg (nI i + 2))) _) gL_law_X4_row rfl ⟨rfl, rfl⟩ ⟨rfl, dvX4_row⟩ ⟨Nat.le_of_ble_eq_true rfl, Nat.le_of_ble_eq_true rfl⟩ (ss_preV F.2.2.2.2.1 F.2.2.2.2.2 hC (ss_rec (C := RX4) (T := TX4) (N := 9) (ci := 4) F.2.2.2.2.1 hC 0 (Nat.le_of_ble_eq_true rfl) rfl rfl) hw) rfl hl.1 rfl (Nat.le_of_ble_eq_true rfl) dL_law_371 hf) hC (fun r σ1 H locs hC hw => ?_)
  replace hC := ss_swM hC
  refine lv_aload_n hx hb dL_law_374 rfl (lv_at hl 2 rfl) ?_
  refine lv_aload_n hx hb dL_law_375 rfl (lv_at hl 0 rfl) ?_
  refine lv_iload_n hx hb dL_law_376 rfl (lv_at hl 3 rfl) ?_
  refine lv_iconst (v := 1) hx hb dL_law_377 (by decide) ?_
  refine lv_iadd hx hb dL_law_378 ?_
  refine va_sld hx hb hX hbl hbA hC.2.2 (law_in1 hi hL) dL_law_379 ?_
  refine lv_aload_n hx hb dL_law_380 rfl (lv_at hl 0 rfl) ?_
  refine lv_iload_n hx hb dL_law_381 rfl (lv_at hl 3 rfl) ?_
  refine lv_iconst (v := 2) hx hb dL_law_382 (by decide) ?_
  refine lv_iadd hx hb dL_law_383 ?_
  refine va_sld hx hb hX hbl hbA hC.2.2 (law_in2 hi hL) dL_law_384 ?_
  refine ss_ki (ss_rV (E := (ss_EM D A Lm (ss_ws 174 Lc (ss_ceC Lc cI cS) σ1) cI cZ cS)) (C := RX5) (As := [.int (xs (Int32.toNatClampNeg (nI i + 1))), .int (xs (Int32.toNatClampNeg (nI i + 2)))]) (rest := [.int r]) (ss_FM F) (mX5_row l D A Lm (ss_ws 174 Lc (ss_ceC Lc cI cS) σ1) cI cZ cS τ (xs (Int32.toNatClampNeg (nI i + 1))) (xs (Int32.toNatClampNeg (nI i + 2))) _) gL_law_X5_row rfl ⟨rfl, rfl⟩ ⟨rfl, dvX5_row⟩ ⟨Nat.le_of_ble_eq_true rfl, Nat.le_of_ble_eq_true rfl⟩ (ss_preV (E := (ss_EM D A Lm (ss_ws 174 Lc (ss_ceC Lc cI cS) σ1) cI cZ cS)) F.2.2.2.2.1 F.2.2.2.2.2 hC (ss_rec (E := (ss_EM D A Lm (ss_ws 174 Lc (ss_ceC Lc cI cS) σ1) cI cZ cS)) (C := RX5) (T := TX5) (N := 16) (ci := 5) F.2.2.2.2.1 hC 0 (Nat.le_of_ble_eq_true rfl) rfl rfl) hw) rfl hl.1 rfl (Nat.le_of_ble_eq_true rfl) dL_law_385 hf) hC (fun r' τ1 H locs hC hw => ?_)
  replace hC := ss_swC hC
  refine lv_icmp_eq (tgt := 1076) hx hb dL_law_388 (by decide) (fun hc => ?_) (fun hc => absurd hw.1 hc)
  exact hk _ _ _ _ _ hC hl hw.2

set_option maxHeartbeats 4000000 in
set_option maxRecDepth 100000 in
theorem law_c7 (F : ss_F p R s m args meth c (ss_EC D A Lc (ss_ws 10 Lm (ss_ceM Lm cI cZ) τ) cI cZ cS) cL_law 4 wsL_law RL ret room_1) (hf : 600000 ≤ R.cells ∧ 7302250 ≤ R.slots) (hX : va_X b LL xs s s.heap) (hbl : b < s.heap.size) (hbA : ¬ A b) (hi : i + 4 ≤ LL) (hL : LL ≤ 2048) (hC : ss_C (ss_EC D A Lc (ss_ws 10 Lm (ss_ceM Lm cI cZ) τ) cI cZ cS) σ s H locs) (hl : lv_has ls 4 [(0, .ref b), (1, .ref (Lc 0)), (2, .ref (Lm 0)), (3, .int (nI i))]) (hw : wX4_join (xs (Int32.toNatClampNeg (nI i + 1))) (xs (Int32.toNatClampNeg (nI i + 2))) (xs (Int32.toNatClampNeg (nI i + 3))) σ (fun r σ1 => wX5_join (xs (Int32.toNatClampNeg (nI i + 1))) (xs (Int32.toNatClampNeg (nI i + 2))) (xs (Int32.toNatClampNeg (nI i + 3))) τ (fun r' τ1 => r = r' ∧ Inv σ1 τ1))) (hk : ∀ (σ τ : ss_S) (H : Heap) (locs : List Loc) (ls : Array Slot), ss_C (ss_EC D A Lc (ss_ws 10 Lm (ss_ceM Lm cI cZ) τ) cI cZ cS) σ s H locs → lv_has ls 4 [(0, .ref b), (1, .ref (Lc 0)), (2, .ref (Lm 0)), (3, .int (nI i))] → Inv σ τ → W p l e R s m args below meth c H locs 600000 7302250 Q (F0 m 1076 ls [])) : W p l e R s m args below meth c H locs 600000 7302250 Q (F0 m 393 ls []) := by
  have hx := F.1.1
  have hb := F.1.2.1
  refine lv_aload_n hx hb dL_law_393 rfl (lv_at hl 1 rfl) ?_
  refine lv_aload_n hx hb dL_law_394 rfl (lv_at hl 0 rfl) ?_
  refine lv_iload_n hx hb dL_law_395 rfl (lv_at hl 3 rfl) ?_
  refine lv_iconst (v := 1) hx hb dL_law_396 (by decide) ?_
  refine lv_iadd hx hb dL_law_397 ?_
  refine va_sld hx hb hX hbl hbA hC.2.2 (law_in1 hi hL) dL_law_398 ?_
  refine lv_aload_n hx hb dL_law_399 rfl (lv_at hl 0 rfl) ?_
  refine lv_iload_n hx hb dL_law_400 rfl (lv_at hl 3 rfl) ?_
  refine lv_iconst (v := 2) hx hb dL_law_401 (by decide) ?_
  refine lv_iadd hx hb dL_law_402 ?_
  refine va_sld hx hb hX hbl hbA hC.2.2 (law_in2 hi hL) dL_law_403 ?_
  refine lv_aload_n hx hb dL_law_404 rfl (lv_at hl 0 rfl) ?_
  refine lv_iload_n hx hb dL_law_405 rfl (lv_at hl 3 rfl) ?_
  refine lv_iconst (v := 3) hx hb dL_law_406 (by decide) ?_
  refine lv_iadd hx hb dL_law_407 ?_
  refine va_sld hx hb hX hbl hbA hC.2.2 (law_in3 hi hL) dL_law_408 ?_
  refine ss_ki (ss_rV (E := (ss_EC D A Lc (ss_ws 10 Lm (ss_ceM Lm cI cZ) τ) cI cZ cS)) (C := RX4) (As := [.int (xs (Int32.toNatClampNeg (nI i + 1))), .int (xs (Int32.toNatClampNeg (nI i + 2))), .int (xs (Int32.toNatClampNeg (nI i + 3)))]) (rest := []) F (mX4_join l D A Lc (ss_ws 10 Lm (ss_ceM Lm cI cZ) τ) cI cZ cS σ (xs (Int32.toNatClampNeg (nI i + 1))) (xs (Int32.toNatClampNeg (nI i + 2))) (xs (Int32.toNatClampNeg (nI i + 3))) _) gL_law_X4_join rfl ⟨rfl, rfl⟩ ⟨rfl, dvX4_join⟩ ⟨Nat.le_of_ble_eq_true rfl, Nat.le_of_ble_eq_true rfl⟩ (ss_preV F.2.2.2.2.1 F.2.2.2.2.2 hC (ss_rec (C := RX4) (T := TX4) (N := 9) (ci := 4) F.2.2.2.2.1 hC 0 (Nat.le_of_ble_eq_true rfl) rfl rfl) hw) rfl hl.1 rfl (Nat.le_of_ble_eq_true rfl) dL_law_409 hf) hC (fun r σ1 H locs hC hw => ?_)
  replace hC := ss_swM hC
  refine lv_aload_n hx hb dL_law_412 rfl (lv_at hl 2 rfl) ?_
  refine lv_aload_n hx hb dL_law_413 rfl (lv_at hl 0 rfl) ?_
  refine lv_iload_n hx hb dL_law_414 rfl (lv_at hl 3 rfl) ?_
  refine lv_iconst (v := 1) hx hb dL_law_415 (by decide) ?_
  refine lv_iadd hx hb dL_law_416 ?_
  refine va_sld hx hb hX hbl hbA hC.2.2 (law_in1 hi hL) dL_law_417 ?_
  refine lv_aload_n hx hb dL_law_418 rfl (lv_at hl 0 rfl) ?_
  refine lv_iload_n hx hb dL_law_419 rfl (lv_at hl 3 rfl) ?_
  refine lv_iconst (v := 2) hx hb dL_law_420 (by decide) ?_
  refine lv_iadd hx hb dL_law_421 ?_
  refine va_sld hx hb hX hbl hbA hC.2.2 (law_in2 hi hL) dL_law_422 ?_
  refine lv_aload_n hx hb dL_law_423 rfl (lv_at hl 0 rfl) ?_
  refine lv_iload_n hx hb dL_law_424 rfl (lv_at hl 3 rfl) ?_
  refine lv_iconst (v := 3) hx hb dL_law_425 (by decide) ?_
  refine lv_iadd hx hb dL_law_426 ?_
  refine va_sld hx hb hX hbl hbA hC.2.2 (law_in3 hi hL) dL_law_427 ?_
  refine ss_ki (ss_rV (E := (ss_EM D A Lm (ss_ws 174 Lc (ss_ceC Lc cI cS) σ1) cI cZ cS)) (C := RX5) (As := [.int (xs (Int32.toNatClampNeg (nI i + 1))), .int (xs (Int32.toNatClampNeg (nI i + 2))), .int (xs (Int32.toNatClampNeg (nI i + 3)))]) (rest := [.int r]) (ss_FM F) (mX5_join l D A Lm (ss_ws 174 Lc (ss_ceC Lc cI cS) σ1) cI cZ cS τ (xs (Int32.toNatClampNeg (nI i + 1))) (xs (Int32.toNatClampNeg (nI i + 2))) (xs (Int32.toNatClampNeg (nI i + 3))) _) gL_law_X5_join rfl ⟨rfl, rfl⟩ ⟨rfl, dvX5_join⟩ ⟨Nat.le_of_ble_eq_true rfl, Nat.le_of_ble_eq_true rfl⟩ (ss_preV (E := (ss_EM D A Lm (ss_ws 174 Lc (ss_ceC Lc cI cS) σ1) cI cZ cS)) F.2.2.2.2.1 F.2.2.2.2.2 hC (ss_rec (E := (ss_EM D A Lm (ss_ws 174 Lc (ss_ceC Lc cI cS) σ1) cI cZ cS)) (C := RX5) (T := TX5) (N := 16) (ci := 5) F.2.2.2.2.1 hC 0 (Nat.le_of_ble_eq_true rfl) rfl rfl) hw) rfl hl.1 rfl (Nat.le_of_ble_eq_true rfl) dL_law_428 hf) hC (fun r' τ1 H locs hC hw => ?_)
  replace hC := ss_swC hC
  refine lv_icmp_eq (tgt := 1076) hx hb dL_law_431 (by decide) (fun hc => ?_) (fun hc => absurd hw.1 hc)
  exact hk _ _ _ _ _ hC hl hw.2

set_option maxHeartbeats 4000000 in
set_option maxRecDepth 100000 in
theorem law_c8 (F : ss_F p R s m args meth c (ss_EC D A Lc (ss_ws 10 Lm (ss_ceM Lm cI cZ) τ) cI cZ cS) cL_law 4 wsL_law RL ret room_1) (hf : 600000 ≤ R.cells ∧ 7302250 ≤ R.slots) (hX : va_X b LL xs s s.heap) (hbl : b < s.heap.size) (hbA : ¬ A b) (hi : i + 4 ≤ LL) (hL : LL ≤ 2048) (hC : ss_C (ss_EC D A Lc (ss_ws 10 Lm (ss_ceM Lm cI cZ) τ) cI cZ cS) σ s H locs) (hl : lv_has ls 4 [(0, .ref b), (1, .ref (Lc 0)), (2, .ref (Lm 0)), (3, .int (nI i))]) (hw : wX4_meet (xs (Int32.toNatClampNeg (nI i + 1))) (xs (Int32.toNatClampNeg (nI i + 2))) (xs (Int32.toNatClampNeg (nI i + 3))) σ (fun r σ1 => wX5_meet (xs (Int32.toNatClampNeg (nI i + 1))) (xs (Int32.toNatClampNeg (nI i + 2))) (xs (Int32.toNatClampNeg (nI i + 3))) τ (fun r' τ1 => r = r' ∧ Inv σ1 τ1))) (hk : ∀ (σ τ : ss_S) (H : Heap) (locs : List Loc) (ls : Array Slot), ss_C (ss_EC D A Lc (ss_ws 10 Lm (ss_ceM Lm cI cZ) τ) cI cZ cS) σ s H locs → lv_has ls 4 [(0, .ref b), (1, .ref (Lc 0)), (2, .ref (Lm 0)), (3, .int (nI i))] → Inv σ τ → W p l e R s m args below meth c H locs 600000 7302250 Q (F0 m 1076 ls [])) : W p l e R s m args below meth c H locs 600000 7302250 Q (F0 m 436 ls []) := by
  have hx := F.1.1
  have hb := F.1.2.1
  refine lv_aload_n hx hb dL_law_436 rfl (lv_at hl 1 rfl) ?_
  refine lv_aload_n hx hb dL_law_437 rfl (lv_at hl 0 rfl) ?_
  refine lv_iload_n hx hb dL_law_438 rfl (lv_at hl 3 rfl) ?_
  refine lv_iconst (v := 1) hx hb dL_law_439 (by decide) ?_
  refine lv_iadd hx hb dL_law_440 ?_
  refine va_sld hx hb hX hbl hbA hC.2.2 (law_in1 hi hL) dL_law_441 ?_
  refine lv_aload_n hx hb dL_law_442 rfl (lv_at hl 0 rfl) ?_
  refine lv_iload_n hx hb dL_law_443 rfl (lv_at hl 3 rfl) ?_
  refine lv_iconst (v := 2) hx hb dL_law_444 (by decide) ?_
  refine lv_iadd hx hb dL_law_445 ?_
  refine va_sld hx hb hX hbl hbA hC.2.2 (law_in2 hi hL) dL_law_446 ?_
  refine lv_aload_n hx hb dL_law_447 rfl (lv_at hl 0 rfl) ?_
  refine lv_iload_n hx hb dL_law_448 rfl (lv_at hl 3 rfl) ?_
  refine lv_iconst (v := 3) hx hb dL_law_449 (by decide) ?_
  refine lv_iadd hx hb dL_law_450 ?_
  refine va_sld hx hb hX hbl hbA hC.2.2 (law_in3 hi hL) dL_law_451 ?_
  refine ss_ki (ss_rV (E := (ss_EC D A Lc (ss_ws 10 Lm (ss_ceM Lm cI cZ) τ) cI cZ cS)) (C := RX4) (As := [.int (xs (Int32.toNatClampNeg (nI i + 1))), .int (xs (Int32.toNatClampNeg (nI i + 2))), .int (xs (Int32.toNatClampNeg (nI i + 3)))]) (rest := []) F (mX4_meet l D A Lc (ss_ws 10 Lm (ss_ceM Lm cI cZ) τ) cI cZ cS σ (xs (Int32.toNatClampNeg (nI i + 1))) (xs (Int32.toNatClampNeg (nI i + 2))) (xs (Int32.toNatClampNeg (nI i + 3))) _) gL_law_X4_meet rfl ⟨rfl, rfl⟩ ⟨rfl, dvX4_meet⟩ ⟨Nat.le_of_ble_eq_true rfl, Nat.le_of_ble_eq_true rfl⟩ (ss_preV F.2.2.2.2.1 F.2.2.2.2.2 hC (ss_rec (C := RX4) (T := TX4) (N := 9) (ci := 4) F.2.2.2.2.1 hC 0 (Nat.le_of_ble_eq_true rfl) rfl rfl) hw) rfl hl.1 rfl (Nat.le_of_ble_eq_true rfl) dL_law_452 hf) hC (fun r σ1 H locs hC hw => ?_)
  replace hC := ss_swM hC
  refine lv_aload_n hx hb dL_law_455 rfl (lv_at hl 2 rfl) ?_
  refine lv_aload_n hx hb dL_law_456 rfl (lv_at hl 0 rfl) ?_
  refine lv_iload_n hx hb dL_law_457 rfl (lv_at hl 3 rfl) ?_
  refine lv_iconst (v := 1) hx hb dL_law_458 (by decide) ?_
  refine lv_iadd hx hb dL_law_459 ?_
  refine va_sld hx hb hX hbl hbA hC.2.2 (law_in1 hi hL) dL_law_460 ?_
  refine lv_aload_n hx hb dL_law_461 rfl (lv_at hl 0 rfl) ?_
  refine lv_iload_n hx hb dL_law_462 rfl (lv_at hl 3 rfl) ?_
  refine lv_iconst (v := 2) hx hb dL_law_463 (by decide) ?_
  refine lv_iadd hx hb dL_law_464 ?_
  refine va_sld hx hb hX hbl hbA hC.2.2 (law_in2 hi hL) dL_law_465 ?_
  refine lv_aload_n hx hb dL_law_466 rfl (lv_at hl 0 rfl) ?_
  refine lv_iload_n hx hb dL_law_467 rfl (lv_at hl 3 rfl) ?_
  refine lv_iconst (v := 3) hx hb dL_law_468 (by decide) ?_
  refine lv_iadd hx hb dL_law_469 ?_
  refine va_sld hx hb hX hbl hbA hC.2.2 (law_in3 hi hL) dL_law_470 ?_
  refine ss_ki (ss_rV (E := (ss_EM D A Lm (ss_ws 174 Lc (ss_ceC Lc cI cS) σ1) cI cZ cS)) (C := RX5) (As := [.int (xs (Int32.toNatClampNeg (nI i + 1))), .int (xs (Int32.toNatClampNeg (nI i + 2))), .int (xs (Int32.toNatClampNeg (nI i + 3)))]) (rest := [.int r]) (ss_FM F) (mX5_meet l D A Lm (ss_ws 174 Lc (ss_ceC Lc cI cS) σ1) cI cZ cS τ (xs (Int32.toNatClampNeg (nI i + 1))) (xs (Int32.toNatClampNeg (nI i + 2))) (xs (Int32.toNatClampNeg (nI i + 3))) _) gL_law_X5_meet rfl ⟨rfl, rfl⟩ ⟨rfl, dvX5_meet⟩ ⟨Nat.le_of_ble_eq_true rfl, Nat.le_of_ble_eq_true rfl⟩ (ss_preV (E := (ss_EM D A Lm (ss_ws 174 Lc (ss_ceC Lc cI cS) σ1) cI cZ cS)) F.2.2.2.2.1 F.2.2.2.2.2 hC (ss_rec (E := (ss_EM D A Lm (ss_ws 174 Lc (ss_ceC Lc cI cS) σ1) cI cZ cS)) (C := RX5) (T := TX5) (N := 16) (ci := 5) F.2.2.2.2.1 hC 0 (Nat.le_of_ble_eq_true rfl) rfl rfl) hw) rfl hl.1 rfl (Nat.le_of_ble_eq_true rfl) dL_law_471 hf) hC (fun r' τ1 H locs hC hw => ?_)
  replace hC := ss_swC hC
  refine lv_icmp_eq (tgt := 1076) hx hb dL_law_474 (by decide) (fun hc => ?_) (fun hc => absurd hw.1 hc)
  exact hk _ _ _ _ _ hC hl hw.2

set_option maxHeartbeats 4000000 in
set_option maxRecDepth 100000 in
theorem law_c9 (F : ss_F p R s m args meth c (ss_EC D A Lc (ss_ws 10 Lm (ss_ceM Lm cI cZ) τ) cI cZ cS) cL_law 4 wsL_law RL ret room_1) (hf : 600000 ≤ R.cells ∧ 7302250 ≤ R.slots) (hX : va_X b LL xs s s.heap) (hbl : b < s.heap.size) (hbA : ¬ A b) (hi : i + 4 ≤ LL) (hL : LL ≤ 2048) (hC : ss_C (ss_EC D A Lc (ss_ws 10 Lm (ss_ceM Lm cI cZ) τ) cI cZ cS) σ s H locs) (hl : lv_has ls 4 [(0, .ref b), (1, .ref (Lc 0)), (2, .ref (Lm 0)), (3, .int (nI i))]) (hw : wX4_dual (xs (Int32.toNatClampNeg (nI i + 1))) (xs (Int32.toNatClampNeg (nI i + 2))) σ (fun r σ1 => wX5_dual (xs (Int32.toNatClampNeg (nI i + 1))) (xs (Int32.toNatClampNeg (nI i + 2))) τ (fun r' τ1 => r = r' ∧ Inv σ1 τ1))) (hk : ∀ (σ τ : ss_S) (H : Heap) (locs : List Loc) (ls : Array Slot), ss_C (ss_EC D A Lc (ss_ws 10 Lm (ss_ceM Lm cI cZ) τ) cI cZ cS) σ s H locs → lv_has ls 4 [(0, .ref b), (1, .ref (Lc 0)), (2, .ref (Lm 0)), (3, .int (nI i))] → Inv σ τ → W p l e R s m args below meth c H locs 600000 7302250 Q (F0 m 1076 ls [])) : W p l e R s m args below meth c H locs 600000 7302250 Q (F0 m 479 ls []) := by
  have hx := F.1.1
  have hb := F.1.2.1
  refine lv_aload_n hx hb dL_law_479 rfl (lv_at hl 1 rfl) ?_
  refine lv_aload_n hx hb dL_law_480 rfl (lv_at hl 0 rfl) ?_
  refine lv_iload_n hx hb dL_law_481 rfl (lv_at hl 3 rfl) ?_
  refine lv_iconst (v := 1) hx hb dL_law_482 (by decide) ?_
  refine lv_iadd hx hb dL_law_483 ?_
  refine va_sld hx hb hX hbl hbA hC.2.2 (law_in1 hi hL) dL_law_484 ?_
  refine lv_aload_n hx hb dL_law_485 rfl (lv_at hl 0 rfl) ?_
  refine lv_iload_n hx hb dL_law_486 rfl (lv_at hl 3 rfl) ?_
  refine lv_iconst (v := 2) hx hb dL_law_487 (by decide) ?_
  refine lv_iadd hx hb dL_law_488 ?_
  refine va_sld hx hb hX hbl hbA hC.2.2 (law_in2 hi hL) dL_law_489 ?_
  refine ss_ki (ss_rV (E := (ss_EC D A Lc (ss_ws 10 Lm (ss_ceM Lm cI cZ) τ) cI cZ cS)) (C := RX4) (As := [.int (xs (Int32.toNatClampNeg (nI i + 1))), .int (xs (Int32.toNatClampNeg (nI i + 2)))]) (rest := []) F (mX4_dual l D A Lc (ss_ws 10 Lm (ss_ceM Lm cI cZ) τ) cI cZ cS σ (xs (Int32.toNatClampNeg (nI i + 1))) (xs (Int32.toNatClampNeg (nI i + 2))) _) gL_law_X4_dual rfl ⟨rfl, rfl⟩ ⟨rfl, dvX4_dual⟩ ⟨Nat.le_of_ble_eq_true rfl, Nat.le_of_ble_eq_true rfl⟩ (ss_preV F.2.2.2.2.1 F.2.2.2.2.2 hC (ss_rec (C := RX4) (T := TX4) (N := 9) (ci := 4) F.2.2.2.2.1 hC 0 (Nat.le_of_ble_eq_true rfl) rfl rfl) hw) rfl hl.1 rfl (Nat.le_of_ble_eq_true rfl) dL_law_490 hf) hC (fun r σ1 H locs hC hw => ?_)
  replace hC := ss_swM hC
  refine lv_aload_n hx hb dL_law_493 rfl (lv_at hl 2 rfl) ?_
  refine lv_aload_n hx hb dL_law_494 rfl (lv_at hl 0 rfl) ?_
  refine lv_iload_n hx hb dL_law_495 rfl (lv_at hl 3 rfl) ?_
  refine lv_iconst (v := 1) hx hb dL_law_496 (by decide) ?_
  refine lv_iadd hx hb dL_law_497 ?_
  refine va_sld hx hb hX hbl hbA hC.2.2 (law_in1 hi hL) dL_law_498 ?_
  refine lv_aload_n hx hb dL_law_499 rfl (lv_at hl 0 rfl) ?_
  refine lv_iload_n hx hb dL_law_500 rfl (lv_at hl 3 rfl) ?_
  refine lv_iconst (v := 2) hx hb dL_law_501 (by decide) ?_
  refine lv_iadd hx hb dL_law_502 ?_
  refine va_sld hx hb hX hbl hbA hC.2.2 (law_in2 hi hL) dL_law_503 ?_
  refine ss_ki (ss_rV (E := (ss_EM D A Lm (ss_ws 174 Lc (ss_ceC Lc cI cS) σ1) cI cZ cS)) (C := RX5) (As := [.int (xs (Int32.toNatClampNeg (nI i + 1))), .int (xs (Int32.toNatClampNeg (nI i + 2)))]) (rest := [.int r]) (ss_FM F) (mX5_dual l D A Lm (ss_ws 174 Lc (ss_ceC Lc cI cS) σ1) cI cZ cS τ (xs (Int32.toNatClampNeg (nI i + 1))) (xs (Int32.toNatClampNeg (nI i + 2))) _) gL_law_X5_dual rfl ⟨rfl, rfl⟩ ⟨rfl, dvX5_dual⟩ ⟨Nat.le_of_ble_eq_true rfl, Nat.le_of_ble_eq_true rfl⟩ (ss_preV (E := (ss_EM D A Lm (ss_ws 174 Lc (ss_ceC Lc cI cS) σ1) cI cZ cS)) F.2.2.2.2.1 F.2.2.2.2.2 hC (ss_rec (E := (ss_EM D A Lm (ss_ws 174 Lc (ss_ceC Lc cI cS) σ1) cI cZ cS)) (C := RX5) (T := TX5) (N := 16) (ci := 5) F.2.2.2.2.1 hC 0 (Nat.le_of_ble_eq_true rfl) rfl rfl) hw) rfl hl.1 rfl (Nat.le_of_ble_eq_true rfl) dL_law_504 hf) hC (fun r' τ1 H locs hC hw => ?_)
  replace hC := ss_swC hC
  refine lv_icmp_eq (tgt := 1076) hx hb dL_law_507 (by decide) (fun hc => ?_) (fun hc => absurd hw.1 hc)
  exact hk _ _ _ _ _ hC hl hw.2

set_option maxHeartbeats 4000000 in
set_option maxRecDepth 100000 in
theorem law_c10 (F : ss_F p R s m args meth c (ss_EC D A Lc (ss_ws 10 Lm (ss_ceM Lm cI cZ) τ) cI cZ cS) cL_law 4 wsL_law RL ret room_1) (hf : 600000 ≤ R.cells ∧ 7302250 ≤ R.slots) (hX : va_X b LL xs s s.heap) (hbl : b < s.heap.size) (hbA : ¬ A b) (hi : i + 4 ≤ LL) (hL : LL ≤ 2048) (hC : ss_C (ss_EC D A Lc (ss_ws 10 Lm (ss_ceM Lm cI cZ) τ) cI cZ cS) σ s H locs) (hl : lv_has ls 4 [(0, .ref b), (1, .ref (Lc 0)), (2, .ref (Lm 0)), (3, .int (nI i))]) (hw : wX4_has (xs (Int32.toNatClampNeg (nI i + 1))) (xs (Int32.toNatClampNeg (nI i + 2))) σ (fun r σ1 => wX5_has (xs (Int32.toNatClampNeg (nI i + 1))) (xs (Int32.toNatClampNeg (nI i + 2))) τ (fun r' τ1 => r = r' ∧ Inv σ1 τ1))) (hk : ∀ (σ τ : ss_S) (H : Heap) (locs : List Loc) (ls : Array Slot), ss_C (ss_EC D A Lc (ss_ws 10 Lm (ss_ceM Lm cI cZ) τ) cI cZ cS) σ s H locs → lv_has ls 4 [(0, .ref b), (1, .ref (Lc 0)), (2, .ref (Lm 0)), (3, .int (nI i))] → Inv σ τ → W p l e R s m args below meth c H locs 600000 7302250 Q (F0 m 1076 ls [])) : W p l e R s m args below meth c H locs 600000 7302250 Q (F0 m 512 ls []) := by
  have hx := F.1.1
  have hb := F.1.2.1
  refine lv_aload_n hx hb dL_law_512 rfl (lv_at hl 1 rfl) ?_
  refine lv_aload_n hx hb dL_law_513 rfl (lv_at hl 0 rfl) ?_
  refine lv_iload_n hx hb dL_law_514 rfl (lv_at hl 3 rfl) ?_
  refine lv_iconst (v := 1) hx hb dL_law_515 (by decide) ?_
  refine lv_iadd hx hb dL_law_516 ?_
  refine va_sld hx hb hX hbl hbA hC.2.2 (law_in1 hi hL) dL_law_517 ?_
  refine lv_aload_n hx hb dL_law_518 rfl (lv_at hl 0 rfl) ?_
  refine lv_iload_n hx hb dL_law_519 rfl (lv_at hl 3 rfl) ?_
  refine lv_iconst (v := 2) hx hb dL_law_520 (by decide) ?_
  refine lv_iadd hx hb dL_law_521 ?_
  refine va_sld hx hb hX hbl hbA hC.2.2 (law_in2 hi hL) dL_law_522 ?_
  refine ss_ki (ss_rV (E := (ss_EC D A Lc (ss_ws 10 Lm (ss_ceM Lm cI cZ) τ) cI cZ cS)) (C := RX4) (As := [.int (xs (Int32.toNatClampNeg (nI i + 1))), .int (xs (Int32.toNatClampNeg (nI i + 2)))]) (rest := []) F (mX4_has l D A Lc (ss_ws 10 Lm (ss_ceM Lm cI cZ) τ) cI cZ cS σ (xs (Int32.toNatClampNeg (nI i + 1))) (xs (Int32.toNatClampNeg (nI i + 2))) _) gL_law_X4_has rfl ⟨rfl, rfl⟩ ⟨rfl, dvX4_has⟩ ⟨Nat.le_of_ble_eq_true rfl, Nat.le_of_ble_eq_true rfl⟩ (ss_preV F.2.2.2.2.1 F.2.2.2.2.2 hC (ss_rec (C := RX4) (T := TX4) (N := 9) (ci := 4) F.2.2.2.2.1 hC 0 (Nat.le_of_ble_eq_true rfl) rfl rfl) hw) rfl hl.1 rfl (Nat.le_of_ble_eq_true rfl) dL_law_523 hf) hC (fun r σ1 H locs hC hw => ?_)
  replace hC := ss_swM hC
  refine lv_aload_n hx hb dL_law_526 rfl (lv_at hl 2 rfl) ?_
  refine lv_aload_n hx hb dL_law_527 rfl (lv_at hl 0 rfl) ?_
  refine lv_iload_n hx hb dL_law_528 rfl (lv_at hl 3 rfl) ?_
  refine lv_iconst (v := 1) hx hb dL_law_529 (by decide) ?_
  refine lv_iadd hx hb dL_law_530 ?_
  refine va_sld hx hb hX hbl hbA hC.2.2 (law_in1 hi hL) dL_law_531 ?_
  refine lv_aload_n hx hb dL_law_532 rfl (lv_at hl 0 rfl) ?_
  refine lv_iload_n hx hb dL_law_533 rfl (lv_at hl 3 rfl) ?_
  refine lv_iconst (v := 2) hx hb dL_law_534 (by decide) ?_
  refine lv_iadd hx hb dL_law_535 ?_
  refine va_sld hx hb hX hbl hbA hC.2.2 (law_in2 hi hL) dL_law_536 ?_
  refine ss_ki (ss_rV (E := (ss_EM D A Lm (ss_ws 174 Lc (ss_ceC Lc cI cS) σ1) cI cZ cS)) (C := RX5) (As := [.int (xs (Int32.toNatClampNeg (nI i + 1))), .int (xs (Int32.toNatClampNeg (nI i + 2)))]) (rest := [.int r]) (ss_FM F) (mX5_has l D A Lm (ss_ws 174 Lc (ss_ceC Lc cI cS) σ1) cI cZ cS τ (xs (Int32.toNatClampNeg (nI i + 1))) (xs (Int32.toNatClampNeg (nI i + 2))) _) gL_law_X5_has rfl ⟨rfl, rfl⟩ ⟨rfl, dvX5_has⟩ ⟨Nat.le_of_ble_eq_true rfl, Nat.le_of_ble_eq_true rfl⟩ (ss_preV (E := (ss_EM D A Lm (ss_ws 174 Lc (ss_ceC Lc cI cS) σ1) cI cZ cS)) F.2.2.2.2.1 F.2.2.2.2.2 hC (ss_rec (E := (ss_EM D A Lm (ss_ws 174 Lc (ss_ceC Lc cI cS) σ1) cI cZ cS)) (C := RX5) (T := TX5) (N := 16) (ci := 5) F.2.2.2.2.1 hC 0 (Nat.le_of_ble_eq_true rfl) rfl rfl) hw) rfl hl.1 rfl (Nat.le_of_ble_eq_true rfl) dL_law_537 hf) hC (fun r' τ1 H locs hC hw => ?_)
  replace hC := ss_swC hC
  refine lv_icmp_eq (tgt := 1076) hx hb dL_law_540 (by decide) (fun hc => ?_) (fun hc => absurd hw.1 hc)
  exact hk _ _ _ _ _ hC hl hw.2

set_option maxHeartbeats 4000000 in
set_option maxRecDepth 100000 in
theorem law_c11 (F : ss_F p R s m args meth c (ss_EC D A Lc (ss_ws 10 Lm (ss_ceM Lm cI cZ) τ) cI cZ cS) cL_law 4 wsL_law RL ret room_1) (hf : 600000 ≤ R.cells ∧ 7302250 ≤ R.slots) (hX : va_X b LL xs s s.heap) (hbl : b < s.heap.size) (hbA : ¬ A b) (hi : i + 4 ≤ LL) (hL : LL ≤ 2048) (hC : ss_C (ss_EC D A Lc (ss_ws 10 Lm (ss_ceM Lm cI cZ) τ) cI cZ cS) σ s H locs) (hl : lv_has ls 4 [(0, .ref b), (1, .ref (Lc 0)), (2, .ref (Lm 0)), (3, .int (nI i))]) (hw : wX4_within (xs (Int32.toNatClampNeg (nI i + 1))) (xs (Int32.toNatClampNeg (nI i + 2))) σ (fun r σ1 => wX5_within (xs (Int32.toNatClampNeg (nI i + 1))) (xs (Int32.toNatClampNeg (nI i + 2))) τ (fun r' τ1 => r = r' ∧ Inv σ1 τ1))) (hk : ∀ (σ τ : ss_S) (H : Heap) (locs : List Loc) (ls : Array Slot), ss_C (ss_EC D A Lc (ss_ws 10 Lm (ss_ceM Lm cI cZ) τ) cI cZ cS) σ s H locs → lv_has ls 4 [(0, .ref b), (1, .ref (Lc 0)), (2, .ref (Lm 0)), (3, .int (nI i))] → Inv σ τ → W p l e R s m args below meth c H locs 600000 7302250 Q (F0 m 1076 ls [])) : W p l e R s m args below meth c H locs 600000 7302250 Q (F0 m 545 ls []) := by
  have hx := F.1.1
  have hb := F.1.2.1
  refine lv_aload_n hx hb dL_law_545 rfl (lv_at hl 1 rfl) ?_
  refine lv_aload_n hx hb dL_law_546 rfl (lv_at hl 0 rfl) ?_
  refine lv_iload_n hx hb dL_law_547 rfl (lv_at hl 3 rfl) ?_
  refine lv_iconst (v := 1) hx hb dL_law_548 (by decide) ?_
  refine lv_iadd hx hb dL_law_549 ?_
  refine va_sld hx hb hX hbl hbA hC.2.2 (law_in1 hi hL) dL_law_550 ?_
  refine lv_aload_n hx hb dL_law_551 rfl (lv_at hl 0 rfl) ?_
  refine lv_iload_n hx hb dL_law_552 rfl (lv_at hl 3 rfl) ?_
  refine lv_iconst (v := 2) hx hb dL_law_553 (by decide) ?_
  refine lv_iadd hx hb dL_law_554 ?_
  refine va_sld hx hb hX hbl hbA hC.2.2 (law_in2 hi hL) dL_law_555 ?_
  refine ss_ki (ss_rV (E := (ss_EC D A Lc (ss_ws 10 Lm (ss_ceM Lm cI cZ) τ) cI cZ cS)) (C := RX4) (As := [.int (xs (Int32.toNatClampNeg (nI i + 1))), .int (xs (Int32.toNatClampNeg (nI i + 2)))]) (rest := []) F (mX4_within l D A Lc (ss_ws 10 Lm (ss_ceM Lm cI cZ) τ) cI cZ cS σ (xs (Int32.toNatClampNeg (nI i + 1))) (xs (Int32.toNatClampNeg (nI i + 2))) _) gL_law_X4_within rfl ⟨rfl, rfl⟩ ⟨rfl, dvX4_within⟩ ⟨Nat.le_of_ble_eq_true rfl, Nat.le_of_ble_eq_true rfl⟩ (ss_preV F.2.2.2.2.1 F.2.2.2.2.2 hC (ss_rec (C := RX4) (T := TX4) (N := 9) (ci := 4) F.2.2.2.2.1 hC 0 (Nat.le_of_ble_eq_true rfl) rfl rfl) hw) rfl hl.1 rfl (Nat.le_of_ble_eq_true rfl) dL_law_556 hf) hC (fun r σ1 H locs hC hw => ?_)
  replace hC := ss_swM hC
  refine lv_aload_n hx hb dL_law_559 rfl (lv_at hl 2 rfl) ?_
  refine lv_aload_n hx hb dL_law_560 rfl (lv_at hl 0 rfl) ?_
  refine lv_iload_n hx hb dL_law_561 rfl (lv_at hl 3 rfl) ?_
  refine lv_iconst (v := 1) hx hb dL_law_562 (by decide) ?_
  refine lv_iadd hx hb dL_law_563 ?_
  refine va_sld hx hb hX hbl hbA hC.2.2 (law_in1 hi hL) dL_law_564 ?_
  refine lv_aload_n hx hb dL_law_565 rfl (lv_at hl 0 rfl) ?_
  refine lv_iload_n hx hb dL_law_566 rfl (lv_at hl 3 rfl) ?_
  refine lv_iconst (v := 2) hx hb dL_law_567 (by decide) ?_
  refine lv_iadd hx hb dL_law_568 ?_
  refine va_sld hx hb hX hbl hbA hC.2.2 (law_in2 hi hL) dL_law_569 ?_
  refine ss_ki (ss_rV (E := (ss_EM D A Lm (ss_ws 174 Lc (ss_ceC Lc cI cS) σ1) cI cZ cS)) (C := RX5) (As := [.int (xs (Int32.toNatClampNeg (nI i + 1))), .int (xs (Int32.toNatClampNeg (nI i + 2)))]) (rest := [.int r]) (ss_FM F) (mX5_within l D A Lm (ss_ws 174 Lc (ss_ceC Lc cI cS) σ1) cI cZ cS τ (xs (Int32.toNatClampNeg (nI i + 1))) (xs (Int32.toNatClampNeg (nI i + 2))) _) gL_law_X5_within rfl ⟨rfl, rfl⟩ ⟨rfl, dvX5_within⟩ ⟨Nat.le_of_ble_eq_true rfl, Nat.le_of_ble_eq_true rfl⟩ (ss_preV (E := (ss_EM D A Lm (ss_ws 174 Lc (ss_ceC Lc cI cS) σ1) cI cZ cS)) F.2.2.2.2.1 F.2.2.2.2.2 hC (ss_rec (E := (ss_EM D A Lm (ss_ws 174 Lc (ss_ceC Lc cI cS) σ1) cI cZ cS)) (C := RX5) (T := TX5) (N := 16) (ci := 5) F.2.2.2.2.1 hC 0 (Nat.le_of_ble_eq_true rfl) rfl rfl) hw) rfl hl.1 rfl (Nat.le_of_ble_eq_true rfl) dL_law_570 hf) hC (fun r' τ1 H locs hC hw => ?_)
  replace hC := ss_swC hC
  refine lv_icmp_eq (tgt := 1076) hx hb dL_law_573 (by decide) (fun hc => ?_) (fun hc => absurd hw.1 hc)
  exact hk _ _ _ _ _ hC hl hw.2

set_option maxHeartbeats 4000000 in
set_option maxRecDepth 100000 in
theorem law_c12 (F : ss_F p R s m args meth c (ss_EC D A Lc (ss_ws 10 Lm (ss_ceM Lm cI cZ) τ) cI cZ cS) cL_law 4 wsL_law RL ret room_1) (hf : 600000 ≤ R.cells ∧ 7302250 ≤ R.slots) (hX : va_X b LL xs s s.heap) (hbl : b < s.heap.size) (hbA : ¬ A b) (hi : i + 4 ≤ LL) (hL : LL ≤ 2048) (hC : ss_C (ss_EC D A Lc (ss_ws 10 Lm (ss_ceM Lm cI cZ) τ) cI cZ cS) σ s H locs) (hl : lv_has ls 4 [(0, .ref b), (1, .ref (Lc 0)), (2, .ref (Lm 0)), (3, .int (nI i))]) (hw : wX4_apart (xs (Int32.toNatClampNeg (nI i + 1))) (xs (Int32.toNatClampNeg (nI i + 2))) σ (fun r σ1 => wX5_apart (xs (Int32.toNatClampNeg (nI i + 1))) (xs (Int32.toNatClampNeg (nI i + 2))) τ (fun r' τ1 => r = r' ∧ Inv σ1 τ1))) (hk : ∀ (σ τ : ss_S) (H : Heap) (locs : List Loc) (ls : Array Slot), ss_C (ss_EC D A Lc (ss_ws 10 Lm (ss_ceM Lm cI cZ) τ) cI cZ cS) σ s H locs → lv_has ls 4 [(0, .ref b), (1, .ref (Lc 0)), (2, .ref (Lm 0)), (3, .int (nI i))] → Inv σ τ → W p l e R s m args below meth c H locs 600000 7302250 Q (F0 m 1076 ls [])) : W p l e R s m args below meth c H locs 600000 7302250 Q (F0 m 578 ls []) := by
  have hx := F.1.1
  have hb := F.1.2.1
  refine lv_aload_n hx hb dL_law_578 rfl (lv_at hl 1 rfl) ?_
  refine lv_aload_n hx hb dL_law_579 rfl (lv_at hl 0 rfl) ?_
  refine lv_iload_n hx hb dL_law_580 rfl (lv_at hl 3 rfl) ?_
  refine lv_iconst (v := 1) hx hb dL_law_581 (by decide) ?_
  refine lv_iadd hx hb dL_law_582 ?_
  refine va_sld hx hb hX hbl hbA hC.2.2 (law_in1 hi hL) dL_law_583 ?_
  refine lv_aload_n hx hb dL_law_584 rfl (lv_at hl 0 rfl) ?_
  refine lv_iload_n hx hb dL_law_585 rfl (lv_at hl 3 rfl) ?_
  refine lv_iconst (v := 2) hx hb dL_law_586 (by decide) ?_
  refine lv_iadd hx hb dL_law_587 ?_
  refine va_sld hx hb hX hbl hbA hC.2.2 (law_in2 hi hL) dL_law_588 ?_
  refine ss_ki (ss_rV (E := (ss_EC D A Lc (ss_ws 10 Lm (ss_ceM Lm cI cZ) τ) cI cZ cS)) (C := RX4) (As := [.int (xs (Int32.toNatClampNeg (nI i + 1))), .int (xs (Int32.toNatClampNeg (nI i + 2)))]) (rest := []) F (mX4_apart l D A Lc (ss_ws 10 Lm (ss_ceM Lm cI cZ) τ) cI cZ cS σ (xs (Int32.toNatClampNeg (nI i + 1))) (xs (Int32.toNatClampNeg (nI i + 2))) _) gL_law_X4_apart rfl ⟨rfl, rfl⟩ ⟨rfl, dvX4_apart⟩ ⟨Nat.le_of_ble_eq_true rfl, Nat.le_of_ble_eq_true rfl⟩ (ss_preV F.2.2.2.2.1 F.2.2.2.2.2 hC (ss_rec (C := RX4) (T := TX4) (N := 9) (ci := 4) F.2.2.2.2.1 hC 0 (Nat.le_of_ble_eq_true rfl) rfl rfl) hw) rfl hl.1 rfl (Nat.le_of_ble_eq_true rfl) dL_law_589 hf) hC (fun r σ1 H locs hC hw => ?_)
  replace hC := ss_swM hC
  refine lv_aload_n hx hb dL_law_592 rfl (lv_at hl 2 rfl) ?_
  refine lv_aload_n hx hb dL_law_593 rfl (lv_at hl 0 rfl) ?_
  refine lv_iload_n hx hb dL_law_594 rfl (lv_at hl 3 rfl) ?_
  refine lv_iconst (v := 1) hx hb dL_law_595 (by decide) ?_
  refine lv_iadd hx hb dL_law_596 ?_
  refine va_sld hx hb hX hbl hbA hC.2.2 (law_in1 hi hL) dL_law_597 ?_
  refine lv_aload_n hx hb dL_law_598 rfl (lv_at hl 0 rfl) ?_
  refine lv_iload_n hx hb dL_law_599 rfl (lv_at hl 3 rfl) ?_
  refine lv_iconst (v := 2) hx hb dL_law_600 (by decide) ?_
  refine lv_iadd hx hb dL_law_601 ?_
  refine va_sld hx hb hX hbl hbA hC.2.2 (law_in2 hi hL) dL_law_602 ?_
  refine ss_ki (ss_rV (E := (ss_EM D A Lm (ss_ws 174 Lc (ss_ceC Lc cI cS) σ1) cI cZ cS)) (C := RX5) (As := [.int (xs (Int32.toNatClampNeg (nI i + 1))), .int (xs (Int32.toNatClampNeg (nI i + 2)))]) (rest := [.int r]) (ss_FM F) (mX5_apart l D A Lm (ss_ws 174 Lc (ss_ceC Lc cI cS) σ1) cI cZ cS τ (xs (Int32.toNatClampNeg (nI i + 1))) (xs (Int32.toNatClampNeg (nI i + 2))) _) gL_law_X5_apart rfl ⟨rfl, rfl⟩ ⟨rfl, dvX5_apart⟩ ⟨Nat.le_of_ble_eq_true rfl, Nat.le_of_ble_eq_true rfl⟩ (ss_preV (E := (ss_EM D A Lm (ss_ws 174 Lc (ss_ceC Lc cI cS) σ1) cI cZ cS)) F.2.2.2.2.1 F.2.2.2.2.2 hC (ss_rec (E := (ss_EM D A Lm (ss_ws 174 Lc (ss_ceC Lc cI cS) σ1) cI cZ cS)) (C := RX5) (T := TX5) (N := 16) (ci := 5) F.2.2.2.2.1 hC 0 (Nat.le_of_ble_eq_true rfl) rfl rfl) hw) rfl hl.1 rfl (Nat.le_of_ble_eq_true rfl) dL_law_603 hf) hC (fun r' τ1 H locs hC hw => ?_)
  replace hC := ss_swC hC
  refine lv_icmp_eq (tgt := 1076) hx hb dL_law_606 (by decide) (fun hc => ?_) (fun hc => absurd hw.1 hc)
  exact hk _ _ _ _ _ hC hl hw.2

set_option maxHeartbeats 4000000 in
set_option maxRecDepth 100000 in
theorem law_c13 (F : ss_F p R s m args meth c (ss_EC D A Lc (ss_ws 10 Lm (ss_ceM Lm cI cZ) τ) cI cZ cS) cL_law 4 wsL_law RL ret room_1) (hf : 600000 ≤ R.cells ∧ 7302250 ≤ R.slots) (hX : va_X b LL xs s s.heap) (hbl : b < s.heap.size) (hbA : ¬ A b) (hi : i + 4 ≤ LL) (hL : LL ≤ 2048) (hC : ss_C (ss_EC D A Lc (ss_ws 10 Lm (ss_ceM Lm cI cZ) τ) cI cZ cS) σ s H locs) (hl : lv_has ls 4 [(0, .ref b), (1, .ref (Lc 0)), (2, .ref (Lm 0)), (3, .int (nI i))]) (hw : wX4_number (xs (Int32.toNatClampNeg (nI i + 1))) σ (fun r σ1 => wX5_number (xs (Int32.toNatClampNeg (nI i + 1))) τ (fun r' τ1 => r = r' ∧ Inv σ1 τ1))) (hk : ∀ (σ τ : ss_S) (H : Heap) (locs : List Loc) (ls : Array Slot), ss_C (ss_EC D A Lc (ss_ws 10 Lm (ss_ceM Lm cI cZ) τ) cI cZ cS) σ s H locs → lv_has ls 4 [(0, .ref b), (1, .ref (Lc 0)), (2, .ref (Lm 0)), (3, .int (nI i))] → Inv σ τ → W p l e R s m args below meth c H locs 600000 7302250 Q (F0 m 1076 ls [])) : W p l e R s m args below meth c H locs 600000 7302250 Q (F0 m 611 ls []) := by
  have hx := F.1.1
  have hb := F.1.2.1
  refine lv_aload_n hx hb dL_law_611 rfl (lv_at hl 1 rfl) ?_
  refine lv_aload_n hx hb dL_law_612 rfl (lv_at hl 0 rfl) ?_
  refine lv_iload_n hx hb dL_law_613 rfl (lv_at hl 3 rfl) ?_
  refine lv_iconst (v := 1) hx hb dL_law_614 (by decide) ?_
  refine lv_iadd hx hb dL_law_615 ?_
  refine va_sld hx hb hX hbl hbA hC.2.2 (law_in1 hi hL) dL_law_616 ?_
  refine ss_ki (ss_rV (E := (ss_EC D A Lc (ss_ws 10 Lm (ss_ceM Lm cI cZ) τ) cI cZ cS)) (C := RX4) (As := [.int (xs (Int32.toNatClampNeg (nI i + 1)))]) (rest := []) F (mX4_number l D A Lc (ss_ws 10 Lm (ss_ceM Lm cI cZ) τ) cI cZ cS σ (xs (Int32.toNatClampNeg (nI i + 1))) _) gL_law_X4_number rfl ⟨rfl, rfl⟩ ⟨rfl, dvX4_number⟩ ⟨Nat.le_of_ble_eq_true rfl, Nat.le_of_ble_eq_true rfl⟩ (ss_preV F.2.2.2.2.1 F.2.2.2.2.2 hC (ss_rec (C := RX4) (T := TX4) (N := 9) (ci := 4) F.2.2.2.2.1 hC 0 (Nat.le_of_ble_eq_true rfl) rfl rfl) hw) rfl hl.1 rfl (Nat.le_of_ble_eq_true rfl) dL_law_617 hf) hC (fun r σ1 H locs hC hw => ?_)
  replace hC := ss_swM hC
  refine lv_aload_n hx hb dL_law_620 rfl (lv_at hl 2 rfl) ?_
  refine lv_aload_n hx hb dL_law_621 rfl (lv_at hl 0 rfl) ?_
  refine lv_iload_n hx hb dL_law_622 rfl (lv_at hl 3 rfl) ?_
  refine lv_iconst (v := 1) hx hb dL_law_623 (by decide) ?_
  refine lv_iadd hx hb dL_law_624 ?_
  refine va_sld hx hb hX hbl hbA hC.2.2 (law_in1 hi hL) dL_law_625 ?_
  refine ss_ki (ss_rV (E := (ss_EM D A Lm (ss_ws 174 Lc (ss_ceC Lc cI cS) σ1) cI cZ cS)) (C := RX5) (As := [.int (xs (Int32.toNatClampNeg (nI i + 1)))]) (rest := [.int r]) (ss_FM F) (mX5_number l D A Lm (ss_ws 174 Lc (ss_ceC Lc cI cS) σ1) cI cZ cS τ (xs (Int32.toNatClampNeg (nI i + 1))) _) gL_law_X5_number rfl ⟨rfl, rfl⟩ ⟨rfl, dvX5_number⟩ ⟨Nat.le_of_ble_eq_true rfl, Nat.le_of_ble_eq_true rfl⟩ (ss_preV (E := (ss_EM D A Lm (ss_ws 174 Lc (ss_ceC Lc cI cS) σ1) cI cZ cS)) F.2.2.2.2.1 F.2.2.2.2.2 hC (ss_rec (E := (ss_EM D A Lm (ss_ws 174 Lc (ss_ceC Lc cI cS) σ1) cI cZ cS)) (C := RX5) (T := TX5) (N := 16) (ci := 5) F.2.2.2.2.1 hC 0 (Nat.le_of_ble_eq_true rfl) rfl rfl) hw) rfl hl.1 rfl (Nat.le_of_ble_eq_true rfl) dL_law_626 hf) hC (fun r' τ1 H locs hC hw => ?_)
  replace hC := ss_swC hC
  refine lv_icmp_eq (tgt := 1076) hx hb dL_law_629 (by decide) (fun hc => ?_) (fun hc => absurd hw.1 hc)
  exact hk _ _ _ _ _ hC hl hw.2

set_option maxHeartbeats 4000000 in
set_option maxRecDepth 100000 in
theorem law_c14 (F : ss_F p R s m args meth c (ss_EC D A Lc (ss_ws 10 Lm (ss_ceM Lm cI cZ) τ) cI cZ cS) cL_law 4 wsL_law RL ret room_1) (hf : 600000 ≤ R.cells ∧ 7302250 ≤ R.slots) (hX : va_X b LL xs s s.heap) (hbl : b < s.heap.size) (hbA : ¬ A b) (hi : i + 4 ≤ LL) (hL : LL ≤ 2048) (hC : ss_C (ss_EC D A Lc (ss_ws 10 Lm (ss_ceM Lm cI cZ) τ) cI cZ cS) σ s H locs) (hl : lv_has ls 4 [(0, .ref b), (1, .ref (Lc 0)), (2, .ref (Lm 0)), (3, .int (nI i))]) (hw : wX4_numbered (xs (Int32.toNatClampNeg (nI i + 1))) (xs (Int32.toNatClampNeg (nI i + 2))) (xs (Int32.toNatClampNeg (nI i + 3))) σ (fun r σ1 => wX5_numbered (xs (Int32.toNatClampNeg (nI i + 1))) (xs (Int32.toNatClampNeg (nI i + 2))) (xs (Int32.toNatClampNeg (nI i + 3))) τ (fun r' τ1 => r = r' ∧ Inv σ1 τ1))) (hk : ∀ (σ τ : ss_S) (H : Heap) (locs : List Loc) (ls : Array Slot), ss_C (ss_EC D A Lc (ss_ws 10 Lm (ss_ceM Lm cI cZ) τ) cI cZ cS) σ s H locs → lv_has ls 4 [(0, .ref b), (1, .ref (Lc 0)), (2, .ref (Lm 0)), (3, .int (nI i))] → Inv σ τ → W p l e R s m args below meth c H locs 600000 7302250 Q (F0 m 1076 ls [])) : W p l e R s m args below meth c H locs 600000 7302250 Q (F0 m 634 ls []) := by
  have hx := F.1.1
  have hb := F.1.2.1
  refine lv_aload_n hx hb dL_law_634 rfl (lv_at hl 1 rfl) ?_
  refine lv_aload_n hx hb dL_law_635 rfl (lv_at hl 0 rfl) ?_
  refine lv_iload_n hx hb dL_law_636 rfl (lv_at hl 3 rfl) ?_
  refine lv_iconst (v := 1) hx hb dL_law_637 (by decide) ?_
  refine lv_iadd hx hb dL_law_638 ?_
  refine va_sld hx hb hX hbl hbA hC.2.2 (law_in1 hi hL) dL_law_639 ?_
  refine lv_aload_n hx hb dL_law_640 rfl (lv_at hl 0 rfl) ?_
  refine lv_iload_n hx hb dL_law_641 rfl (lv_at hl 3 rfl) ?_
  refine lv_iconst (v := 2) hx hb dL_law_642 (by decide) ?_
  refine lv_iadd hx hb dL_law_643 ?_
  refine va_sld hx hb hX hbl hbA hC.2.2 (law_in2 hi hL) dL_law_644 ?_
  refine lv_aload_n hx hb dL_law_645 rfl (lv_at hl 0 rfl) ?_
  refine lv_iload_n hx hb dL_law_646 rfl (lv_at hl 3 rfl) ?_
  refine lv_iconst (v := 3) hx hb dL_law_647 (by decide) ?_
  refine lv_iadd hx hb dL_law_648 ?_
  refine va_sld hx hb hX hbl hbA hC.2.2 (law_in3 hi hL) dL_law_649 ?_
  refine ss_ki (ss_rV (E := (ss_EC D A Lc (ss_ws 10 Lm (ss_ceM Lm cI cZ) τ) cI cZ cS)) (C := RX4) (As := [.int (xs (Int32.toNatClampNeg (nI i + 1))), .int (xs (Int32.toNatClampNeg (nI i + 2))), .int (xs (Int32.toNatClampNeg (nI i + 3)))]) (rest := []) F (mX4_numbered l D A Lc (ss_ws 10 Lm (ss_ceM Lm cI cZ) τ) cI cZ cS σ (xs (Int32.toNatClampNeg (nI i + 1))) (xs (Int32.toNatClampNeg (nI i + 2))) (xs (Int32.toNatClampNeg (nI i + 3))) _) gL_law_X4_numbered rfl ⟨rfl, rfl⟩ ⟨rfl, dvX4_numbered⟩ ⟨Nat.le_of_ble_eq_true rfl, Nat.le_of_ble_eq_true rfl⟩ (ss_preV F.2.2.2.2.1 F.2.2.2.2.2 hC (ss_rec (C := RX4) (T := TX4) (N := 9) (ci := 4) F.2.2.2.2.1 hC 0 (Nat.le_of_ble_eq_true rfl) rfl rfl) hw) rfl hl.1 rfl (Nat.le_of_ble_eq_true rfl) dL_law_650 hf) hC (fun r σ1 H locs hC hw => ?_)
  replace hC := ss_swM hC
  refine lv_aload_n hx hb dL_law_653 rfl (lv_at hl 2 rfl) ?_
  refine lv_aload_n hx hb dL_law_654 rfl (lv_at hl 0 rfl) ?_
  refine lv_iload_n hx hb dL_law_655 rfl (lv_at hl 3 rfl) ?_
  refine lv_iconst (v := 1) hx hb dL_law_656 (by decide) ?_
  refine lv_iadd hx hb dL_law_657 ?_
  refine va_sld hx hb hX hbl hbA hC.2.2 (law_in1 hi hL) dL_law_658 ?_
  refine lv_aload_n hx hb dL_law_659 rfl (lv_at hl 0 rfl) ?_
  refine lv_iload_n hx hb dL_law_660 rfl (lv_at hl 3 rfl) ?_
  refine lv_iconst (v := 2) hx hb dL_law_661 (by decide) ?_
  refine lv_iadd hx hb dL_law_662 ?_
  refine va_sld hx hb hX hbl hbA hC.2.2 (law_in2 hi hL) dL_law_663 ?_
  refine lv_aload_n hx hb dL_law_664 rfl (lv_at hl 0 rfl) ?_
  refine lv_iload_n hx hb dL_law_665 rfl (lv_at hl 3 rfl) ?_
  refine lv_iconst (v := 3) hx hb dL_law_666 (by decide) ?_
  refine lv_iadd hx hb dL_law_667 ?_
  refine va_sld hx hb hX hbl hbA hC.2.2 (law_in3 hi hL) dL_law_668 ?_
  refine ss_ki (ss_rV (E := (ss_EM D A Lm (ss_ws 174 Lc (ss_ceC Lc cI cS) σ1) cI cZ cS)) (C := RX5) (As := [.int (xs (Int32.toNatClampNeg (nI i + 1))), .int (xs (Int32.toNatClampNeg (nI i + 2))), .int (xs (Int32.toNatClampNeg (nI i + 3)))]) (rest := [.int r]) (ss_FM F) (mX5_numbered l D A Lm (ss_ws 174 Lc (ss_ceC Lc cI cS) σ1) cI cZ cS τ (xs (Int32.toNatClampNeg (nI i + 1))) (xs (Int32.toNatClampNeg (nI i + 2))) (xs (Int32.toNatClampNeg (nI i + 3))) _) gL_law_X5_numbered rfl ⟨rfl, rfl⟩ ⟨rfl, dvX5_numbered⟩ ⟨Nat.le_of_ble_eq_true rfl, Nat.le_of_ble_eq_true rfl⟩ (ss_preV (E := (ss_EM D A Lm (ss_ws 174 Lc (ss_ceC Lc cI cS) σ1) cI cZ cS)) F.2.2.2.2.1 F.2.2.2.2.2 hC (ss_rec (E := (ss_EM D A Lm (ss_ws 174 Lc (ss_ceC Lc cI cS) σ1) cI cZ cS)) (C := RX5) (T := TX5) (N := 16) (ci := 5) F.2.2.2.2.1 hC 0 (Nat.le_of_ble_eq_true rfl) rfl rfl) hw) rfl hl.1 rfl (Nat.le_of_ble_eq_true rfl) dL_law_669 hf) hC (fun r' τ1 H locs hC hw => ?_)
  replace hC := ss_swC hC
  refine lv_icmp_eq (tgt := 1076) hx hb dL_law_672 (by decide) (fun hc => ?_) (fun hc => absurd hw.1 hc)
  exact hk _ _ _ _ _ hC hl hw.2

set_option maxHeartbeats 4000000 in
set_option maxRecDepth 100000 in
theorem law_c15 (F : ss_F p R s m args meth c (ss_EC D A Lc (ss_ws 10 Lm (ss_ceM Lm cI cZ) τ) cI cZ cS) cL_law 4 wsL_law RL ret room_1) (hf : 600000 ≤ R.cells ∧ 7302250 ≤ R.slots) (hX : va_X b LL xs s s.heap) (hbl : b < s.heap.size) (hbA : ¬ A b) (hi : i + 4 ≤ LL) (hL : LL ≤ 2048) (hC : ss_C (ss_EC D A Lc (ss_ws 10 Lm (ss_ceM Lm cI cZ) τ) cI cZ cS) σ s H locs) (hl : lv_has ls 4 [(0, .ref b), (1, .ref (Lc 0)), (2, .ref (Lm 0)), (3, .int (nI i))]) (hw : wX4_many (xs (Int32.toNatClampNeg (nI i + 1))) σ (fun r σ1 => wX5_many (xs (Int32.toNatClampNeg (nI i + 1))) τ (fun r' τ1 => r = r' ∧ Inv σ1 τ1))) (hk : ∀ (σ τ : ss_S) (H : Heap) (locs : List Loc) (ls : Array Slot), ss_C (ss_EC D A Lc (ss_ws 10 Lm (ss_ceM Lm cI cZ) τ) cI cZ cS) σ s H locs → lv_has ls 4 [(0, .ref b), (1, .ref (Lc 0)), (2, .ref (Lm 0)), (3, .int (nI i))] → Inv σ τ → W p l e R s m args below meth c H locs 600000 7302250 Q (F0 m 1076 ls [])) : W p l e R s m args below meth c H locs 600000 7302250 Q (F0 m 677 ls []) := by
  have hx := F.1.1
  have hb := F.1.2.1
  refine lv_aload_n hx hb dL_law_677 rfl (lv_at hl 1 rfl) ?_
  refine lv_aload_n hx hb dL_law_678 rfl (lv_at hl 0 rfl) ?_
  refine lv_iload_n hx hb dL_law_679 rfl (lv_at hl 3 rfl) ?_
  refine lv_iconst (v := 1) hx hb dL_law_680 (by decide) ?_
  refine lv_iadd hx hb dL_law_681 ?_
  refine va_sld hx hb hX hbl hbA hC.2.2 (law_in1 hi hL) dL_law_682 ?_
  refine ss_ki (ss_rV (E := (ss_EC D A Lc (ss_ws 10 Lm (ss_ceM Lm cI cZ) τ) cI cZ cS)) (C := RX4) (As := [.int (xs (Int32.toNatClampNeg (nI i + 1)))]) (rest := []) F (mX4_many l D A Lc (ss_ws 10 Lm (ss_ceM Lm cI cZ) τ) cI cZ cS σ (xs (Int32.toNatClampNeg (nI i + 1))) _) gL_law_X4_many rfl ⟨rfl, rfl⟩ ⟨rfl, dvX4_many⟩ ⟨Nat.le_of_ble_eq_true rfl, Nat.le_of_ble_eq_true rfl⟩ (ss_preV F.2.2.2.2.1 F.2.2.2.2.2 hC (ss_rec (C := RX4) (T := TX4) (N := 9) (ci := 4) F.2.2.2.2.1 hC 0 (Nat.le_of_ble_eq_true rfl) rfl rfl) hw) rfl hl.1 rfl (Nat.le_of_ble_eq_true rfl) dL_law_683 hf) hC (fun r σ1 H locs hC hw => ?_)
  replace hC := ss_swM hC
  refine lv_aload_n hx hb dL_law_686 rfl (lv_at hl 2 rfl) ?_
  refine lv_aload_n hx hb dL_law_687 rfl (lv_at hl 0 rfl) ?_
  refine lv_iload_n hx hb dL_law_688 rfl (lv_at hl 3 rfl) ?_
  refine lv_iconst (v := 1) hx hb dL_law_689 (by decide) ?_
  refine lv_iadd hx hb dL_law_690 ?_
  refine va_sld hx hb hX hbl hbA hC.2.2 (law_in1 hi hL) dL_law_691 ?_
  refine ss_ki (ss_rV (E := (ss_EM D A Lm (ss_ws 174 Lc (ss_ceC Lc cI cS) σ1) cI cZ cS)) (C := RX5) (As := [.int (xs (Int32.toNatClampNeg (nI i + 1)))]) (rest := [.int r]) (ss_FM F) (mX5_many l D A Lm (ss_ws 174 Lc (ss_ceC Lc cI cS) σ1) cI cZ cS τ (xs (Int32.toNatClampNeg (nI i + 1))) _) gL_law_X5_many rfl ⟨rfl, rfl⟩ ⟨rfl, dvX5_many⟩ ⟨Nat.le_of_ble_eq_true rfl, Nat.le_of_ble_eq_true rfl⟩ (ss_preV (E := (ss_EM D A Lm (ss_ws 174 Lc (ss_ceC Lc cI cS) σ1) cI cZ cS)) F.2.2.2.2.1 F.2.2.2.2.2 hC (ss_rec (E := (ss_EM D A Lm (ss_ws 174 Lc (ss_ceC Lc cI cS) σ1) cI cZ cS)) (C := RX5) (T := TX5) (N := 16) (ci := 5) F.2.2.2.2.1 hC 0 (Nat.le_of_ble_eq_true rfl) rfl rfl) hw) rfl hl.1 rfl (Nat.le_of_ble_eq_true rfl) dL_law_692 hf) hC (fun r' τ1 H locs hC hw => ?_)
  replace hC := ss_swC hC
  refine lv_icmp_eq (tgt := 1076) hx hb dL_law_695 (by decide) (fun hc => ?_) (fun hc => absurd hw.1 hc)
  exact hk _ _ _ _ _ hC hl hw.2

set_option maxHeartbeats 4000000 in
set_option maxRecDepth 100000 in
theorem law_c16 (F : ss_F p R s m args meth c (ss_EC D A Lc (ss_ws 10 Lm (ss_ceM Lm cI cZ) τ) cI cZ cS) cL_law 4 wsL_law RL ret room_1) (hf : 600000 ≤ R.cells ∧ 7302250 ≤ R.slots) (hX : va_X b LL xs s s.heap) (hbl : b < s.heap.size) (hbA : ¬ A b) (hi : i + 4 ≤ LL) (hL : LL ≤ 2048) (hC : ss_C (ss_EC D A Lc (ss_ws 10 Lm (ss_ceM Lm cI cZ) τ) cI cZ cS) σ s H locs) (hl : lv_has ls 4 [(0, .ref b), (1, .ref (Lc 0)), (2, .ref (Lm 0)), (3, .int (nI i))]) (hw : wX4_over (xs (Int32.toNatClampNeg (nI i + 1))) (xs (Int32.toNatClampNeg (nI i + 2))) σ (fun r σ1 => wX5_over (xs (Int32.toNatClampNeg (nI i + 1))) (xs (Int32.toNatClampNeg (nI i + 2))) τ (fun r' τ1 => r = r' ∧ Inv σ1 τ1))) (hk : ∀ (σ τ : ss_S) (H : Heap) (locs : List Loc) (ls : Array Slot), ss_C (ss_EC D A Lc (ss_ws 10 Lm (ss_ceM Lm cI cZ) τ) cI cZ cS) σ s H locs → lv_has ls 4 [(0, .ref b), (1, .ref (Lc 0)), (2, .ref (Lm 0)), (3, .int (nI i))] → Inv σ τ → W p l e R s m args below meth c H locs 600000 7302250 Q (F0 m 1076 ls [])) : W p l e R s m args below meth c H locs 600000 7302250 Q (F0 m 700 ls []) := by
  have hx := F.1.1
  have hb := F.1.2.1
  refine lv_aload_n hx hb dL_law_700 rfl (lv_at hl 1 rfl) ?_
  refine lv_aload_n hx hb dL_law_701 rfl (lv_at hl 0 rfl) ?_
  refine lv_iload_n hx hb dL_law_702 rfl (lv_at hl 3 rfl) ?_
  refine lv_iconst (v := 1) hx hb dL_law_703 (by decide) ?_
  refine lv_iadd hx hb dL_law_704 ?_
  refine va_sld hx hb hX hbl hbA hC.2.2 (law_in1 hi hL) dL_law_705 ?_
  refine lv_aload_n hx hb dL_law_706 rfl (lv_at hl 0 rfl) ?_
  refine lv_iload_n hx hb dL_law_707 rfl (lv_at hl 3 rfl) ?_
  refine lv_iconst (v := 2) hx hb dL_law_708 (by decide) ?_
  refine lv_iadd hx hb dL_law_709 ?_
  refine va_sld hx hb hX hbl hbA hC.2.2 (law_in2 hi hL) dL_law_710 ?_
  refine ss_ki (ss_rV (E := (ss_EC D A Lc (ss_ws 10 Lm (ss_ceM Lm cI cZ) τ) cI cZ cS)) (C := RX4) (As := [.int (xs (Int32.toNatClampNeg (nI i + 1))), .int (xs (Int32.toNatClampNeg (nI i + 2)))]) (rest := []) F (mX4_over l D A Lc (ss_ws 10 Lm (ss_ceM Lm cI cZ) τ) cI cZ cS σ (xs (Int32.toNatClampNeg (nI i + 1))) (xs (Int32.toNatClampNeg (nI i + 2))) _) gL_law_X4_over rfl ⟨rfl, rfl⟩ ⟨rfl, dvX4_over⟩ ⟨Nat.le_of_ble_eq_true rfl, Nat.le_of_ble_eq_true rfl⟩ (ss_preV F.2.2.2.2.1 F.2.2.2.2.2 hC (ss_rec (C := RX4) (T := TX4) (N := 9) (ci := 4) F.2.2.2.2.1 hC 0 (Nat.le_of_ble_eq_true rfl) rfl rfl) hw) rfl hl.1 rfl (Nat.le_of_ble_eq_true rfl) dL_law_711 hf) hC (fun r σ1 H locs hC hw => ?_)
  replace hC := ss_swM hC
  refine lv_aload_n hx hb dL_law_714 rfl (lv_at hl 2 rfl) ?_
  refine lv_aload_n hx hb dL_law_715 rfl (lv_at hl 0 rfl) ?_
  refine lv_iload_n hx hb dL_law_716 rfl (lv_at hl 3 rfl) ?_
  refine lv_iconst (v := 1) hx hb dL_law_717 (by decide) ?_
  refine lv_iadd hx hb dL_law_718 ?_
  refine va_sld hx hb hX hbl hbA hC.2.2 (law_in1 hi hL) dL_law_719 ?_
  refine lv_aload_n hx hb dL_law_720 rfl (lv_at hl 0 rfl) ?_
  refine lv_iload_n hx hb dL_law_721 rfl (lv_at hl 3 rfl) ?_
  refine lv_iconst (v := 2) hx hb dL_law_722 (by decide) ?_
  refine lv_iadd hx hb dL_law_723 ?_
  refine va_sld hx hb hX hbl hbA hC.2.2 (law_in2 hi hL) dL_law_724 ?_
  refine ss_ki (ss_rV (E := (ss_EM D A Lm (ss_ws 174 Lc (ss_ceC Lc cI cS) σ1) cI cZ cS)) (C := RX5) (As := [.int (xs (Int32.toNatClampNeg (nI i + 1))), .int (xs (Int32.toNatClampNeg (nI i + 2)))]) (rest := [.int r]) (ss_FM F) (mX5_over l D A Lm (ss_ws 174 Lc (ss_ceC Lc cI cS) σ1) cI cZ cS τ (xs (Int32.toNatClampNeg (nI i + 1))) (xs (Int32.toNatClampNeg (nI i + 2))) _) gL_law_X5_over rfl ⟨rfl, rfl⟩ ⟨rfl, dvX5_over⟩ ⟨Nat.le_of_ble_eq_true rfl, Nat.le_of_ble_eq_true rfl⟩ (ss_preV (E := (ss_EM D A Lm (ss_ws 174 Lc (ss_ceC Lc cI cS) σ1) cI cZ cS)) F.2.2.2.2.1 F.2.2.2.2.2 hC (ss_rec (E := (ss_EM D A Lm (ss_ws 174 Lc (ss_ceC Lc cI cS) σ1) cI cZ cS)) (C := RX5) (T := TX5) (N := 16) (ci := 5) F.2.2.2.2.1 hC 0 (Nat.le_of_ble_eq_true rfl) rfl rfl) hw) rfl hl.1 rfl (Nat.le_of_ble_eq_true rfl) dL_law_725 hf) hC (fun r' τ1 H locs hC hw => ?_)
  replace hC := ss_swC hC
  refine lv_icmp_eq (tgt := 1076) hx hb dL_law_728 (by decide) (fun hc => ?_) (fun hc => absurd hw.1 hc)
  exact hk _ _ _ _ _ hC hl hw.2

set_option maxHeartbeats 4000000 in
set_option maxRecDepth 100000 in
theorem law_c17 (F : ss_F p R s m args meth c (ss_EC D A Lc (ss_ws 10 Lm (ss_ceM Lm cI cZ) τ) cI cZ cS) cL_law 4 wsL_law RL ret room_1) (hf : 600000 ≤ R.cells ∧ 7302250 ≤ R.slots) (hX : va_X b LL xs s s.heap) (hbl : b < s.heap.size) (hbA : ¬ A b) (hi : i + 4 ≤ LL) (hL : LL ≤ 2048) (hC : ss_C (ss_EC D A Lc (ss_ws 10 Lm (ss_ceM Lm cI cZ) τ) cI cZ cS) σ s H locs) (hl : lv_has ls 4 [(0, .ref b), (1, .ref (Lc 0)), (2, .ref (Lm 0)), (3, .int (nI i))]) (hw : wX4_meeting (xs (Int32.toNatClampNeg (nI i + 1))) (xs (Int32.toNatClampNeg (nI i + 2))) (xs (Int32.toNatClampNeg (nI i + 3))) σ (fun r σ1 => wX5_meeting (xs (Int32.toNatClampNeg (nI i + 1))) (xs (Int32.toNatClampNeg (nI i + 2))) (xs (Int32.toNatClampNeg (nI i + 3))) τ (fun r' τ1 => r = r' ∧ Inv σ1 τ1))) (hk : ∀ (σ τ : ss_S) (H : Heap) (locs : List Loc) (ls : Array Slot), ss_C (ss_EC D A Lc (ss_ws 10 Lm (ss_ceM Lm cI cZ) τ) cI cZ cS) σ s H locs → lv_has ls 4 [(0, .ref b), (1, .ref (Lc 0)), (2, .ref (Lm 0)), (3, .int (nI i))] → Inv σ τ → W p l e R s m args below meth c H locs 600000 7302250 Q (F0 m 1076 ls [])) : W p l e R s m args below meth c H locs 600000 7302250 Q (F0 m 733 ls []) := by
  have hx := F.1.1
  have hb := F.1.2.1
  refine lv_aload_n hx hb dL_law_733 rfl (lv_at hl 1 rfl) ?_
  refine lv_aload_n hx hb dL_law_734 rfl (lv_at hl 0 rfl) ?_
  refine lv_iload_n hx hb dL_law_735 rfl (lv_at hl 3 rfl) ?_
  refine lv_iconst (v := 1) hx hb dL_law_736 (by decide) ?_
  refine lv_iadd hx hb dL_law_737 ?_
  refine va_sld hx hb hX hbl hbA hC.2.2 (law_in1 hi hL) dL_law_738 ?_
  refine lv_aload_n hx hb dL_law_739 rfl (lv_at hl 0 rfl) ?_
  refine lv_iload_n hx hb dL_law_740 rfl (lv_at hl 3 rfl) ?_
  refine lv_iconst (v := 2) hx hb dL_law_741 (by decide) ?_
  refine lv_iadd hx hb dL_law_742 ?_
  refine va_sld hx hb hX hbl hbA hC.2.2 (law_in2 hi hL) dL_law_743 ?_
  refine lv_aload_n hx hb dL_law_744 rfl (lv_at hl 0 rfl) ?_
  refine lv_iload_n hx hb dL_law_745 rfl (lv_at hl 3 rfl) ?_
  refine lv_iconst (v := 3) hx hb dL_law_746 (by decide) ?_
  refine lv_iadd hx hb dL_law_747 ?_
  refine va_sld hx hb hX hbl hbA hC.2.2 (law_in3 hi hL) dL_law_748 ?_
  refine ss_ki (ss_rV (E := (ss_EC D A Lc (ss_ws 10 Lm (ss_ceM Lm cI cZ) τ) cI cZ cS)) (C := RX4) (As := [.int (xs (Int32.toNatClampNeg (nI i + 1))), .int (xs (Int32.toNatClampNeg (nI i + 2))), .int (xs (Int32.toNatClampNeg (nI i + 3)))]) (rest := []) F (mX4_meeting l D A Lc (ss_ws 10 Lm (ss_ceM Lm cI cZ) τ) cI cZ cS σ (xs (Int32.toNatClampNeg (nI i + 1))) (xs (Int32.toNatClampNeg (nI i + 2))) (xs (Int32.toNatClampNeg (nI i + 3))) _) gL_law_X4_meeting rfl ⟨rfl, rfl⟩ ⟨rfl, dvX4_meeting⟩ ⟨Nat.le_of_ble_eq_true rfl, Nat.le_of_ble_eq_true rfl⟩ (ss_preV F.2.2.2.2.1 F.2.2.2.2.2 hC (ss_rec (C := RX4) (T := TX4) (N := 9) (ci := 4) F.2.2.2.2.1 hC 0 (Nat.le_of_ble_eq_true rfl) rfl rfl) hw) rfl hl.1 rfl (Nat.le_of_ble_eq_true rfl) dL_law_749 hf) hC (fun r σ1 H locs hC hw => ?_)
  replace hC := ss_swM hC
  refine lv_aload_n hx hb dL_law_752 rfl (lv_at hl 2 rfl) ?_
  refine lv_aload_n hx hb dL_law_753 rfl (lv_at hl 0 rfl) ?_
  refine lv_iload_n hx hb dL_law_754 rfl (lv_at hl 3 rfl) ?_
  refine lv_iconst (v := 1) hx hb dL_law_755 (by decide) ?_
  refine lv_iadd hx hb dL_law_756 ?_
  refine va_sld hx hb hX hbl hbA hC.2.2 (law_in1 hi hL) dL_law_757 ?_
  refine lv_aload_n hx hb dL_law_758 rfl (lv_at hl 0 rfl) ?_
  refine lv_iload_n hx hb dL_law_759 rfl (lv_at hl 3 rfl) ?_
  refine lv_iconst (v := 2) hx hb dL_law_760 (by decide) ?_
  refine lv_iadd hx hb dL_law_761 ?_
  refine va_sld hx hb hX hbl hbA hC.2.2 (law_in2 hi hL) dL_law_762 ?_
  refine lv_aload_n hx hb dL_law_763 rfl (lv_at hl 0 rfl) ?_
  refine lv_iload_n hx hb dL_law_764 rfl (lv_at hl 3 rfl) ?_
  refine lv_iconst (v := 3) hx hb dL_law_765 (by decide) ?_
  refine lv_iadd hx hb dL_law_766 ?_
  refine va_sld hx hb hX hbl hbA hC.2.2 (law_in3 hi hL) dL_law_767 ?_
  refine ss_ki (ss_rV (E := (ss_EM D A Lm (ss_ws 174 Lc (ss_ceC Lc cI cS) σ1) cI cZ cS)) (C := RX5) (As := [.int (xs (Int32.toNatClampNeg (nI i + 1))), .int (xs (Int32.toNatClampNeg (nI i + 2))), .int (xs (Int32.toNatClampNeg (nI i + 3)))]) (rest := [.int r]) (ss_FM F) (mX5_meeting l D A Lm (ss_ws 174 Lc (ss_ceC Lc cI cS) σ1) cI cZ cS τ (xs (Int32.toNatClampNeg (nI i + 1))) (xs (Int32.toNatClampNeg (nI i + 2))) (xs (Int32.toNatClampNeg (nI i + 3))) _) gL_law_X5_meeting rfl ⟨rfl, rfl⟩ ⟨rfl, dvX5_meeting⟩ ⟨Nat.le_of_ble_eq_true rfl, Nat.le_of_ble_eq_true rfl⟩ (ss_preV (E := (ss_EM D A Lm (ss_ws 174 Lc (ss_ceC Lc cI cS) σ1) cI cZ cS)) F.2.2.2.2.1 F.2.2.2.2.2 hC (ss_rec (E := (ss_EM D A Lm (ss_ws 174 Lc (ss_ceC Lc cI cS) σ1) cI cZ cS)) (C := RX5) (T := TX5) (N := 16) (ci := 5) F.2.2.2.2.1 hC 0 (Nat.le_of_ble_eq_true rfl) rfl rfl) hw) rfl hl.1 rfl (Nat.le_of_ble_eq_true rfl) dL_law_768 hf) hC (fun r' τ1 H locs hC hw => ?_)
  replace hC := ss_swC hC
  refine lv_icmp_eq (tgt := 1076) hx hb dL_law_771 (by decide) (fun hc => ?_) (fun hc => absurd hw.1 hc)
  exact hk _ _ _ _ _ hC hl hw.2

set_option maxHeartbeats 4000000 in
set_option maxRecDepth 100000 in
theorem law_c18 (F : ss_F p R s m args meth c (ss_EC D A Lc (ss_ws 10 Lm (ss_ceM Lm cI cZ) τ) cI cZ cS) cL_law 4 wsL_law RL ret room_1) (hf : 600000 ≤ R.cells ∧ 7302250 ≤ R.slots) (hX : va_X b LL xs s s.heap) (hbl : b < s.heap.size) (hbA : ¬ A b) (hi : i + 4 ≤ LL) (hL : LL ≤ 2048) (hC : ss_C (ss_EC D A Lc (ss_ws 10 Lm (ss_ceM Lm cI cZ) τ) cI cZ cS) σ s H locs) (hl : lv_has ls 4 [(0, .ref b), (1, .ref (Lc 0)), (2, .ref (Lm 0)), (3, .int (nI i))]) (hw : wX4_put (xs (Int32.toNatClampNeg (nI i + 1))) σ (fun r σ1 => wX5_put (xs (Int32.toNatClampNeg (nI i + 1))) τ (fun r' τ1 => r = r' ∧ Inv σ1 τ1))) (hk : ∀ (σ τ : ss_S) (H : Heap) (locs : List Loc) (ls : Array Slot), ss_C (ss_EC D A Lc (ss_ws 10 Lm (ss_ceM Lm cI cZ) τ) cI cZ cS) σ s H locs → lv_has ls 4 [(0, .ref b), (1, .ref (Lc 0)), (2, .ref (Lm 0)), (3, .int (nI i))] → Inv σ τ → W p l e R s m args below meth c H locs 600000 7302250 Q (F0 m 1076 ls [])) : W p l e R s m args below meth c H locs 600000 7302250 Q (F0 m 776 ls []) := by
  have hx := F.1.1
  have hb := F.1.2.1
  refine lv_aload_n hx hb dL_law_776 rfl (lv_at hl 1 rfl) ?_
  refine lv_aload_n hx hb dL_law_777 rfl (lv_at hl 0 rfl) ?_
  refine lv_iload_n hx hb dL_law_778 rfl (lv_at hl 3 rfl) ?_
  refine lv_iconst (v := 1) hx hb dL_law_779 (by decide) ?_
  refine lv_iadd hx hb dL_law_780 ?_
  refine va_sld hx hb hX hbl hbA hC.2.2 (law_in1 hi hL) dL_law_781 ?_
  refine ss_ki (ss_rV (E := (ss_EC D A Lc (ss_ws 10 Lm (ss_ceM Lm cI cZ) τ) cI cZ cS)) (C := RX4) (As := [.int (xs (Int32.toNatClampNeg (nI i + 1)))]) (rest := []) F (mX4_put l D A Lc (ss_ws 10 Lm (ss_ceM Lm cI cZ) τ) cI cZ cS σ (xs (Int32.toNatClampNeg (nI i + 1))) _) gL_law_X4_put rfl ⟨rfl, rfl⟩ ⟨rfl, dvX4_put⟩ ⟨Nat.le_of_ble_eq_true rfl, Nat.le_of_ble_eq_true rfl⟩ (ss_preV F.2.2.2.2.1 F.2.2.2.2.2 hC (ss_rec (C := RX4) (T := TX4) (N := 9) (ci := 4) F.2.2.2.2.1 hC 0 (Nat.le_of_ble_eq_true rfl) rfl rfl) hw) rfl hl.1 rfl (Nat.le_of_ble_eq_true rfl) dL_law_782 hf) hC (fun r σ1 H locs hC hw => ?_)
  replace hC := ss_swM hC
  refine lv_aload_n hx hb dL_law_785 rfl (lv_at hl 2 rfl) ?_
  refine lv_aload_n hx hb dL_law_786 rfl (lv_at hl 0 rfl) ?_
  refine lv_iload_n hx hb dL_law_787 rfl (lv_at hl 3 rfl) ?_
  refine lv_iconst (v := 1) hx hb dL_law_788 (by decide) ?_
  refine lv_iadd hx hb dL_law_789 ?_
  refine va_sld hx hb hX hbl hbA hC.2.2 (law_in1 hi hL) dL_law_790 ?_
  refine ss_ki (ss_rV (E := (ss_EM D A Lm (ss_ws 174 Lc (ss_ceC Lc cI cS) σ1) cI cZ cS)) (C := RX5) (As := [.int (xs (Int32.toNatClampNeg (nI i + 1)))]) (rest := [.int r]) (ss_FM F) (mX5_put l D A Lm (ss_ws 174 Lc (ss_ceC Lc cI cS) σ1) cI cZ cS τ (xs (Int32.toNatClampNeg (nI i + 1))) _) gL_law_X5_put rfl ⟨rfl, rfl⟩ ⟨rfl, dvX5_put⟩ ⟨Nat.le_of_ble_eq_true rfl, Nat.le_of_ble_eq_true rfl⟩ (ss_preV (E := (ss_EM D A Lm (ss_ws 174 Lc (ss_ceC Lc cI cS) σ1) cI cZ cS)) F.2.2.2.2.1 F.2.2.2.2.2 hC (ss_rec (E := (ss_EM D A Lm (ss_ws 174 Lc (ss_ceC Lc cI cS) σ1) cI cZ cS)) (C := RX5) (T := TX5) (N := 16) (ci := 5) F.2.2.2.2.1 hC 0 (Nat.le_of_ble_eq_true rfl) rfl rfl) hw) rfl hl.1 rfl (Nat.le_of_ble_eq_true rfl) dL_law_791 hf) hC (fun r' τ1 H locs hC hw => ?_)
  replace hC := ss_swC hC
  refine lv_icmp_eq (tgt := 1076) hx hb dL_law_794 (by decide) (fun hc => ?_) (fun hc => absurd hw.1 hc)
  exact hk _ _ _ _ _ hC hl hw.2

set_option maxHeartbeats 4000000 in
set_option maxRecDepth 100000 in
theorem law_c19 (F : ss_F p R s m args meth c (ss_EC D A Lc (ss_ws 10 Lm (ss_ceM Lm cI cZ) τ) cI cZ cS) cL_law 4 wsL_law RL ret room_1) (hf : 600000 ≤ R.cells ∧ 7302250 ≤ R.slots) (hX : va_X b LL xs s s.heap) (hbl : b < s.heap.size) (hbA : ¬ A b) (hi : i + 4 ≤ LL) (hL : LL ≤ 2048) (hC : ss_C (ss_EC D A Lc (ss_ws 10 Lm (ss_ceM Lm cI cZ) τ) cI cZ cS) σ s H locs) (hl : lv_has ls 4 [(0, .ref b), (1, .ref (Lc 0)), (2, .ref (Lm 0)), (3, .int (nI i))]) (hw : wX4_empty  σ (fun r σ1 => wX5_empty  τ (fun r' τ1 => r = r' ∧ Inv σ1 τ1))) (hk : ∀ (σ τ : ss_S) (H : Heap) (locs : List Loc) (ls : Array Slot), ss_C (ss_EC D A Lc (ss_ws 10 Lm (ss_ceM Lm cI cZ) τ) cI cZ cS) σ s H locs → lv_has ls 4 [(0, .ref b), (1, .ref (Lc 0)), (2, .ref (Lm 0)), (3, .int (nI i))] → Inv σ τ → W p l e R s m args below meth c H locs 600000 7302250 Q (F0 m 1076 ls [])) : W p l e R s m args below meth c H locs 600000 7302250 Q (F0 m 799 ls []) := by
  have hx := F.1.1
  have hb := F.1.2.1
  refine lv_aload_n hx hb dL_law_799 rfl (lv_at hl 1 rfl) ?_
  refine ss_ki (ss_rV (E := (ss_EC D A Lc (ss_ws 10 Lm (ss_ceM Lm cI cZ) τ) cI cZ cS)) (C := RX4) (As := []) (rest := []) F (mX4_empty l D A Lc (ss_ws 10 Lm (ss_ceM Lm cI cZ) τ) cI cZ cS σ  _) gL_law_X4_empty rfl ⟨rfl, rfl⟩ ⟨rfl, dvX4_empty⟩ ⟨Nat.le_of_ble_eq_true rfl, Nat.le_of_ble_eq_true rfl⟩ (ss_preV F.2.2.2.2.1 F.2.2.2.2.2 hC (ss_rec (C := RX4) (T := TX4) (N := 9) (ci := 4) F.2.2.2.2.1 hC 0 (Nat.le_of_ble_eq_true rfl) rfl rfl) hw) rfl hl.1 rfl (Nat.le_of_ble_eq_true rfl) dL_law_800 hf) hC (fun r σ1 H locs hC hw => ?_)
  replace hC := ss_swM hC
  refine lv_aload_n hx hb dL_law_803 rfl (lv_at hl 2 rfl) ?_
  refine ss_ki (ss_rV (E := (ss_EM D A Lm (ss_ws 174 Lc (ss_ceC Lc cI cS) σ1) cI cZ cS)) (C := RX5) (As := []) (rest := [.int r]) (ss_FM F) (mX5_empty l D A Lm (ss_ws 174 Lc (ss_ceC Lc cI cS) σ1) cI cZ cS τ  _) gL_law_X5_empty rfl ⟨rfl, rfl⟩ ⟨rfl, dvX5_empty⟩ ⟨Nat.le_of_ble_eq_true rfl, Nat.le_of_ble_eq_true rfl⟩ (ss_preV (E := (ss_EM D A Lm (ss_ws 174 Lc (ss_ceC Lc cI cS) σ1) cI cZ cS)) F.2.2.2.2.1 F.2.2.2.2.2 hC (ss_rec (E := (ss_EM D A Lm (ss_ws 174 Lc (ss_ceC Lc cI cS) σ1) cI cZ cS)) (C := RX5) (T := TX5) (N := 16) (ci := 5) F.2.2.2.2.1 hC 0 (Nat.le_of_ble_eq_true rfl) rfl rfl) hw) rfl hl.1 rfl (Nat.le_of_ble_eq_true rfl) dL_law_804 hf) hC (fun r' τ1 H locs hC hw => ?_)
  replace hC := ss_swC hC
  refine lv_icmp_eq (tgt := 1076) hx hb dL_law_807 (by decide) (fun hc => ?_) (fun hc => absurd hw.1 hc)
  exact hk _ _ _ _ _ hC hl hw.2

set_option maxHeartbeats 4000000 in
set_option maxRecDepth 100000 in
theorem law_c20 (F : ss_F p R s m args meth c (ss_EC D A Lc (ss_ws 10 Lm (ss_ceM Lm cI cZ) τ) cI cZ cS) cL_law 4 wsL_law RL ret room_1) (hf : 600000 ≤ R.cells ∧ 7302250 ≤ R.slots) (hX : va_X b LL xs s s.heap) (hbl : b < s.heap.size) (hbA : ¬ A b) (hi : i + 4 ≤ LL) (hL : LL ≤ 2048) (hC : ss_C (ss_EC D A Lc (ss_ws 10 Lm (ss_ceM Lm cI cZ) τ) cI cZ cS) σ s H locs) (hl : lv_has ls 4 [(0, .ref b), (1, .ref (Lc 0)), (2, .ref (Lm 0)), (3, .int (nI i))]) (hw : wX4_take (xs (Int32.toNatClampNeg (nI i + 1))) (xs (Int32.toNatClampNeg (nI i + 2))) σ (fun r σ1 => wX5_take (xs (Int32.toNatClampNeg (nI i + 1))) (xs (Int32.toNatClampNeg (nI i + 2))) τ (fun r' τ1 => r = r' ∧ Inv σ1 τ1))) (hk : ∀ (σ τ : ss_S) (H : Heap) (locs : List Loc) (ls : Array Slot), ss_C (ss_EC D A Lc (ss_ws 10 Lm (ss_ceM Lm cI cZ) τ) cI cZ cS) σ s H locs → lv_has ls 4 [(0, .ref b), (1, .ref (Lc 0)), (2, .ref (Lm 0)), (3, .int (nI i))] → Inv σ τ → W p l e R s m args below meth c H locs 600000 7302250 Q (F0 m 1076 ls [])) : W p l e R s m args below meth c H locs 600000 7302250 Q (F0 m 812 ls []) := by
  have hx := F.1.1
  have hb := F.1.2.1
  refine lv_aload_n hx hb dL_law_812 rfl (lv_at hl 1 rfl) ?_
  refine lv_aload_n hx hb dL_law_813 rfl (lv_at hl 0 rfl) ?_
  refine lv_iload_n hx hb dL_law_814 rfl (lv_at hl 3 rfl) ?_
  refine lv_iconst (v := 1) hx hb dL_law_815 (by decide) ?_
  refine lv_iadd hx hb dL_law_816 ?_
  refine va_sld hx hb hX hbl hbA hC.2.2 (law_in1 hi hL) dL_law_817 ?_
  refine lv_aload_n hx hb dL_law_818 rfl (lv_at hl 0 rfl) ?_
  refine lv_iload_n hx hb dL_law_819 rfl (lv_at hl 3 rfl) ?_
  refine lv_iconst (v := 2) hx hb dL_law_820 (by decide) ?_
  refine lv_iadd hx hb dL_law_821 ?_
  refine va_sld hx hb hX hbl hbA hC.2.2 (law_in2 hi hL) dL_law_822 ?_
  refine ss_ki (ss_rV (E := (ss_EC D A Lc (ss_ws 10 Lm (ss_ceM Lm cI cZ) τ) cI cZ cS)) (C := RX4) (As := [.int (xs (Int32.toNatClampNeg (nI i + 1))), .int (xs (Int32.toNatClampNeg (nI i + 2)))]) (rest := []) F (mX4_take l D A Lc (ss_ws 10 Lm (ss_ceM Lm cI cZ) τ) cI cZ cS σ (xs (Int32.toNatClampNeg (nI i + 1))) (xs (Int32.toNatClampNeg (nI i + 2))) _) gL_law_X4_take rfl ⟨rfl, rfl⟩ ⟨rfl, dvX4_take⟩ ⟨Nat.le_of_ble_eq_true rfl, Nat.le_of_ble_eq_true rfl⟩ (ss_preV F.2.2.2.2.1 F.2.2.2.2.2 hC (ss_rec (C := RX4) (T := TX4) (N := 9) (ci := 4) F.2.2.2.2.1 hC 0 (Nat.le_of_ble_eq_true rfl) rfl rfl) hw) rfl hl.1 rfl (Nat.le_of_ble_eq_true rfl) dL_law_823 hf) hC (fun r σ1 H locs hC hw => ?_)
  replace hC := ss_swM hC
  refine lv_aload_n hx hb dL_law_826 rfl (lv_at hl 2 rfl) ?_
  refine lv_aload_n hx hb dL_law_827 rfl (lv_at hl 0 rfl) ?_
  refine lv_iload_n hx hb dL_law_828 rfl (lv_at hl 3 rfl) ?_
  refine lv_iconst (v := 1) hx hb dL_law_829 (by decide) ?_
  refine lv_iadd hx hb dL_law_830 ?_
  refine va_sld hx hb hX hbl hbA hC.2.2 (law_in1 hi hL) dL_law_831 ?_
  refine lv_aload_n hx hb dL_law_832 rfl (lv_at hl 0 rfl) ?_
  refine lv_iload_n hx hb dL_law_833 rfl (lv_at hl 3 rfl) ?_
  refine lv_iconst (v := 2) hx hb dL_law_834 (by decide) ?_
  refine lv_iadd hx hb dL_law_835 ?_
  refine va_sld hx hb hX hbl hbA hC.2.2 (law_in2 hi hL) dL_law_836 ?_
  refine ss_ki (ss_rV (E := (ss_EM D A Lm (ss_ws 174 Lc (ss_ceC Lc cI cS) σ1) cI cZ cS)) (C := RX5) (As := [.int (xs (Int32.toNatClampNeg (nI i + 1))), .int (xs (Int32.toNatClampNeg (nI i + 2)))]) (rest := [.int r]) (ss_FM F) (mX5_take l D A Lm (ss_ws 174 Lc (ss_ceC Lc cI cS) σ1) cI cZ cS τ (xs (Int32.toNatClampNeg (nI i + 1))) (xs (Int32.toNatClampNeg (nI i + 2))) _) gL_law_X5_take rfl ⟨rfl, rfl⟩ ⟨rfl, dvX5_take⟩ ⟨Nat.le_of_ble_eq_true rfl, Nat.le_of_ble_eq_true rfl⟩ (ss_preV (E := (ss_EM D A Lm (ss_ws 174 Lc (ss_ceC Lc cI cS) σ1) cI cZ cS)) F.2.2.2.2.1 F.2.2.2.2.2 hC (ss_rec (E := (ss_EM D A Lm (ss_ws 174 Lc (ss_ceC Lc cI cS) σ1) cI cZ cS)) (C := RX5) (T := TX5) (N := 16) (ci := 5) F.2.2.2.2.1 hC 0 (Nat.le_of_ble_eq_true rfl) rfl rfl) hw) rfl hl.1 rfl (Nat.le_of_ble_eq_true rfl) dL_law_837 hf) hC (fun r' τ1 H locs hC hw => ?_)
  replace hC := ss_swC hC
  refine lv_icmp_eq (tgt := 1076) hx hb dL_law_840 (by decide) (fun hc => ?_) (fun hc => absurd hw.1 hc)
  exact hk _ _ _ _ _ hC hl hw.2

set_option maxHeartbeats 4000000 in
set_option maxRecDepth 100000 in
theorem law_c21 (F : ss_F p R s m args meth c (ss_EC D A Lc (ss_ws 10 Lm (ss_ceM Lm cI cZ) τ) cI cZ cS) cL_law 4 wsL_law RL ret room_1) (hf : 600000 ≤ R.cells ∧ 7302250 ≤ R.slots) (hX : va_X b LL xs s s.heap) (hbl : b < s.heap.size) (hbA : ¬ A b) (hi : i + 4 ≤ LL) (hL : LL ≤ 2048) (hC : ss_C (ss_EC D A Lc (ss_ws 10 Lm (ss_ceM Lm cI cZ) τ) cI cZ cS) σ s H locs) (hl : lv_has ls 4 [(0, .ref b), (1, .ref (Lc 0)), (2, .ref (Lm 0)), (3, .int (nI i))]) (hw : wX4_least  σ (fun r σ1 => wX5_least  τ (fun r' τ1 => r = r' ∧ Inv σ1 τ1))) (hk : ∀ (σ τ : ss_S) (H : Heap) (locs : List Loc) (ls : Array Slot), ss_C (ss_EC D A Lc (ss_ws 10 Lm (ss_ceM Lm cI cZ) τ) cI cZ cS) σ s H locs → lv_has ls 4 [(0, .ref b), (1, .ref (Lc 0)), (2, .ref (Lm 0)), (3, .int (nI i))] → Inv σ τ → W p l e R s m args below meth c H locs 600000 7302250 Q (F0 m 1076 ls [])) : W p l e R s m args below meth c H locs 600000 7302250 Q (F0 m 845 ls []) := by
  have hx := F.1.1
  have hb := F.1.2.1
  refine lv_aload_n hx hb dL_law_845 rfl (lv_at hl 1 rfl) ?_
  refine ss_ki (ss_rV (E := (ss_EC D A Lc (ss_ws 10 Lm (ss_ceM Lm cI cZ) τ) cI cZ cS)) (C := RX4) (As := []) (rest := []) F (mX4_least l D A Lc (ss_ws 10 Lm (ss_ceM Lm cI cZ) τ) cI cZ cS σ  _) gL_law_X4_least rfl ⟨rfl, rfl⟩ ⟨rfl, dvX4_least⟩ ⟨Nat.le_of_ble_eq_true rfl, Nat.le_of_ble_eq_true rfl⟩ (ss_preV F.2.2.2.2.1 F.2.2.2.2.2 hC (ss_rec (C := RX4) (T := TX4) (N := 9) (ci := 4) F.2.2.2.2.1 hC 0 (Nat.le_of_ble_eq_true rfl) rfl rfl) hw) rfl hl.1 rfl (Nat.le_of_ble_eq_true rfl) dL_law_846 hf) hC (fun r σ1 H locs hC hw => ?_)
  replace hC := ss_swM hC
  refine lv_aload_n hx hb dL_law_849 rfl (lv_at hl 2 rfl) ?_
  refine ss_ki (ss_rV (E := (ss_EM D A Lm (ss_ws 174 Lc (ss_ceC Lc cI cS) σ1) cI cZ cS)) (C := RX5) (As := []) (rest := [.int r]) (ss_FM F) (mX5_least l D A Lm (ss_ws 174 Lc (ss_ceC Lc cI cS) σ1) cI cZ cS τ  _) gL_law_X5_least rfl ⟨rfl, rfl⟩ ⟨rfl, dvX5_least⟩ ⟨Nat.le_of_ble_eq_true rfl, Nat.le_of_ble_eq_true rfl⟩ (ss_preV (E := (ss_EM D A Lm (ss_ws 174 Lc (ss_ceC Lc cI cS) σ1) cI cZ cS)) F.2.2.2.2.1 F.2.2.2.2.2 hC (ss_rec (E := (ss_EM D A Lm (ss_ws 174 Lc (ss_ceC Lc cI cS) σ1) cI cZ cS)) (C := RX5) (T := TX5) (N := 16) (ci := 5) F.2.2.2.2.1 hC 0 (Nat.le_of_ble_eq_true rfl) rfl rfl) hw) rfl hl.1 rfl (Nat.le_of_ble_eq_true rfl) dL_law_850 hf) hC (fun r' τ1 H locs hC hw => ?_)
  replace hC := ss_swC hC
  refine lv_icmp_eq (tgt := 1076) hx hb dL_law_853 (by decide) (fun hc => ?_) (fun hc => absurd hw.1 hc)
  exact hk _ _ _ _ _ hC hl hw.2

set_option maxHeartbeats 4000000 in
set_option maxRecDepth 100000 in
theorem law_c22 (F : ss_F p R s m args meth c (ss_EC D A Lc (ss_ws 10 Lm (ss_ceM Lm cI cZ) τ) cI cZ cS) cL_law 4 wsL_law RL ret room_1) (hf : 600000 ≤ R.cells ∧ 7302250 ≤ R.slots) (hX : va_X b LL xs s s.heap) (hbl : b < s.heap.size) (hbA : ¬ A b) (hi : i + 4 ≤ LL) (hL : LL ≤ 2048) (hC : ss_C (ss_EC D A Lc (ss_ws 10 Lm (ss_ceM Lm cI cZ) τ) cI cZ cS) σ s H locs) (hl : lv_has ls 4 [(0, .ref b), (1, .ref (Lc 0)), (2, .ref (Lm 0)), (3, .int (nI i))]) (hw : wX4_bare  σ (fun r σ1 => wX5_bare  τ (fun r' τ1 => r = r' ∧ Inv σ1 τ1))) (hk : ∀ (σ τ : ss_S) (H : Heap) (locs : List Loc) (ls : Array Slot), ss_C (ss_EC D A Lc (ss_ws 10 Lm (ss_ceM Lm cI cZ) τ) cI cZ cS) σ s H locs → lv_has ls 4 [(0, .ref b), (1, .ref (Lc 0)), (2, .ref (Lm 0)), (3, .int (nI i))] → Inv σ τ → W p l e R s m args below meth c H locs 600000 7302250 Q (F0 m 1076 ls [])) : W p l e R s m args below meth c H locs 600000 7302250 Q (F0 m 858 ls []) := by
  have hx := F.1.1
  have hb := F.1.2.1
  refine lv_aload_n hx hb dL_law_858 rfl (lv_at hl 1 rfl) ?_
  refine ss_ki (ss_rV (E := (ss_EC D A Lc (ss_ws 10 Lm (ss_ceM Lm cI cZ) τ) cI cZ cS)) (C := RX4) (As := []) (rest := []) F (mX4_bare l D A Lc (ss_ws 10 Lm (ss_ceM Lm cI cZ) τ) cI cZ cS σ  _) gL_law_X4_bare rfl ⟨rfl, rfl⟩ ⟨rfl, dvX4_bare⟩ ⟨Nat.le_of_ble_eq_true rfl, Nat.le_of_ble_eq_true rfl⟩ (ss_preV F.2.2.2.2.1 F.2.2.2.2.2 hC (ss_rec (C := RX4) (T := TX4) (N := 9) (ci := 4) F.2.2.2.2.1 hC 0 (Nat.le_of_ble_eq_true rfl) rfl rfl) hw) rfl hl.1 rfl (Nat.le_of_ble_eq_true rfl) dL_law_859 hf) hC (fun r σ1 H locs hC hw => ?_)
  replace hC := ss_swM hC
  refine lv_aload_n hx hb dL_law_862 rfl (lv_at hl 2 rfl) ?_
  refine ss_ki (ss_rV (E := (ss_EM D A Lm (ss_ws 174 Lc (ss_ceC Lc cI cS) σ1) cI cZ cS)) (C := RX5) (As := []) (rest := [.int r]) (ss_FM F) (mX5_bare l D A Lm (ss_ws 174 Lc (ss_ceC Lc cI cS) σ1) cI cZ cS τ  _) gL_law_X5_bare rfl ⟨rfl, rfl⟩ ⟨rfl, dvX5_bare⟩ ⟨Nat.le_of_ble_eq_true rfl, Nat.le_of_ble_eq_true rfl⟩ (ss_preV (E := (ss_EM D A Lm (ss_ws 174 Lc (ss_ceC Lc cI cS) σ1) cI cZ cS)) F.2.2.2.2.1 F.2.2.2.2.2 hC (ss_rec (E := (ss_EM D A Lm (ss_ws 174 Lc (ss_ceC Lc cI cS) σ1) cI cZ cS)) (C := RX5) (T := TX5) (N := 16) (ci := 5) F.2.2.2.2.1 hC 0 (Nat.le_of_ble_eq_true rfl) rfl rfl) hw) rfl hl.1 rfl (Nat.le_of_ble_eq_true rfl) dL_law_863 hf) hC (fun r' τ1 H locs hC hw => ?_)
  replace hC := ss_swC hC
  refine lv_icmp_eq (tgt := 1076) hx hb dL_law_866 (by decide) (fun hc => ?_) (fun hc => absurd hw.1 hc)
  exact hk _ _ _ _ _ hC hl hw.2

set_option maxHeartbeats 4000000 in
set_option maxRecDepth 100000 in
theorem law_c23 (F : ss_F p R s m args meth c (ss_EC D A Lc (ss_ws 10 Lm (ss_ceM Lm cI cZ) τ) cI cZ cS) cL_law 4 wsL_law RL ret room_1) (hf : 600000 ≤ R.cells ∧ 7302250 ≤ R.slots) (hX : va_X b LL xs s s.heap) (hbl : b < s.heap.size) (hbA : ¬ A b) (hi : i + 4 ≤ LL) (hL : LL ≤ 2048) (hC : ss_C (ss_EC D A Lc (ss_ws 10 Lm (ss_ceM Lm cI cZ) τ) cI cZ cS) σ s H locs) (hl : lv_has ls 4 [(0, .ref b), (1, .ref (Lc 0)), (2, .ref (Lm 0)), (3, .int (nI i))]) (hw : wX4_greedy (xs (Int32.toNatClampNeg (nI i + 1))) (xs (Int32.toNatClampNeg (nI i + 2))) σ (fun r σ1 => wX5_greedy (xs (Int32.toNatClampNeg (nI i + 1))) (xs (Int32.toNatClampNeg (nI i + 2))) τ (fun r' τ1 => r = r' ∧ Inv σ1 τ1))) (hk : ∀ (σ τ : ss_S) (H : Heap) (locs : List Loc) (ls : Array Slot), ss_C (ss_EC D A Lc (ss_ws 10 Lm (ss_ceM Lm cI cZ) τ) cI cZ cS) σ s H locs → lv_has ls 4 [(0, .ref b), (1, .ref (Lc 0)), (2, .ref (Lm 0)), (3, .int (nI i))] → Inv σ τ → W p l e R s m args below meth c H locs 600000 7302250 Q (F0 m 1076 ls [])) : W p l e R s m args below meth c H locs 600000 7302250 Q (F0 m 871 ls []) := by
  have hx := F.1.1
  have hb := F.1.2.1
  refine lv_aload_n hx hb dL_law_871 rfl (lv_at hl 1 rfl) ?_
  refine lv_aload_n hx hb dL_law_872 rfl (lv_at hl 0 rfl) ?_
  refine lv_iload_n hx hb dL_law_873 rfl (lv_at hl 3 rfl) ?_
  refine lv_iconst (v := 1) hx hb dL_law_874 (by decide) ?_
  refine lv_iadd hx hb dL_law_875 ?_
  refine va_sld hx hb hX hbl hbA hC.2.2 (law_in1 hi hL) dL_law_876 ?_
  refine lv_aload_n hx hb dL_law_877 rfl (lv_at hl 0 rfl) ?_
  refine lv_iload_n hx hb dL_law_878 rfl (lv_at hl 3 rfl) ?_
  refine lv_iconst (v := 2) hx hb dL_law_879 (by decide) ?_
  refine lv_iadd hx hb dL_law_880 ?_
  refine va_sld hx hb hX hbl hbA hC.2.2 (law_in2 hi hL) dL_law_881 ?_
  refine ss_ki (ss_rV (E := (ss_EC D A Lc (ss_ws 10 Lm (ss_ceM Lm cI cZ) τ) cI cZ cS)) (C := RX4) (As := [.int (xs (Int32.toNatClampNeg (nI i + 1))), .int (xs (Int32.toNatClampNeg (nI i + 2)))]) (rest := []) F (mX4_greedy l D A Lc (ss_ws 10 Lm (ss_ceM Lm cI cZ) τ) cI cZ cS σ (xs (Int32.toNatClampNeg (nI i + 1))) (xs (Int32.toNatClampNeg (nI i + 2))) _) gL_law_X4_greedy rfl ⟨rfl, rfl⟩ ⟨rfl, dvX4_greedy⟩ ⟨Nat.le_of_ble_eq_true rfl, Nat.le_of_ble_eq_true rfl⟩ (ss_preV F.2.2.2.2.1 F.2.2.2.2.2 hC (ss_rec (C := RX4) (T := TX4) (N := 9) (ci := 4) F.2.2.2.2.1 hC 0 (Nat.le_of_ble_eq_true rfl) rfl rfl) hw) rfl hl.1 rfl (Nat.le_of_ble_eq_true rfl) dL_law_882 hf) hC (fun r σ1 H locs hC hw => ?_)
  replace hC := ss_swM hC
  refine lv_aload_n hx hb dL_law_885 rfl (lv_at hl 2 rfl) ?_
  refine lv_aload_n hx hb dL_law_886 rfl (lv_at hl 0 rfl) ?_
  refine lv_iload_n hx hb dL_law_887 rfl (lv_at hl 3 rfl) ?_
  refine lv_iconst (v := 1) hx hb dL_law_888 (by decide) ?_
  refine lv_iadd hx hb dL_law_889 ?_
  refine va_sld hx hb hX hbl hbA hC.2.2 (law_in1 hi hL) dL_law_890 ?_
  refine lv_aload_n hx hb dL_law_891 rfl (lv_at hl 0 rfl) ?_
  refine lv_iload_n hx hb dL_law_892 rfl (lv_at hl 3 rfl) ?_
  refine lv_iconst (v := 2) hx hb dL_law_893 (by decide) ?_
  refine lv_iadd hx hb dL_law_894 ?_
  refine va_sld hx hb hX hbl hbA hC.2.2 (law_in2 hi hL) dL_law_895 ?_
  refine ss_ki (ss_rV (E := (ss_EM D A Lm (ss_ws 174 Lc (ss_ceC Lc cI cS) σ1) cI cZ cS)) (C := RX5) (As := [.int (xs (Int32.toNatClampNeg (nI i + 1))), .int (xs (Int32.toNatClampNeg (nI i + 2)))]) (rest := [.int r]) (ss_FM F) (mX5_greedy l D A Lm (ss_ws 174 Lc (ss_ceC Lc cI cS) σ1) cI cZ cS τ (xs (Int32.toNatClampNeg (nI i + 1))) (xs (Int32.toNatClampNeg (nI i + 2))) _) gL_law_X5_greedy rfl ⟨rfl, rfl⟩ ⟨rfl, dvX5_greedy⟩ ⟨Nat.le_of_ble_eq_true rfl, Nat.le_of_ble_eq_true rfl⟩ (ss_preV (E := (ss_EM D A Lm (ss_ws 174 Lc (ss_ceC Lc cI cS) σ1) cI cZ cS)) F.2.2.2.2.1 F.2.2.2.2.2 hC (ss_rec (E := (ss_EM D A Lm (ss_ws 174 Lc (ss_ceC Lc cI cS) σ1) cI cZ cS)) (C := RX5) (T := TX5) (N := 16) (ci := 5) F.2.2.2.2.1 hC 0 (Nat.le_of_ble_eq_true rfl) rfl rfl) hw) rfl hl.1 rfl (Nat.le_of_ble_eq_true rfl) dL_law_896 hf) hC (fun r' τ1 H locs hC hw => ?_)
  replace hC := ss_swC hC
  refine lv_icmp_eq (tgt := 1076) hx hb dL_law_899 (by decide) (fun hc => ?_) (fun hc => absurd hw.1 hc)
  exact hk _ _ _ _ _ hC hl hw.2

set_option maxHeartbeats 4000000 in
set_option maxRecDepth 100000 in
theorem law_c24 (F : ss_F p R s m args meth c (ss_EC D A Lc (ss_ws 10 Lm (ss_ceM Lm cI cZ) τ) cI cZ cS) cL_law 4 wsL_law RL ret room_1) (hf : 600000 ≤ R.cells ∧ 7302250 ≤ R.slots) (hX : va_X b LL xs s s.heap) (hbl : b < s.heap.size) (hbA : ¬ A b) (hi : i + 4 ≤ LL) (hL : LL ≤ 2048) (hC : ss_C (ss_EC D A Lc (ss_ws 10 Lm (ss_ceM Lm cI cZ) τ) cI cZ cS) σ s H locs) (hl : lv_has ls 4 [(0, .ref b), (1, .ref (Lc 0)), (2, .ref (Lm 0)), (3, .int (nI i))]) (hw : wX4_image (xs (Int32.toNatClampNeg (nI i + 1))) (xs (Int32.toNatClampNeg (nI i + 2))) σ (fun r σ1 => wX5_image (xs (Int32.toNatClampNeg (nI i + 1))) (xs (Int32.toNatClampNeg (nI i + 2))) τ (fun r' τ1 => r = r' ∧ Inv σ1 τ1))) (hk : ∀ (σ τ : ss_S) (H : Heap) (locs : List Loc) (ls : Array Slot), ss_C (ss_EC D A Lc (ss_ws 10 Lm (ss_ceM Lm cI cZ) τ) cI cZ cS) σ s H locs → lv_has ls 4 [(0, .ref b), (1, .ref (Lc 0)), (2, .ref (Lm 0)), (3, .int (nI i))] → Inv σ τ → W p l e R s m args below meth c H locs 600000 7302250 Q (F0 m 1076 ls [])) : W p l e R s m args below meth c H locs 600000 7302250 Q (F0 m 904 ls []) := by
  have hx := F.1.1
  have hb := F.1.2.1
  refine lv_aload_n hx hb dL_law_904 rfl (lv_at hl 1 rfl) ?_
  refine lv_aload_n hx hb dL_law_905 rfl (lv_at hl 0 rfl) ?_
  refine lv_iload_n hx hb dL_law_906 rfl (lv_at hl 3 rfl) ?_
  refine lv_iconst (v := 1) hx hb dL_law_907 (by decide) ?_
  refine lv_iadd hx hb dL_law_908 ?_
  refine va_sld hx hb hX hbl hbA hC.2.2 (law_in1 hi hL) dL_law_909 ?_
  refine lv_aload_n hx hb dL_law_910 rfl (lv_at hl 0 rfl) ?_
  refine lv_iload_n hx hb dL_law_911 rfl (lv_at hl 3 rfl) ?_
  refine lv_iconst (v := 2) hx hb dL_law_912 (by decide) ?_
  refine lv_iadd hx hb dL_law_913 ?_
  refine va_sld hx hb hX hbl hbA hC.2.2 (law_in2 hi hL) dL_law_914 ?_
  refine ss_ki (ss_rV (E := (ss_EC D A Lc (ss_ws 10 Lm (ss_ceM Lm cI cZ) τ) cI cZ cS)) (C := RX4) (As := [.int (xs (Int32.toNatClampNeg (nI i + 1))), .int (xs (Int32.toNatClampNeg (nI i + 2)))]) (rest := []) F (mX4_image l D A Lc (ss_ws 10 Lm (ss_ceM Lm cI cZ) τ) cI cZ cS σ (xs (Int32.toNatClampNeg (nI i + 1))) (xs (Int32.toNatClampNeg (nI i + 2))) _) gL_law_X4_image rfl ⟨rfl, rfl⟩ ⟨rfl, dvX4_image⟩ ⟨Nat.le_of_ble_eq_true rfl, Nat.le_of_ble_eq_true rfl⟩ (ss_preV F.2.2.2.2.1 F.2.2.2.2.2 hC (ss_rec (C := RX4) (T := TX4) (N := 9) (ci := 4) F.2.2.2.2.1 hC 0 (Nat.le_of_ble_eq_true rfl) rfl rfl) hw) rfl hl.1 rfl (Nat.le_of_ble_eq_true rfl) dL_law_915 hf) hC (fun r σ1 H locs hC hw => ?_)
  replace hC := ss_swM hC
  refine lv_aload_n hx hb dL_law_918 rfl (lv_at hl 2 rfl) ?_
  refine lv_aload_n hx hb dL_law_919 rfl (lv_at hl 0 rfl) ?_
  refine lv_iload_n hx hb dL_law_920 rfl (lv_at hl 3 rfl) ?_
  refine lv_iconst (v := 1) hx hb dL_law_921 (by decide) ?_
  refine lv_iadd hx hb dL_law_922 ?_
  refine va_sld hx hb hX hbl hbA hC.2.2 (law_in1 hi hL) dL_law_923 ?_
  refine lv_aload_n hx hb dL_law_924 rfl (lv_at hl 0 rfl) ?_
  refine lv_iload_n hx hb dL_law_925 rfl (lv_at hl 3 rfl) ?_
  refine lv_iconst (v := 2) hx hb dL_law_926 (by decide) ?_
  refine lv_iadd hx hb dL_law_927 ?_
  refine va_sld hx hb hX hbl hbA hC.2.2 (law_in2 hi hL) dL_law_928 ?_
  refine ss_ki (ss_rV (E := (ss_EM D A Lm (ss_ws 174 Lc (ss_ceC Lc cI cS) σ1) cI cZ cS)) (C := RX5) (As := [.int (xs (Int32.toNatClampNeg (nI i + 1))), .int (xs (Int32.toNatClampNeg (nI i + 2)))]) (rest := [.int r]) (ss_FM F) (mX5_image l D A Lm (ss_ws 174 Lc (ss_ceC Lc cI cS) σ1) cI cZ cS τ (xs (Int32.toNatClampNeg (nI i + 1))) (xs (Int32.toNatClampNeg (nI i + 2))) _) gL_law_X5_image rfl ⟨rfl, rfl⟩ ⟨rfl, dvX5_image⟩ ⟨Nat.le_of_ble_eq_true rfl, Nat.le_of_ble_eq_true rfl⟩ (ss_preV (E := (ss_EM D A Lm (ss_ws 174 Lc (ss_ceC Lc cI cS) σ1) cI cZ cS)) F.2.2.2.2.1 F.2.2.2.2.2 hC (ss_rec (E := (ss_EM D A Lm (ss_ws 174 Lc (ss_ceC Lc cI cS) σ1) cI cZ cS)) (C := RX5) (T := TX5) (N := 16) (ci := 5) F.2.2.2.2.1 hC 0 (Nat.le_of_ble_eq_true rfl) rfl rfl) hw) rfl hl.1 rfl (Nat.le_of_ble_eq_true rfl) dL_law_929 hf) hC (fun r' τ1 H locs hC hw => ?_)
  replace hC := ss_swC hC
  refine lv_icmp_eq (tgt := 1076) hx hb dL_law_932 (by decide) (fun hc => ?_) (fun hc => absurd hw.1 hc)
  exact hk _ _ _ _ _ hC hl hw.2

set_option maxHeartbeats 4000000 in
set_option maxRecDepth 100000 in
theorem law_c25 (F : ss_F p R s m args meth c (ss_EC D A Lc (ss_ws 10 Lm (ss_ceM Lm cI cZ) τ) cI cZ cS) cL_law 4 wsL_law RL ret room_1) (hf : 600000 ≤ R.cells ∧ 7302250 ≤ R.slots) (hX : va_X b LL xs s s.heap) (hbl : b < s.heap.size) (hbA : ¬ A b) (hi : i + 4 ≤ LL) (hL : LL ≤ 2048) (hC : ss_C (ss_EC D A Lc (ss_ws 10 Lm (ss_ceM Lm cI cZ) τ) cI cZ cS) σ s H locs) (hl : lv_has ls 4 [(0, .ref b), (1, .ref (Lc 0)), (2, .ref (Lm 0)), (3, .int (nI i))]) (hw : wX4_mapped (xs (Int32.toNatClampNeg (nI i + 1))) σ (fun r σ1 => wX5_mapped (xs (Int32.toNatClampNeg (nI i + 1))) τ (fun r' τ1 => r = r' ∧ Inv σ1 τ1))) (hk : ∀ (σ τ : ss_S) (H : Heap) (locs : List Loc) (ls : Array Slot), ss_C (ss_EC D A Lc (ss_ws 10 Lm (ss_ceM Lm cI cZ) τ) cI cZ cS) σ s H locs → lv_has ls 4 [(0, .ref b), (1, .ref (Lc 0)), (2, .ref (Lm 0)), (3, .int (nI i))] → Inv σ τ → W p l e R s m args below meth c H locs 600000 7302250 Q (F0 m 1076 ls [])) : W p l e R s m args below meth c H locs 600000 7302250 Q (F0 m 937 ls []) := by
  have hx := F.1.1
  have hb := F.1.2.1
  refine lv_aload_n hx hb dL_law_937 rfl (lv_at hl 1 rfl) ?_
  refine lv_aload_n hx hb dL_law_938 rfl (lv_at hl 0 rfl) ?_
  refine lv_iload_n hx hb dL_law_939 rfl (lv_at hl 3 rfl) ?_
  refine lv_iconst (v := 1) hx hb dL_law_940 (by decide) ?_
  refine lv_iadd hx hb dL_law_941 ?_
  refine va_sld hx hb hX hbl hbA hC.2.2 (law_in1 hi hL) dL_law_942 ?_
  refine ss_ki (ss_rV (E := (ss_EC D A Lc (ss_ws 10 Lm (ss_ceM Lm cI cZ) τ) cI cZ cS)) (C := RX4) (As := [.int (xs (Int32.toNatClampNeg (nI i + 1)))]) (rest := []) F (mX4_mapped l D A Lc (ss_ws 10 Lm (ss_ceM Lm cI cZ) τ) cI cZ cS σ (xs (Int32.toNatClampNeg (nI i + 1))) _) gL_law_X4_mapped rfl ⟨rfl, rfl⟩ ⟨rfl, dvX4_mapped⟩ ⟨Nat.le_of_ble_eq_true rfl, Nat.le_of_ble_eq_true rfl⟩ (ss_preV F.2.2.2.2.1 F.2.2.2.2.2 hC (ss_rec (C := RX4) (T := TX4) (N := 9) (ci := 4) F.2.2.2.2.1 hC 0 (Nat.le_of_ble_eq_true rfl) rfl rfl) hw) rfl hl.1 rfl (Nat.le_of_ble_eq_true rfl) dL_law_943 hf) hC (fun r σ1 H locs hC hw => ?_)
  replace hC := ss_swM hC
  refine lv_aload_n hx hb dL_law_946 rfl (lv_at hl 2 rfl) ?_
  refine lv_aload_n hx hb dL_law_947 rfl (lv_at hl 0 rfl) ?_
  refine lv_iload_n hx hb dL_law_948 rfl (lv_at hl 3 rfl) ?_
  refine lv_iconst (v := 1) hx hb dL_law_949 (by decide) ?_
  refine lv_iadd hx hb dL_law_950 ?_
  refine va_sld hx hb hX hbl hbA hC.2.2 (law_in1 hi hL) dL_law_951 ?_
  refine ss_ki (ss_rV (E := (ss_EM D A Lm (ss_ws 174 Lc (ss_ceC Lc cI cS) σ1) cI cZ cS)) (C := RX5) (As := [.int (xs (Int32.toNatClampNeg (nI i + 1)))]) (rest := [.int r]) (ss_FM F) (mX5_mapped l D A Lm (ss_ws 174 Lc (ss_ceC Lc cI cS) σ1) cI cZ cS τ (xs (Int32.toNatClampNeg (nI i + 1))) _) gL_law_X5_mapped rfl ⟨rfl, rfl⟩ ⟨rfl, dvX5_mapped⟩ ⟨Nat.le_of_ble_eq_true rfl, Nat.le_of_ble_eq_true rfl⟩ (ss_preV (E := (ss_EM D A Lm (ss_ws 174 Lc (ss_ceC Lc cI cS) σ1) cI cZ cS)) F.2.2.2.2.1 F.2.2.2.2.2 hC (ss_rec (E := (ss_EM D A Lm (ss_ws 174 Lc (ss_ceC Lc cI cS) σ1) cI cZ cS)) (C := RX5) (T := TX5) (N := 16) (ci := 5) F.2.2.2.2.1 hC 0 (Nat.le_of_ble_eq_true rfl) rfl rfl) hw) rfl hl.1 rfl (Nat.le_of_ble_eq_true rfl) dL_law_952 hf) hC (fun r' τ1 H locs hC hw => ?_)
  replace hC := ss_swC hC
  refine lv_icmp_eq (tgt := 1076) hx hb dL_law_955 (by decide) (fun hc => ?_) (fun hc => absurd hw.1 hc)
  exact hk _ _ _ _ _ hC hl hw.2

set_option maxHeartbeats 4000000 in
set_option maxRecDepth 100000 in
theorem law_c26 (F : ss_F p R s m args meth c (ss_EC D A Lc (ss_ws 10 Lm (ss_ceM Lm cI cZ) τ) cI cZ cS) cL_law 4 wsL_law RL ret room_1) (hf : 600000 ≤ R.cells ∧ 7302250 ≤ R.slots) (hX : va_X b LL xs s s.heap) (hbl : b < s.heap.size) (hbA : ¬ A b) (hi : i + 4 ≤ LL) (hL : LL ≤ 2048) (hC : ss_C (ss_EC D A Lc (ss_ws 10 Lm (ss_ceM Lm cI cZ) τ) cI cZ cS) σ s H locs) (hl : lv_has ls 4 [(0, .ref b), (1, .ref (Lc 0)), (2, .ref (Lm 0)), (3, .int (nI i))]) (hw : wX4_map (xs (Int32.toNatClampNeg (nI i + 1))) (xs (Int32.toNatClampNeg (nI i + 2))) σ (fun r σ1 => wX5_map (xs (Int32.toNatClampNeg (nI i + 1))) (xs (Int32.toNatClampNeg (nI i + 2))) τ (fun r' τ1 => r = r' ∧ Inv σ1 τ1))) (hk : ∀ (σ τ : ss_S) (H : Heap) (locs : List Loc) (ls : Array Slot), ss_C (ss_EC D A Lc (ss_ws 10 Lm (ss_ceM Lm cI cZ) τ) cI cZ cS) σ s H locs → lv_has ls 4 [(0, .ref b), (1, .ref (Lc 0)), (2, .ref (Lm 0)), (3, .int (nI i))] → Inv σ τ → W p l e R s m args below meth c H locs 600000 7302250 Q (F0 m 1076 ls [])) : W p l e R s m args below meth c H locs 600000 7302250 Q (F0 m 960 ls []) := by
  have hx := F.1.1
  have hb := F.1.2.1
  refine lv_aload_n hx hb dL_law_960 rfl (lv_at hl 1 rfl) ?_
  refine lv_aload_n hx hb dL_law_961 rfl (lv_at hl 0 rfl) ?_
  refine lv_iload_n hx hb dL_law_962 rfl (lv_at hl 3 rfl) ?_
  refine lv_iconst (v := 1) hx hb dL_law_963 (by decide) ?_
  refine lv_iadd hx hb dL_law_964 ?_
  refine va_sld hx hb hX hbl hbA hC.2.2 (law_in1 hi hL) dL_law_965 ?_
  refine lv_aload_n hx hb dL_law_966 rfl (lv_at hl 0 rfl) ?_
  refine lv_iload_n hx hb dL_law_967 rfl (lv_at hl 3 rfl) ?_
  refine lv_iconst (v := 2) hx hb dL_law_968 (by decide) ?_
  refine lv_iadd hx hb dL_law_969 ?_
  refine va_sld hx hb hX hbl hbA hC.2.2 (law_in2 hi hL) dL_law_970 ?_
  refine ss_ki (ss_rV (E := (ss_EC D A Lc (ss_ws 10 Lm (ss_ceM Lm cI cZ) τ) cI cZ cS)) (C := RX4) (As := [.int (xs (Int32.toNatClampNeg (nI i + 1))), .int (xs (Int32.toNatClampNeg (nI i + 2)))]) (rest := []) F (mX4_map l D A Lc (ss_ws 10 Lm (ss_ceM Lm cI cZ) τ) cI cZ cS σ (xs (Int32.toNatClampNeg (nI i + 1))) (xs (Int32.toNatClampNeg (nI i + 2))) _) gL_law_X4_map rfl ⟨rfl, rfl⟩ ⟨rfl, dvX4_map⟩ ⟨Nat.le_of_ble_eq_true rfl, Nat.le_of_ble_eq_true rfl⟩ (ss_preV F.2.2.2.2.1 F.2.2.2.2.2 hC (ss_rec (C := RX4) (T := TX4) (N := 9) (ci := 4) F.2.2.2.2.1 hC 0 (Nat.le_of_ble_eq_true rfl) rfl rfl) hw) rfl hl.1 rfl (Nat.le_of_ble_eq_true rfl) dL_law_971 hf) hC (fun r σ1 H locs hC hw => ?_)
  replace hC := ss_swM hC
  refine lv_aload_n hx hb dL_law_974 rfl (lv_at hl 2 rfl) ?_
  refine lv_aload_n hx hb dL_law_975 rfl (lv_at hl 0 rfl) ?_
  refine lv_iload_n hx hb dL_law_976 rfl (lv_at hl 3 rfl) ?_
  refine lv_iconst (v := 1) hx hb dL_law_977 (by decide) ?_
  refine lv_iadd hx hb dL_law_978 ?_
  refine va_sld hx hb hX hbl hbA hC.2.2 (law_in1 hi hL) dL_law_979 ?_
  refine lv_aload_n hx hb dL_law_980 rfl (lv_at hl 0 rfl) ?_
  refine lv_iload_n hx hb dL_law_981 rfl (lv_at hl 3 rfl) ?_
  refine lv_iconst (v := 2) hx hb dL_law_982 (by decide) ?_
  refine lv_iadd hx hb dL_law_983 ?_
  refine va_sld hx hb hX hbl hbA hC.2.2 (law_in2 hi hL) dL_law_984 ?_
  refine ss_ki (ss_rV (E := (ss_EM D A Lm (ss_ws 174 Lc (ss_ceC Lc cI cS) σ1) cI cZ cS)) (C := RX5) (As := [.int (xs (Int32.toNatClampNeg (nI i + 1))), .int (xs (Int32.toNatClampNeg (nI i + 2)))]) (rest := [.int r]) (ss_FM F) (mX5_map l D A Lm (ss_ws 174 Lc (ss_ceC Lc cI cS) σ1) cI cZ cS τ (xs (Int32.toNatClampNeg (nI i + 1))) (xs (Int32.toNatClampNeg (nI i + 2))) _) gL_law_X5_map rfl ⟨rfl, rfl⟩ ⟨rfl, dvX5_map⟩ ⟨Nat.le_of_ble_eq_true rfl, Nat.le_of_ble_eq_true rfl⟩ (ss_preV (E := (ss_EM D A Lm (ss_ws 174 Lc (ss_ceC Lc cI cS) σ1) cI cZ cS)) F.2.2.2.2.1 F.2.2.2.2.2 hC (ss_rec (E := (ss_EM D A Lm (ss_ws 174 Lc (ss_ceC Lc cI cS) σ1) cI cZ cS)) (C := RX5) (T := TX5) (N := 16) (ci := 5) F.2.2.2.2.1 hC 0 (Nat.le_of_ble_eq_true rfl) rfl rfl) hw) rfl hl.1 rfl (Nat.le_of_ble_eq_true rfl) dL_law_985 hf) hC (fun r' τ1 H locs hC hw => ?_)
  replace hC := ss_swC hC
  refine lv_icmp_eq (tgt := 1076) hx hb dL_law_988 (by decide) (fun hc => ?_) (fun hc => absurd hw.1 hc)
  exact hk _ _ _ _ _ hC hl hw.2

set_option maxHeartbeats 4000000 in
set_option maxRecDepth 100000 in
theorem law_c27 (F : ss_F p R s m args meth c (ss_EC D A Lc (ss_ws 10 Lm (ss_ceM Lm cI cZ) τ) cI cZ cS) cL_law 4 wsL_law RL ret room_1) (hf : 600000 ≤ R.cells ∧ 7302250 ≤ R.slots) (hX : va_X b LL xs s s.heap) (hbl : b < s.heap.size) (hbA : ¬ A b) (hi : i + 4 ≤ LL) (hL : LL ≤ 2048) (hC : ss_C (ss_EC D A Lc (ss_ws 10 Lm (ss_ceM Lm cI cZ) τ) cI cZ cS) σ s H locs) (hl : lv_has ls 4 [(0, .ref b), (1, .ref (Lc 0)), (2, .ref (Lm 0)), (3, .int (nI i))]) (hw : wX4_kernel (xs (Int32.toNatClampNeg (nI i + 1))) σ (fun r σ1 => wX5_kernel (xs (Int32.toNatClampNeg (nI i + 1))) τ (fun r' τ1 => r = r' ∧ Inv σ1 τ1))) (hk : ∀ (σ τ : ss_S) (H : Heap) (locs : List Loc) (ls : Array Slot), ss_C (ss_EC D A Lc (ss_ws 10 Lm (ss_ceM Lm cI cZ) τ) cI cZ cS) σ s H locs → lv_has ls 4 [(0, .ref b), (1, .ref (Lc 0)), (2, .ref (Lm 0)), (3, .int (nI i))] → Inv σ τ → W p l e R s m args below meth c H locs 600000 7302250 Q (F0 m 1076 ls [])) : W p l e R s m args below meth c H locs 600000 7302250 Q (F0 m 993 ls []) := by
  have hx := F.1.1
  have hb := F.1.2.1
  refine lv_aload_n hx hb dL_law_993 rfl (lv_at hl 1 rfl) ?_
  refine lv_aload_n hx hb dL_law_994 rfl (lv_at hl 0 rfl) ?_
  refine lv_iload_n hx hb dL_law_995 rfl (lv_at hl 3 rfl) ?_
  refine lv_iconst (v := 1) hx hb dL_law_996 (by decide) ?_
  refine lv_iadd hx hb dL_law_997 ?_
  refine va_sld hx hb hX hbl hbA hC.2.2 (law_in1 hi hL) dL_law_998 ?_
  refine ss_ki (ss_rV (E := (ss_EC D A Lc (ss_ws 10 Lm (ss_ceM Lm cI cZ) τ) cI cZ cS)) (C := RX4) (As := [.int (xs (Int32.toNatClampNeg (nI i + 1)))]) (rest := []) F (mX4_kernel l D A Lc (ss_ws 10 Lm (ss_ceM Lm cI cZ) τ) cI cZ cS σ (xs (Int32.toNatClampNeg (nI i + 1))) _) gL_law_X4_kernel rfl ⟨rfl, rfl⟩ ⟨rfl, dvX4_kernel⟩ ⟨Nat.le_of_ble_eq_true rfl, Nat.le_of_ble_eq_true rfl⟩ (ss_preV F.2.2.2.2.1 F.2.2.2.2.2 hC (ss_rec (C := RX4) (T := TX4) (N := 9) (ci := 4) F.2.2.2.2.1 hC 0 (Nat.le_of_ble_eq_true rfl) rfl rfl) hw) rfl hl.1 rfl (Nat.le_of_ble_eq_true rfl) dL_law_999 hf) hC (fun r σ1 H locs hC hw => ?_)
  replace hC := ss_swM hC
  refine lv_aload_n hx hb dL_law_1002 rfl (lv_at hl 2 rfl) ?_
  refine lv_aload_n hx hb dL_law_1003 rfl (lv_at hl 0 rfl) ?_
  refine lv_iload_n hx hb dL_law_1004 rfl (lv_at hl 3 rfl) ?_
  refine lv_iconst (v := 1) hx hb dL_law_1005 (by decide) ?_
  refine lv_iadd hx hb dL_law_1006 ?_
  refine va_sld hx hb hX hbl hbA hC.2.2 (law_in1 hi hL) dL_law_1007 ?_
  refine ss_ki (ss_rV (E := (ss_EM D A Lm (ss_ws 174 Lc (ss_ceC Lc cI cS) σ1) cI cZ cS)) (C := RX5) (As := [.int (xs (Int32.toNatClampNeg (nI i + 1)))]) (rest := [.int r]) (ss_FM F) (mX5_kernel l D A Lm (ss_ws 174 Lc (ss_ceC Lc cI cS) σ1) cI cZ cS τ (xs (Int32.toNatClampNeg (nI i + 1))) _) gL_law_X5_kernel rfl ⟨rfl, rfl⟩ ⟨rfl, dvX5_kernel⟩ ⟨Nat.le_of_ble_eq_true rfl, Nat.le_of_ble_eq_true rfl⟩ (ss_preV (E := (ss_EM D A Lm (ss_ws 174 Lc (ss_ceC Lc cI cS) σ1) cI cZ cS)) F.2.2.2.2.1 F.2.2.2.2.2 hC (ss_rec (E := (ss_EM D A Lm (ss_ws 174 Lc (ss_ceC Lc cI cS) σ1) cI cZ cS)) (C := RX5) (T := TX5) (N := 16) (ci := 5) F.2.2.2.2.1 hC 0 (Nat.le_of_ble_eq_true rfl) rfl rfl) hw) rfl hl.1 rfl (Nat.le_of_ble_eq_true rfl) dL_law_1008 hf) hC (fun r' τ1 H locs hC hw => ?_)
  replace hC := ss_swC hC
  refine lv_icmp_eq (tgt := 1076) hx hb dL_law_1011 (by decide) (fun hc => ?_) (fun hc => absurd hw.1 hc)
  exact hk _ _ _ _ _ hC hl hw.2

set_option maxHeartbeats 4000000 in
set_option maxRecDepth 100000 in
theorem law_c28 (F : ss_F p R s m args meth c (ss_EC D A Lc (ss_ws 10 Lm (ss_ceM Lm cI cZ) τ) cI cZ cS) cL_law 4 wsL_law RL ret room_1) (hf : 600000 ≤ R.cells ∧ 7302250 ≤ R.slots) (hX : va_X b LL xs s s.heap) (hbl : b < s.heap.size) (hbA : ¬ A b) (hi : i + 4 ≤ LL) (hL : LL ≤ 2048) (hC : ss_C (ss_EC D A Lc (ss_ws 10 Lm (ss_ceM Lm cI cZ) τ) cI cZ cS) σ s H locs) (hl : lv_has ls 4 [(0, .ref b), (1, .ref (Lc 0)), (2, .ref (Lm 0)), (3, .int (nI i))]) (hw : wX4_round (xs (Int32.toNatClampNeg (nI i + 1))) σ (fun r σ1 => wX5_round (xs (Int32.toNatClampNeg (nI i + 1))) τ (fun r' τ1 => r = r' ∧ Inv σ1 τ1))) (hk : ∀ (σ τ : ss_S) (H : Heap) (locs : List Loc) (ls : Array Slot), ss_C (ss_EC D A Lc (ss_ws 10 Lm (ss_ceM Lm cI cZ) τ) cI cZ cS) σ s H locs → lv_has ls 4 [(0, .ref b), (1, .ref (Lc 0)), (2, .ref (Lm 0)), (3, .int (nI i))] → Inv σ τ → W p l e R s m args below meth c H locs 600000 7302250 Q (F0 m 1076 ls [])) : W p l e R s m args below meth c H locs 600000 7302250 Q (F0 m 1016 ls []) := by
  have hx := F.1.1
  have hb := F.1.2.1
  refine lv_aload_n hx hb dL_law_1016 rfl (lv_at hl 1 rfl) ?_
  refine lv_aload_n hx hb dL_law_1017 rfl (lv_at hl 0 rfl) ?_
  refine lv_iload_n hx hb dL_law_1018 rfl (lv_at hl 3 rfl) ?_
  refine lv_iconst (v := 1) hx hb dL_law_1019 (by decide) ?_
  refine lv_iadd hx hb dL_law_1020 ?_
  refine va_sld hx hb hX hbl hbA hC.2.2 (law_in1 hi hL) dL_law_1021 ?_
  refine ss_ki (ss_rV (E := (ss_EC D A Lc (ss_ws 10 Lm (ss_ceM Lm cI cZ) τ) cI cZ cS)) (C := RX4) (As := [.int (xs (Int32.toNatClampNeg (nI i + 1)))]) (rest := []) F (mX4_round l D A Lc (ss_ws 10 Lm (ss_ceM Lm cI cZ) τ) cI cZ cS σ (xs (Int32.toNatClampNeg (nI i + 1))) _) gL_law_X4_round rfl ⟨rfl, rfl⟩ ⟨rfl, dvX4_round⟩ ⟨Nat.le_of_ble_eq_true rfl, Nat.le_of_ble_eq_true rfl⟩ (ss_preV F.2.2.2.2.1 F.2.2.2.2.2 hC (ss_rec (C := RX4) (T := TX4) (N := 9) (ci := 4) F.2.2.2.2.1 hC 0 (Nat.le_of_ble_eq_true rfl) rfl rfl) hw) rfl hl.1 rfl (Nat.le_of_ble_eq_true rfl) dL_law_1022 hf) hC (fun r σ1 H locs hC hw => ?_)
  replace hC := ss_swM hC
  refine lv_aload_n hx hb dL_law_1025 rfl (lv_at hl 2 rfl) ?_
  refine lv_aload_n hx hb dL_law_1026 rfl (lv_at hl 0 rfl) ?_
  refine lv_iload_n hx hb dL_law_1027 rfl (lv_at hl 3 rfl) ?_
  refine lv_iconst (v := 1) hx hb dL_law_1028 (by decide) ?_
  refine lv_iadd hx hb dL_law_1029 ?_
  refine va_sld hx hb hX hbl hbA hC.2.2 (law_in1 hi hL) dL_law_1030 ?_
  refine ss_ki (ss_rV (E := (ss_EM D A Lm (ss_ws 174 Lc (ss_ceC Lc cI cS) σ1) cI cZ cS)) (C := RX5) (As := [.int (xs (Int32.toNatClampNeg (nI i + 1)))]) (rest := [.int r]) (ss_FM F) (mX5_round l D A Lm (ss_ws 174 Lc (ss_ceC Lc cI cS) σ1) cI cZ cS τ (xs (Int32.toNatClampNeg (nI i + 1))) _) gL_law_X5_round rfl ⟨rfl, rfl⟩ ⟨rfl, dvX5_round⟩ ⟨Nat.le_of_ble_eq_true rfl, Nat.le_of_ble_eq_true rfl⟩ (ss_preV (E := (ss_EM D A Lm (ss_ws 174 Lc (ss_ceC Lc cI cS) σ1) cI cZ cS)) F.2.2.2.2.1 F.2.2.2.2.2 hC (ss_rec (E := (ss_EM D A Lm (ss_ws 174 Lc (ss_ceC Lc cI cS) σ1) cI cZ cS)) (C := RX5) (T := TX5) (N := 16) (ci := 5) F.2.2.2.2.1 hC 0 (Nat.le_of_ble_eq_true rfl) rfl rfl) hw) rfl hl.1 rfl (Nat.le_of_ble_eq_true rfl) dL_law_1031 hf) hC (fun r' τ1 H locs hC hw => ?_)
  replace hC := ss_swC hC
  refine lv_icmp_eq (tgt := 1076) hx hb dL_law_1034 (by decide) (fun hc => ?_) (fun hc => absurd hw.1 hc)
  exact hk _ _ _ _ _ hC hl hw.2

set_option maxHeartbeats 4000000 in
set_option maxRecDepth 100000 in
theorem law_c29 (F : ss_F p R s m args meth c (ss_EC D A Lc (ss_ws 10 Lm (ss_ceM Lm cI cZ) τ) cI cZ cS) cL_law 4 wsL_law RL ret room_1) (hf : 600000 ≤ R.cells ∧ 7302250 ≤ R.slots) (hX : va_X b LL xs s s.heap) (hbl : b < s.heap.size) (hbA : ¬ A b) (hi : i + 4 ≤ LL) (hL : LL ≤ 2048) (hC : ss_C (ss_EC D A Lc (ss_ws 10 Lm (ss_ceM Lm cI cZ) τ) cI cZ cS) σ s H locs) (hl : lv_has ls 4 [(0, .ref b), (1, .ref (Lc 0)), (2, .ref (Lm 0)), (3, .int (nI i))]) (hw : wX4_told (xs (Int32.toNatClampNeg (nI i + 1))) σ (fun r σ1 => wX5_told (xs (Int32.toNatClampNeg (nI i + 1))) τ (fun r' τ1 => r = r' ∧ Inv σ1 τ1))) (hk : ∀ (σ τ : ss_S) (H : Heap) (locs : List Loc) (ls : Array Slot), ss_C (ss_EC D A Lc (ss_ws 10 Lm (ss_ceM Lm cI cZ) τ) cI cZ cS) σ s H locs → lv_has ls 4 [(0, .ref b), (1, .ref (Lc 0)), (2, .ref (Lm 0)), (3, .int (nI i))] → Inv σ τ → W p l e R s m args below meth c H locs 600000 7302250 Q (F0 m 1076 ls [])) : W p l e R s m args below meth c H locs 600000 7302250 Q (F0 m 1039 ls []) := by
  have hx := F.1.1
  have hb := F.1.2.1
  refine lv_aload_n hx hb dL_law_1039 rfl (lv_at hl 1 rfl) ?_
  refine lv_aload_n hx hb dL_law_1040 rfl (lv_at hl 0 rfl) ?_
  refine lv_iload_n hx hb dL_law_1041 rfl (lv_at hl 3 rfl) ?_
  refine lv_iconst (v := 1) hx hb dL_law_1042 (by decide) ?_
  refine lv_iadd hx hb dL_law_1043 ?_
  refine va_sld hx hb hX hbl hbA hC.2.2 (law_in1 hi hL) dL_law_1044 ?_
  refine ss_ki (ss_rV (E := (ss_EC D A Lc (ss_ws 10 Lm (ss_ceM Lm cI cZ) τ) cI cZ cS)) (C := RX4) (As := [.int (xs (Int32.toNatClampNeg (nI i + 1)))]) (rest := []) F (mX4_told l D A Lc (ss_ws 10 Lm (ss_ceM Lm cI cZ) τ) cI cZ cS σ (xs (Int32.toNatClampNeg (nI i + 1))) _) gL_law_X4_told rfl ⟨rfl, rfl⟩ ⟨rfl, dvX4_told⟩ ⟨Nat.le_of_ble_eq_true rfl, Nat.le_of_ble_eq_true rfl⟩ (ss_preV F.2.2.2.2.1 F.2.2.2.2.2 hC (ss_rec (C := RX4) (T := TX4) (N := 9) (ci := 4) F.2.2.2.2.1 hC 0 (Nat.le_of_ble_eq_true rfl) rfl rfl) hw) rfl hl.1 rfl (Nat.le_of_ble_eq_true rfl) dL_law_1045 hf) hC (fun r σ1 H locs hC hw => ?_)
  replace hC := ss_swM hC
  refine lv_aload_n hx hb dL_law_1048 rfl (lv_at hl 2 rfl) ?_
  refine lv_aload_n hx hb dL_law_1049 rfl (lv_at hl 0 rfl) ?_
  refine lv_iload_n hx hb dL_law_1050 rfl (lv_at hl 3 rfl) ?_
  refine lv_iconst (v := 1) hx hb dL_law_1051 (by decide) ?_
  refine lv_iadd hx hb dL_law_1052 ?_
  refine va_sld hx hb hX hbl hbA hC.2.2 (law_in1 hi hL) dL_law_1053 ?_
  refine ss_ki (ss_rV (E := (ss_EM D A Lm (ss_ws 174 Lc (ss_ceC Lc cI cS) σ1) cI cZ cS)) (C := RX5) (As := [.int (xs (Int32.toNatClampNeg (nI i + 1)))]) (rest := [.int r]) (ss_FM F) (mX5_told l D A Lm (ss_ws 174 Lc (ss_ceC Lc cI cS) σ1) cI cZ cS τ (xs (Int32.toNatClampNeg (nI i + 1))) _) gL_law_X5_told rfl ⟨rfl, rfl⟩ ⟨rfl, dvX5_told⟩ ⟨Nat.le_of_ble_eq_true rfl, Nat.le_of_ble_eq_true rfl⟩ (ss_preV (E := (ss_EM D A Lm (ss_ws 174 Lc (ss_ceC Lc cI cS) σ1) cI cZ cS)) F.2.2.2.2.1 F.2.2.2.2.2 hC (ss_rec (E := (ss_EM D A Lm (ss_ws 174 Lc (ss_ceC Lc cI cS) σ1) cI cZ cS)) (C := RX5) (T := TX5) (N := 16) (ci := 5) F.2.2.2.2.1 hC 0 (Nat.le_of_ble_eq_true rfl) rfl rfl) hw) rfl hl.1 rfl (Nat.le_of_ble_eq_true rfl) dL_law_1054 hf) hC (fun r' τ1 H locs hC hw => ?_)
  replace hC := ss_swC hC
  refine lv_icmp_eq (tgt := 1076) hx hb dL_law_1057 (by decide) (fun hc => ?_) (fun hc => absurd hw.1 hc)
  exact hk _ _ _ _ _ hC hl hw.2

set_option maxHeartbeats 4000000 in
set_option maxRecDepth 100000 in
theorem law_c30 (F : ss_F p R s m args meth c (ss_EC D A Lc (ss_ws 10 Lm (ss_ceM Lm cI cZ) τ) cI cZ cS) cL_law 4 wsL_law RL ret room_1) (hf : 600000 ≤ R.cells ∧ 7302250 ≤ R.slots) (hX : va_X b LL xs s s.heap) (hbl : b < s.heap.size) (hbA : ¬ A b) (hi : i + 4 ≤ LL) (hL : LL ≤ 2048) (hC : ss_C (ss_EC D A Lc (ss_ws 10 Lm (ss_ceM Lm cI cZ) τ) cI cZ cS) σ s H locs) (hl : lv_has ls 4 [(0, .ref b), (1, .ref (Lc 0)), (2, .ref (Lm 0)), (3, .int (nI i))]) (hw : wX4_digest  σ (fun r σ1 => wX5_digest  τ (fun r' τ1 => r = r' ∧ Inv σ1 τ1))) (hk : ∀ (σ τ : ss_S) (H : Heap) (locs : List Loc) (ls : Array Slot), ss_C (ss_EC D A Lc (ss_ws 10 Lm (ss_ceM Lm cI cZ) τ) cI cZ cS) σ s H locs → lv_has ls 4 [(0, .ref b), (1, .ref (Lc 0)), (2, .ref (Lm 0)), (3, .int (nI i))] → Inv σ τ → W p l e R s m args below meth c H locs 600000 7302250 Q (F0 m 1076 ls [])) : W p l e R s m args below meth c H locs 600000 7302250 Q (F0 m 1062 ls []) := by
  have hx := F.1.1
  have hb := F.1.2.1
  refine lv_aload_n hx hb dL_law_1062 rfl (lv_at hl 1 rfl) ?_
  refine ss_kl (ss_rV (E := (ss_EC D A Lc (ss_ws 10 Lm (ss_ceM Lm cI cZ) τ) cI cZ cS)) (C := RX4) (As := []) (rest := []) F (mX4_digest l D A Lc (ss_ws 10 Lm (ss_ceM Lm cI cZ) τ) cI cZ cS σ  _) gL_law_X4_digest rfl ⟨rfl, rfl⟩ ⟨rfl, dvX4_digest⟩ ⟨Nat.le_of_ble_eq_true rfl, Nat.le_of_ble_eq_true rfl⟩ (ss_preV F.2.2.2.2.1 F.2.2.2.2.2 hC (ss_rec (C := RX4) (T := TX4) (N := 9) (ci := 4) F.2.2.2.2.1 hC 0 (Nat.le_of_ble_eq_true rfl) rfl rfl) hw) rfl hl.1 rfl (Nat.le_of_ble_eq_true rfl) dL_law_1063 hf) hC (fun r σ1 H locs hC hw => ?_)
  replace hC := ss_swM hC
  refine lv_aload_n hx hb dL_law_1066 rfl (lv_at hl 2 rfl) ?_
  refine ss_kl (ss_rV (E := (ss_EM D A Lm (ss_ws 174 Lc (ss_ceC Lc cI cS) σ1) cI cZ cS)) (C := RX5) (As := []) (rest := [.long r]) (ss_FM F) (mX5_digest l D A Lm (ss_ws 174 Lc (ss_ceC Lc cI cS) σ1) cI cZ cS τ  _) gL_law_X5_digest rfl ⟨rfl, rfl⟩ ⟨rfl, dvX5_digest⟩ ⟨Nat.le_of_ble_eq_true rfl, Nat.le_of_ble_eq_true rfl⟩ (ss_preV (E := (ss_EM D A Lm (ss_ws 174 Lc (ss_ceC Lc cI cS) σ1) cI cZ cS)) F.2.2.2.2.1 F.2.2.2.2.2 hC (ss_rec (E := (ss_EM D A Lm (ss_ws 174 Lc (ss_ceC Lc cI cS) σ1) cI cZ cS)) (C := RX5) (T := TX5) (N := 16) (ci := 5) F.2.2.2.2.1 hC 0 (Nat.le_of_ble_eq_true rfl) rfl rfl) hw) rfl hl.1 rfl (Nat.le_of_ble_eq_true rfl) dL_law_1067 hf) hC (fun r' τ1 H locs hC hw => ?_)
  replace hC := ss_swC hC
  refine W.lcmp hx hb dL_law_1070 ?_
  refine lv_if_eq (tgt := 1076) hx hb dL_law_1071 (by decide) (fun hc => ?_) (fun hc => absurd (by rw [hw.1]; exact ss_cmp0 _) hc)
  exact hk _ _ _ _ _ hC hl hw.2
set_option maxHeartbeats 8000000 in
set_option maxRecDepth 100000 in
theorem law_loop (hsim : ss_Sim Inv) (F : ss_F p R s m args meth c (ss_EC D A Lc [] cI cZ cS) cL_law 4 wsL_law RL ret room_1) (hf : 600000 ≤ R.cells ∧ 7302250 ≤ R.slots) (hX : va_X b LL xs s s.heap) (hbl : b < s.heap.size) (hbA : ¬ A b) (hL : LL ≤ 2048)
    (hend : ∀ (H : Heap) (locs : List Loc) (ls : Array Slot), va_S A s.heap H locs → W p l e R s m args below meth c H locs 600000 7302250 Q (F0 m 1082 ls [])) :
    ∀ (d i : Nat), LL < i + 4 * d → ∀ (σ τ : ss_S) (H : Heap) (locs : List Loc) (ls : Array Slot), ss_C (ss_EC D A Lc (ss_ws 10 Lm (ss_ceM Lm cI cZ) τ) cI cZ cS) σ s H locs → lv_has ls 4 [(0, .ref b), (1, .ref (Lc 0)), (2, .ref (Lm 0)), (3, .int (nI i))] → Inv σ τ → i ≤ 2048 → W p l e R s m args below meth c H locs 600000 7302250 Q (F0 m 18 ls []) := by
  have hx := F.1.1
  have hb := F.1.2.1
  intro d
  induction d with
  | zero => intro i hd σ τ H locs ls hC hl hI hi8; exact law_last hX hbl hbA hL hx hb hC.2.2 hl (by omega) hi8 (hend H locs ls hC.2.2)
  | succ d ih =>
    intro i hd σ τ H locs ls hC hl hI hi8
    rcases Nat.lt_or_ge LL (i + 4) with hlt | hi
    · exact law_last hX hbl hbA hL hx hb hC.2.2 hl hlt hi8 (hend H locs ls hC.2.2)
    · have hk : ∀ (σ τ : ss_S) (H : Heap) (locs : List Loc) (ls : Array Slot), ss_C (ss_EC D A Lc (ss_ws 10 Lm (ss_ceM Lm cI cZ) τ) cI cZ cS) σ s H locs → lv_has ls 4 [(0, .ref b), (1, .ref (Lc 0)), (2, .ref (Lm 0)), (3, .int (nI i))] → Inv σ τ → W p l e R s m args below meth c H locs 600000 7302250 Q (F0 m 1076 ls []) := by
        intro σ τ H locs ls hC hl hI
        refine lv_iinc (v := nI i + 4) (lv' := [(3, .int (nI i + 4)), (0, .ref b), (1, .ref (Lc 0)), (2, .ref (Lm 0))]) hx hb dL_law_1076 hl (k := 3) rfl rfl (by decide) rfl (fun ls hl => ?_)
        refine lv_goto (tgt := 18) hx hb dL_law_1079 (by decide) ?_
        have e4 : nI i + 4 = nI (i + 4) := by rw [show (4 : Int32) = nI 4 from rfl, nI_add]
        rw [e4] at hl
        exact ih (i + 4) (by omega) σ τ H locs ls hC (lv_sub hl [1, 2, 3, 0] rfl) hI (by omega)
      refine lv_iload_n hx hb dL_law_18 rfl (lv_at hl 3 rfl) ?_
      refine lv_aload_n hx hb dL_law_19 rfl (lv_at hl 0 rfl) ?_
      refine va_slen hx hb hX hbl hbA hC.2.2 dL_law_20 ?_
      refine lv_iconst (v := 4) hx hb dL_law_21 (by decide) ?_
      refine lv_isub hx hb dL_law_22 ?_
      refine lv_icmp_gt (tgt := 1082) hx hb dL_law_23 (by decide) (fun hc => ?_) (fun hc => ?_)
      · exfalso
        have e4 : Int32.ofNat LL - 4 = nI (LL - 4) := by rw [show (4 : Int32) = nI 4 from rfl]; exact pk_sub (by omega)
        rw [e4] at hc
        exact nI_nlt (by omega) (by omega) hc
      · refine lv_aload_n hx hb dL_law_26 rfl (lv_at hl 0 rfl) ?_
        refine lv_iload_n hx hb dL_law_27 rfl (lv_at hl 3 rfl) ?_
        refine va_sld hx hb hX hbl hbA hC.2.2 (vp_in_nI (by omega) (by omega)) dL_law_28 ?_
        refine lv_bipush (v := 31) hx hb dL_law_29 (by decide) ?_
        refine lv_iand hx hb dL_law_31 ?_
        have hs := hsim σ τ hI (xs (Int32.toNatClampNeg (nI i + 1))) (xs (Int32.toNatClampNeg (nI i + 2))) (xs (Int32.toNatClampNeg (nI i + 3)))
        refine lv_topi (fun x ex => ?_)
        clear ex
        by_cases hs0 : x = 0
        · refine lv_tableIn (tgt := 172) hx hb dL_law_32 (by rw [hs0]; decide) (by rw [hs0]; decide) (by rw [hs0]; rfl) (by decide) ?_
          exact law_c0 (ss_FM F) hf hX hbl hbA hi hL hC hl hs.1 hk
        by_cases hs1 : x = 1
        · refine lv_tableIn (tgt := 205) hx hb dL_law_32 (by rw [hs1]; decide) (by rw [hs1]; decide) (by rw [hs1]; rfl) (by decide) ?_
          exact law_c1 (ss_FM F) hf hX hbl hbA hi hL hC hl hs.2.1 hk
        by_cases hs2 : x = 2
        · refine lv_tableIn (tgt := 248) hx hb dL_law_32 (by rw [hs2]; decide) (by rw [hs2]; decide) (by rw [hs2]; rfl) (by decide) ?_
          exact law_c2 (ss_FM F) hf hX hbl hbA hi hL hC hl hs.2.2.1 hk
        by_cases hs3 : x = 3
        · refine lv_tableIn (tgt := 281) hx hb dL_law_32 (by rw [hs3]; decide) (by rw [hs3]; decide) (by rw [hs3]; rfl) (by decide) ?_
          exact law_c3 (ss_FM F) hf hX hbl hbA hi hL hC hl hs.2.2.2.1 hk
        by_cases hs4 : x = 4
        · refine lv_tableIn (tgt := 314) hx hb dL_law_32 (by rw [hs4]; decide) (by rw [hs4]; decide) (by rw [hs4]; rfl) (by decide) ?_
          exact law_c4 (ss_FM F) hf hX hbl hbA hi hL hC hl hs.2.2.2.2.1 hk
        by_cases hs5 : x = 5
        · refine lv_tableIn (tgt := 337) hx hb dL_law_32 (by rw [hs5]; decide) (by rw [hs5]; decide) (by rw [hs5]; rfl) (by decide) ?_
          exact law_c5 (ss_FM F) hf hX hbl hbA hi hL hC hl hs.2.2.2.2.2.1 hk
        by_cases hs6 : x = 6
        · refine lv_tableIn (tgt := 360) hx hb dL_law_32 (by rw [hs6]; decide) (by rw [hs6]; decide) (by rw [hs6]; rfl) (by decide) ?_
          exact law_c6 (ss_FM F) hf hX hbl hbA hi hL hC hl hs.2.2.2.2.2.2.1 hk
        by_cases hs7 : x = 7
        · refine lv_tableIn (tgt := 393) hx hb dL_law_32 (by rw [hs7]; decide) (by rw [hs7]; decide) (by rw [hs7]; rfl) (by decide) ?_
          exact law_c7 (ss_FM F) hf hX hbl hbA hi hL hC hl hs.2.2.2.2.2.2.2.1 hk
        by_cases hs8 : x = 8
        · refine lv_tableIn (tgt := 436) hx hb dL_law_32 (by rw [hs8]; decide) (by rw [hs8]; decide) (by rw [hs8]; rfl) (by decide) ?_
          exact law_c8 (ss_FM F) hf hX hbl hbA hi hL hC hl hs.2.2.2.2.2.2.2.2.1 hk
        by_cases hs9 : x = 9
        · refine lv_tableIn (tgt := 479) hx hb dL_law_32 (by rw [hs9]; decide) (by rw [hs9]; decide) (by rw [hs9]; rfl) (by decide) ?_
          exact law_c9 (ss_FM F) hf hX hbl hbA hi hL hC hl hs.2.2.2.2.2.2.2.2.2.1 hk
        by_cases hs10 : x = 10
        · refine lv_tableIn (tgt := 512) hx hb dL_law_32 (by rw [hs10]; decide) (by rw [hs10]; decide) (by rw [hs10]; rfl) (by decide) ?_
          exact law_c10 (ss_FM F) hf hX hbl hbA hi hL hC hl hs.2.2.2.2.2.2.2.2.2.2.1 hk
        by_cases hs11 : x = 11
        · refine lv_tableIn (tgt := 545) hx hb dL_law_32 (by rw [hs11]; decide) (by rw [hs11]; decide) (by rw [hs11]; rfl) (by decide) ?_
          exact law_c11 (ss_FM F) hf hX hbl hbA hi hL hC hl hs.2.2.2.2.2.2.2.2.2.2.2.1 hk
        by_cases hs12 : x = 12
        · refine lv_tableIn (tgt := 578) hx hb dL_law_32 (by rw [hs12]; decide) (by rw [hs12]; decide) (by rw [hs12]; rfl) (by decide) ?_
          exact law_c12 (ss_FM F) hf hX hbl hbA hi hL hC hl hs.2.2.2.2.2.2.2.2.2.2.2.2.1 hk
        by_cases hs13 : x = 13
        · refine lv_tableIn (tgt := 611) hx hb dL_law_32 (by rw [hs13]; decide) (by rw [hs13]; decide) (by rw [hs13]; rfl) (by decide) ?_
          exact law_c13 (ss_FM F) hf hX hbl hbA hi hL hC hl hs.2.2.2.2.2.2.2.2.2.2.2.2.2.1 hk
        by_cases hs14 : x = 14
        · refine lv_tableIn (tgt := 634) hx hb dL_law_32 (by rw [hs14]; decide) (by rw [hs14]; decide) (by rw [hs14]; rfl) (by decide) ?_
          exact law_c14 (ss_FM F) hf hX hbl hbA hi hL hC hl hs.2.2.2.2.2.2.2.2.2.2.2.2.2.2.1 hk
        by_cases hs15 : x = 15
        · refine lv_tableIn (tgt := 677) hx hb dL_law_32 (by rw [hs15]; decide) (by rw [hs15]; decide) (by rw [hs15]; rfl) (by decide) ?_
          exact law_c15 (ss_FM F) hf hX hbl hbA hi hL hC hl hs.2.2.2.2.2.2.2.2.2.2.2.2.2.2.2.1 hk
        by_cases hs16 : x = 16
        · refine lv_tableIn (tgt := 700) hx hb dL_law_32 (by rw [hs16]; decide) (by rw [hs16]; decide) (by rw [hs16]; rfl) (by decide) ?_
          exact law_c16 (ss_FM F) hf hX hbl hbA hi hL hC hl hs.2.2.2.2.2.2.2.2.2.2.2.2.2.2.2.2.1 hk
        by_cases hs17 : x = 17
        · refine lv_tableIn (tgt := 733) hx hb dL_law_32 (by rw [hs17]; decide) (by rw [hs17]; decide) (by rw [hs17]; rfl) (by decide) ?_
          exact law_c17 (ss_FM F) hf hX hbl hbA hi hL hC hl hs.2.2.2.2.2.2.2.2.2.2.2.2.2.2.2.2.2.1 hk
        by_cases hs18 : x = 18
        · refine lv_tableIn (tgt := 776) hx hb dL_law_32 (by rw [hs18]; decide) (by rw [hs18]; decide) (by rw [hs18]; rfl) (by decide) ?_
          exact law_c18 (ss_FM F) hf hX hbl hbA hi hL hC hl hs.2.2.2.2.2.2.2.2.2.2.2.2.2.2.2.2.2.2.1 hk
        by_cases hs19 : x = 19
        · refine lv_tableIn (tgt := 799) hx hb dL_law_32 (by rw [hs19]; decide) (by rw [hs19]; decide) (by rw [hs19]; rfl) (by decide) ?_
          exact law_c19 (ss_FM F) hf hX hbl hbA hi hL hC hl hs.2.2.2.2.2.2.2.2.2.2.2.2.2.2.2.2.2.2.2.1 hk
        by_cases hs20 : x = 20
        · refine lv_tableIn (tgt := 812) hx hb dL_law_32 (by rw [hs20]; decide) (by rw [hs20]; decide) (by rw [hs20]; rfl) (by decide) ?_
          exact law_c20 (ss_FM F) hf hX hbl hbA hi hL hC hl hs.2.2.2.2.2.2.2.2.2.2.2.2.2.2.2.2.2.2.2.2.1 hk
        by_cases hs21 : x = 21
        · refine lv_tableIn (tgt := 845) hx hb dL_law_32 (by rw [hs21]; decide) (by rw [hs21]; decide) (by rw [hs21]; rfl) (by decide) ?_
          exact law_c21 (ss_FM F) hf hX hbl hbA hi hL hC hl hs.2.2.2.2.2.2.2.2.2.2.2.2.2.2.2.2.2.2.2.2.2.1 hk
        by_cases hs22 : x = 22
        · refine lv_tableIn (tgt := 858) hx hb dL_law_32 (by rw [hs22]; decide) (by rw [hs22]; decide) (by rw [hs22]; rfl) (by decide) ?_
          exact law_c22 (ss_FM F) hf hX hbl hbA hi hL hC hl hs.2.2.2.2.2.2.2.2.2.2.2.2.2.2.2.2.2.2.2.2.2.2.1 hk
        by_cases hs23 : x = 23
        · refine lv_tableIn (tgt := 871) hx hb dL_law_32 (by rw [hs23]; decide) (by rw [hs23]; decide) (by rw [hs23]; rfl) (by decide) ?_
          exact law_c23 (ss_FM F) hf hX hbl hbA hi hL hC hl hs.2.2.2.2.2.2.2.2.2.2.2.2.2.2.2.2.2.2.2.2.2.2.2.1 hk
        by_cases hs24 : x = 24
        · refine lv_tableIn (tgt := 904) hx hb dL_law_32 (by rw [hs24]; decide) (by rw [hs24]; decide) (by rw [hs24]; rfl) (by decide) ?_
          exact law_c24 (ss_FM F) hf hX hbl hbA hi hL hC hl hs.2.2.2.2.2.2.2.2.2.2.2.2.2.2.2.2.2.2.2.2.2.2.2.2.1 hk
        by_cases hs25 : x = 25
        · refine lv_tableIn (tgt := 937) hx hb dL_law_32 (by rw [hs25]; decide) (by rw [hs25]; decide) (by rw [hs25]; rfl) (by decide) ?_
          exact law_c25 (ss_FM F) hf hX hbl hbA hi hL hC hl hs.2.2.2.2.2.2.2.2.2.2.2.2.2.2.2.2.2.2.2.2.2.2.2.2.2.1 hk
        by_cases hs26 : x = 26
        · refine lv_tableIn (tgt := 960) hx hb dL_law_32 (by rw [hs26]; decide) (by rw [hs26]; decide) (by rw [hs26]; rfl) (by decide) ?_
          exact law_c26 (ss_FM F) hf hX hbl hbA hi hL hC hl hs.2.2.2.2.2.2.2.2.2.2.2.2.2.2.2.2.2.2.2.2.2.2.2.2.2.2.1 hk
        by_cases hs27 : x = 27
        · refine lv_tableIn (tgt := 993) hx hb dL_law_32 (by rw [hs27]; decide) (by rw [hs27]; decide) (by rw [hs27]; rfl) (by decide) ?_
          exact law_c27 (ss_FM F) hf hX hbl hbA hi hL hC hl hs.2.2.2.2.2.2.2.2.2.2.2.2.2.2.2.2.2.2.2.2.2.2.2.2.2.2.2.1 hk
        by_cases hs28 : x = 28
        · refine lv_tableIn (tgt := 1016) hx hb dL_law_32 (by rw [hs28]; decide) (by rw [hs28]; decide) (by rw [hs28]; rfl) (by decide) ?_
          exact law_c28 (ss_FM F) hf hX hbl hbA hi hL hC hl hs.2.2.2.2.2.2.2.2.2.2.2.2.2.2.2.2.2.2.2.2.2.2.2.2.2.2.2.2.1 hk
        by_cases hs29 : x = 29
        · refine lv_tableIn (tgt := 1039) hx hb dL_law_32 (by rw [hs29]; decide) (by rw [hs29]; decide) (by rw [hs29]; rfl) (by decide) ?_
          exact law_c29 (ss_FM F) hf hX hbl hbA hi hL hC hl hs.2.2.2.2.2.2.2.2.2.2.2.2.2.2.2.2.2.2.2.2.2.2.2.2.2.2.2.2.2.1 hk
        by_cases hs30 : x = 30
        · refine lv_tableIn (tgt := 1062) hx hb dL_law_32 (by rw [hs30]; decide) (by rw [hs30]; decide) (by rw [hs30]; rfl) (by decide) ?_
          exact law_c30 (ss_FM F) hf hX hbl hbA hi hL hC hl hs.2.2.2.2.2.2.2.2.2.2.2.2.2.2.2.2.2.2.2.2.2.2.2.2.2.2.2.2.2.2 hk
        refine lv_tableOut (tgt := 1076) hx hb dL_law_32 (ss_swOut 0 30 (by decide) (by decide) (fun k h1 h2 => by rcases (show k = 0 ∨ k = 1 ∨ k = 2 ∨ k = 3 ∨ k = 4 ∨ k = 5 ∨ k = 6 ∨ k = 7 ∨ k = 8 ∨ k = 9 ∨ k = 10 ∨ k = 11 ∨ k = 12 ∨ k = 13 ∨ k = 14 ∨ k = 15 ∨ k = 16 ∨ k = 17 ∨ k = 18 ∨ k = 19 ∨ k = 20 ∨ k = 21 ∨ k = 22 ∨ k = 23 ∨ k = 24 ∨ k = 25 ∨ k = 26 ∨ k = 27 ∨ k = 28 ∨ k = 29 ∨ k = 30 by omega) with rfl | rfl | rfl | rfl | rfl | rfl | rfl | rfl | rfl | rfl | rfl | rfl | rfl | rfl | rfl | rfl | rfl | rfl | rfl | rfl | rfl | rfl | rfl | rfl | rfl | rfl | rfl | rfl | rfl | rfl | rfl <;> assumption)) (by decide) ?_
        exact hk σ τ H locs ls hC hl hI
end
