abbrev ss_S : Type := Nat → Nat → Int32
def sA (σ : ss_S) (a : Nat) (f : Nat → Int32) : ss_S := fun i => if i = a then f else σ i
def u2 (σ : ss_S) (a k : Nat) (x : Int32) : ss_S := sA σ a (upd (σ a) k x)
theorem sA_same (σ : ss_S) (a : Nat) (f : Nat → Int32) : sA σ a f a = f := by simp [sA]
theorem sA_ne (σ : ss_S) {a i : Nat} (f : Nat → Int32) (h : i ≠ a) : sA σ a f i = σ i := by simp [sA, h]
abbrev ss_CE : Type := Nat → (Nat → Int32) → va_E
def ss_ws (N : Nat) (L : Nat → Nat) (ce : ss_CE) (σ : ss_S) : va_W := (List.range N).map (fun i => (L i, ce i (σ i)))
theorem ss_len (N : Nat) (L : Nat → Nat) (ce : ss_CE) (σ : ss_S) : (ss_ws N L ce σ).length = N := by simp [ss_ws]
theorem ss_look {N : Nat} {L : Nat → Nat} {ce : ss_CE} {σ : ss_S} {wr : va_W} {o : Nat} (h : o < N) : (ss_ws N L ce σ ++ wr)[o]? = some (L o, ce o (σ o)) := by
  rw [List.getElem?_append_left (by rw [ss_len]; exact h)]
  simp [ss_ws, h]
theorem ss_set {N : Nat} {L : Nat → Nat} {ce : ss_CE} {σ : ss_S} {wr : va_W} {o : Nat} (h : o < N) (f : Nat → Int32) : (ss_ws N L ce σ ++ wr).set o (L o, ce o f) = ss_ws N L ce (sA σ o f) ++ wr := by
  rw [List.set_append_left _ _ (by rw [ss_len]; exact h)]
  congr 1
  apply List.ext_getElem?
  intro i
  by_cases hi : i = o
  · subst hi
    rw [List.getElem?_set_self (by rw [ss_len]; exact h)]
    simp [ss_ws, h, sA]
  · rw [List.getElem?_set_ne (Ne.symm hi)]
    by_cases hN : i < N
    · simp [ss_ws, sA, hi, hN]
    · simp [ss_ws, hN]
def ss_isN (w : Cond) : Bool := match w with
  | .fieldLinkNest _ _ _ _ _ _ => true
  | .methodLinkNest _ _ _ _ => true
  | _ => false
def ss_nw : List Cond := [.methodLinkNest RX4 9 yX0_init RX4, .fieldLinkNest RX4 75 "SmallSpaces$Frame" "q" "I" RX4, .fieldLinkNest RX3 55 "SmallSpaces$Frame" "q" "I" RX4, .fieldLinkNest RX2 31 "SmallSpaces$Frame" "n" "I" RX4, .fieldLinkNest RX3 38 "SmallSpaces$Frame" "n" "I" RX4, .fieldLinkNest RX4 136 "SmallSpaces$Frame" "n" "I" RX4, .fieldLinkNest RX4 68 "SmallSpaces$Frame" "vectors" "I" RX4, .methodLinkNest RX4 22 yX3_init RX4, .fieldLinkNest RX2 61 "SmallSpaces$Space" "cells" "[I" RX4, .methodLinkNest RX4 27 yX1_init RX4, .methodLinkNest RX1 17 yX3_init RX4, .fieldLinkNest RX4 151 "SmallSpaces$Heap" "spaces" "[LSmallSpaces$Space;" RX4, .fieldLinkNest RX4 61 "SmallSpaces$Heap" "size" "I" RX4, .methodLinkNest RX4 34 yX2_init RX4, .methodLinkNest RX4 54 yX0_become RX4, .methodLinkNest RX4 58 yX3_becomeZero RX4, .methodLinkNest RX4 65 yX2_becomeIdentity RX4, .methodLinkNest RX4 71 yX0_isVector RX4, .methodLinkNest RX4 78 yX0_sum RX4, .methodLinkNest RX4 82 yX0_product RX4, .methodLinkNest RX4 89 yX0_spell RX4, .methodLinkNest RX4 93 yX3_joinVector RX4, .methodLinkNest RX3 79 yX0_addMultiple RX4, .methodLinkNest RX3 72 yX0_inverse RX4, .methodLinkNest RX4 97 yX3_rank RX4, .methodLinkNest RX4 101 yX3_rowNumber RX4, .methodLinkNest RX3 47 yX0_vectorNumber RX4, .methodLinkNest RX4 104 yX3_copyFrom RX4, .methodLinkNest RX4 108 yX3_joinSpace RX4, .methodLinkNest RX4 115 yX3_becomeDual RX4, .methodLinkNest RX4 118 yX3_holds RX4, .methodLinkNest RX4 122 yX3_liesIn RX4, .methodLinkNest RX4 126 yX3_distance RX4, .methodLinkNest RX4 130 yX3_ordinal RX4, .methodLinkNest RX3 106 yX0_power RX4, .methodLinkNest RX4 139 yX0_spaces RX4, .methodLinkNest RX4 142 yX3_becomeOrdinal RX4, .methodLinkNest RX4 145 yX0_power RX4, .methodLinkNest RX4 148 yX1_accept RX4, .methodLinkNest RX1 28 yX3_copyFrom RX4, .methodLinkNest RX4 153 yX1_leastDistance RX4, .methodLinkNest RX1 32 yX3_distance RX4, .methodLinkNest RX4 156 yX1_covers RX4, .methodLinkNest RX1 36 yX3_holds RX4, .methodLinkNest RX4 163 yX1_allApart RX4, .methodLinkNest RX4 167 yX2_imageNumber RX4, .methodLinkNest RX2 37 yX0_vectorNumber RX4, .methodLinkNest RX4 170 yX2_setImage RX4, .methodLinkNest RX2 41 yX0_spell RX4, .methodLinkNest RX4 173 yX2_apply RX4, .methodLinkNest RX2 48 yX0_addMultiple RX4, .methodLinkNest RX4 177 yX2_applyToSpace RX4, .methodLinkNest RX2 52 yX3_becomeZero RX4, .methodLinkNest RX2 57 yX3_isPivot RX4, .methodLinkNest RX2 62 yX3_joinVector RX4, .methodLinkNest RX4 181 yX2_columnSpace RX4, .methodLinkNest RX4 206 yX3_sameAs RX4]
def ss_NW (U : State) : Prop := ∀ w ∈ ss_nw, va_Nw w U
theorem ss_nw_is : ∀ w ∈ ss_nw, ss_isN w = true := by decide +kernel
theorem ss_isN_warm {w : Cond} (h : ss_isN w = true) {s U : State} (hW : s.WarmedH U.vm) (hZ : va_Nw w s) : va_Nw w U := by
  cases w with
  | fieldLinkNest a i b n d h => exact va_Nw.warmF hW hZ
  | methodLinkNest a i x h => exact va_Nw.warmM hW hZ
  | _ => cases h
theorem ss_isN_tab {w : Cond} (h : ss_isN w = true) : w.onTables = true := by
  cases w with
  | fieldLinkNest a i b n d h => rfl
  | methodLinkNest a i x h => rfl
  | _ => cases h
theorem ss_NW.warm {s U : State} (hW : s.WarmedH U.vm) (h : ss_NW s) : ss_NW U := fun w hw => ss_isN_warm (ss_nw_is w hw) hW (h w hw)
theorem ss_NW.same {s U : State} (hv : s.vm = U.vm) (h : ss_NW s) : ss_NW U := fun w hw => va_Nw.same (ss_isN_tab (ss_nw_is w hw)) hv (h w hw)
theorem ss_NW.use {s : State} {args : Array Value} (h : ss_NW s) {w : Cond} (hw : w ∈ ss_nw) : w.before args s = true := va_Nw.use (ss_isN_tab (ss_nw_is w hw)) (h w hw)
theorem ss_NW.of {s : State} {args : Array Value} (h : ∀ w ∈ ss_nw, w.before args s = true) : ss_NW s := fun w hw => va_Nw.of (ss_isN_tab (ss_nw_is w hw)) (h w hw)
abbrev ss_E : Type := va_G × (Nat → Prop) × Nat × (Nat → Nat) × ss_CE × va_W × List (ClassId × FieldType)
def ss_C (E : ss_E) (σ : ss_S) (s : State) (H : Heap) (locs : List Loc) : Prop :=
  va_P E.1 vwCl (ss_ws E.2.2.1 E.2.2.2.1 E.2.2.2.2.1 σ ++ E.2.2.2.2.2.1) H ∧ va_D E.2.1 (ss_ws E.2.2.1 E.2.2.2.1 E.2.2.2.2.1 σ ++ E.2.2.2.2.2.1) ∧ va_S E.2.1 s.heap H locs
def ss_pre (E : ss_E) (av : List Value) (σ : ss_S) (P : Prop) : Array Value → State → Prop :=
  va_Pc av (fun U => (va_P E.1 vwCl (ss_ws E.2.2.1 E.2.2.2.1 E.2.2.2.2.1 σ ++ E.2.2.2.2.2.1) U.heap ∧ va_D E.2.1 (ss_ws E.2.2.1 E.2.2.2.1 E.2.2.2.2.1 σ ++ E.2.2.2.2.2.1)) ∧ va_K E.1 vwCl E.2.2.2.2.2.2 U ∧ ss_NW U ∧ P)
def ss_B (E : ss_E) (σ : ss_S) (t : State) : Prop :=
  va_P E.1 vwCl (ss_ws E.2.2.1 E.2.2.2.1 E.2.2.2.2.1 σ ++ E.2.2.2.2.2.1) t.heap ∧ va_D E.2.1 (ss_ws E.2.2.1 E.2.2.2.1 E.2.2.2.2.1 σ ++ E.2.2.2.2.2.1)
def ss_MI (l : Launch) (y : MethodName) (ws : List Cond) (rm : Room) (E : ss_E) (av : List Value) (σ : ss_S) (wp : (Int32 → ss_S → Prop) → Prop) : Prop :=
  ∀ post : Int32 → ss_S → Prop, Met l y ws rm (ss_pre E av σ (wp post)) (va_Qi post (ss_B E) E.2.1) 0 0 E.2.1
def ss_ML (l : Launch) (y : MethodName) (ws : List Cond) (rm : Room) (E : ss_E) (av : List Value) (σ : ss_S) (wp : (Int64 → ss_S → Prop) → Prop) : Prop :=
  ∀ post : Int64 → ss_S → Prop, Met l y ws rm (ss_pre E av σ (wp post)) (va_Ql post (ss_B E) E.2.1) 0 0 E.2.1
def ss_MV (l : Launch) (y : MethodName) (ws : List Cond) (rm : Room) (E : ss_E) (av : List Value) (σ : ss_S) (wp : (ss_S → Prop) → Prop) : Prop :=
  ∀ post : ss_S → Prop, Met l y ws rm (ss_pre E av σ (wp post)) (va_Qv post (ss_B E) E.2.1) 0 0 E.2.1
theorem ss_blind (E : ss_E) (av : List Value) (σ : ss_S) (P : Prop) : FrameBlind (ss_pre E av σ P) := by
  intro a U g mk q
  obtain ⟨q0, ⟨q1, q2⟩, q3, q4, q5⟩ := q
  exact ⟨q0, ⟨q1, q2⟩, va_K.moved (u := U) (U := U.calling g mk a) (Vm.Alike.refl U.vm) q3, ss_NW.same (s := U) (U := U.calling g mk a) rfl q4, q5⟩
def ss_F (p : Program) (R : Room) (s : State) (m : MethodId) (args : Array Value) (meth : Method) (c : Code) (E : ss_E) (cc : ByteArray) (nL : Nat) (ws : List Cond) (own : String) (ret : Option FieldType) (rm : Room) : Prop :=
  (p.tables.exec = Jvm.exec ∧ c.code = cc ∧ c.maxLocals = nL ∧ s.vm.findClass own = some m.cls ∧ ∀ w ∈ ws, w.before args s = true) ∧ meth.sig.returnType = ret ∧ meth.locks = false ∧ (rm.frames ≤ R.frames ∧ rm.locals ≤ R.locals) ∧ va_K E.1 vwCl E.2.2.2.2.2.2 s ∧ ss_NW s
section
variable {p : Program} {l : Launch} {e : Env} {R : Room} {s : State} {m : MethodId} {args : Array Value} {below : List Frame} {meth : Method} {c : Code} {H : Heap} {locs : List Loc} {cells slots : Nat} {Q : State → Prop}
variable {cc : ByteArray} {pc nL : Nat} {ls : Array Slot} {rest : List Value} {E : ss_E} {σ : ss_S} {Ts : List Cond} {own : String} {ret : Option FieldType} {rm : Room}
theorem ss_iret {post : Int32 → ss_S → Prop} {v : Int32} (F : ss_F p R s m args meth c E cc nL Ts own (some .int) rm) (hC : ss_C E σ s H locs) (hp : post v σ) (hdg : decode cc pc = .ok (.ireturn, 1)) : W p l e R s m args below meth c H locs 0 0 (MQ below (va_Qi post (ss_B E) E.2.1) args s 0 0 E.2.1) (F0 m pc ls [.int v]) :=
  W.iret F.1.1 F.1.2.1 F.2.1 (fun t ht hW => ⟨⟨v, σ, rfl, hp, by rw [ht]; exact hC.1, hC.2.1⟩, hC.2.2.F ht⟩) hC.2.2.2.2 hdg F.2.2.1
theorem ss_zret {post : Int32 → ss_S → Prop} {v : Int32} (F : ss_F p R s m args meth c E cc nL Ts own (some .boolean) rm) (hC : ss_C E σ s H locs) (hn : narrow .boolean (.int v) = .int v) (hp : post v σ) (hdg : decode cc pc = .ok (.ireturn, 1)) : W p l e R s m args below meth c H locs 0 0 (MQ below (va_Qi post (ss_B E) E.2.1) args s 0 0 E.2.1) (F0 m pc ls [.int v]) :=
  W.zret F.1.1 F.1.2.1 F.2.1 hn (fun t ht hW => ⟨⟨v, σ, rfl, hp, by rw [ht]; exact hC.1, hC.2.1⟩, hC.2.2.F ht⟩) hC.2.2.2.2 hdg F.2.2.1
theorem ss_lret {post : Int64 → ss_S → Prop} {v : Int64} (F : ss_F p R s m args meth c E cc nL Ts own (some .long) rm) (hC : ss_C E σ s H locs) (hp : post v σ) (hdg : decode cc pc = .ok (.lreturn, 1)) : W p l e R s m args below meth c H locs 0 0 (MQ below (va_Ql post (ss_B E) E.2.1) args s 0 0 E.2.1) (F0 m pc ls [.long v]) :=
  W.lret F.1.1 F.1.2.1 F.2.1 (fun t ht hW => ⟨⟨v, σ, rfl, hp, by rw [ht]; exact hC.1, hC.2.1⟩, hC.2.2.F ht⟩) hC.2.2.2.2 hdg F.2.2.1
theorem ss_vret {post : ss_S → Prop} (F : ss_F p R s m args meth c E cc nL Ts own none rm) (hC : ss_C E σ s H locs) (hp : post σ) (hdg : decode cc pc = .ok (.return_, 1)) : W p l e R s m args below meth c H locs 0 0 (MQ below (va_Qv post (ss_B E) E.2.1) args s 0 0 E.2.1) (F0 m pc ls []) :=
  W.vret F.1.1 F.1.2.1 F.2.1 (fun t ht hW => ⟨⟨σ, rfl, hp, by rw [ht]; exact hC.1, hC.2.1⟩, hC.2.2.F ht⟩) hC.2.2.2.2 hdg F.2.2.1
theorem ss_get (F : ss_F p R s m args meth c E cc nL Ts own ret rm) (hC : ss_C E σ s H locs) (o : Nat) {C : String} {T : u_T} {N ci index : Nat} (hin : ∀ w ∈ u_ws C T N, w ∈ Ts) (ho : o < E.2.2.1) {fs : List Value} (he : E.2.2.2.2.1 o (σ o) = .inr (ci, fs)) (hc : vwCl[ci]? = some (C, T, N)) (k : Nat) (hk : k < N) (hlink : (Cond.fieldLink own index (T k).1 (T k).2.1 (T k).2.2.1).before args s = true) {v : Value} (hv : fs[k]? = some v) (hdg : decode cc pc = .ok (.getfield index, 3))
    (kk : W p l e R s m args below meth c H locs cells slots Q (F0 m (pc + 3) ls (v :: rest))) : W p l e R s m args below meth c H locs cells slots Q (F0 m pc ls (.ref (E.2.2.2.1 o) :: rest)) :=
  va_get (D := E.1) (cl := vwCl) (ws := ss_ws E.2.2.1 E.2.2.2.1 E.2.2.2.2.1 σ ++ E.2.2.2.2.2.1) (ci := ci) (fs := fs) (C := C) (T := T) (N := N) F.1.1 F.1.2.1 F.1.2.2.2.2 hin F.1.2.2.2.1 F.2.2.2.2.1 hC.1 o (by rw [ss_look ho, he]) hc k hk hlink (fun _ h => h) hv hdg kk
theorem ss_getN (F : ss_F p R s m args meth c E cc nL Ts own ret rm) (hC : ss_C E σ s H locs) (o : Nat) {C host : String} {T : u_T} {N ci index : Nat} (hin : ∀ w ∈ u_ws C T N, w ∈ Ts) (ho : o < E.2.2.1) {fs : List Value} (he : E.2.2.2.2.1 o (σ o) = .inr (ci, fs)) (hc : vwCl[ci]? = some (C, T, N)) (k : Nat) (hk : k < N) (hlink : Cond.fieldLinkNest own index (T k).1 (T k).2.1 (T k).2.2.1 host ∈ ss_nw) {v : Value} (hv : fs[k]? = some v) (hdg : decode cc pc = .ok (.getfield index, 3))
    (kk : W p l e R s m args below meth c H locs cells slots Q (F0 m (pc + 3) ls (v :: rest))) : W p l e R s m args below meth c H locs cells slots Q (F0 m pc ls (.ref (E.2.2.2.1 o) :: rest)) :=
  va_getN (D := E.1) (cl := vwCl) (ws := ss_ws E.2.2.1 E.2.2.2.1 E.2.2.2.2.1 σ ++ E.2.2.2.2.2.1) (ci := ci) (fs := fs) (C := C) (T := T) (N := N) F.1.1 F.1.2.1 F.1.2.2.2.2 hin F.1.2.2.2.1 F.2.2.2.2.1 hC.1 o (by rw [ss_look ho, he]) hc k hk (F.2.2.2.2.2.use hlink) (fun _ h => h) hv hdg kk
theorem ss_put (F : ss_F p R s m args meth c E cc nL Ts own ret rm) (hC : ss_C E σ s H locs) (o : Nat) {C : String} {T : u_T} {N ci index : Nat} (ty0 : Nat → FieldType) (hty : ∀ k, k < N → parseFieldDescriptor (T k).2.2.1 = some (ty0 k)) (hnm : ∀ a, a < N → ∀ b, b < N → a ≠ b → (T a).2.1 ≠ (T b).2.1) (hin : ∀ w ∈ u_ws C T N, w ∈ Ts) (ho : o < E.2.2.1) {fs : List Value} (he : E.2.2.2.2.1 o (σ o) = .inr (ci, fs)) (hc : vwCl[ci]? = some (C, T, N)) (k : Nat) (hk : k < N) (hlink : (Cond.fieldLink own index (T k).1 (T k).2.1 (T k).2.2.1).before args s = true) (hfin : (T k).2.2.2 = false) (hd : parseFieldDescriptor (T k).2.2.1 = some .int) (hl : k < fs.length) {x : Int32} (he2 : E.2.2.2.2.1 o (upd (σ o) k x) = .inr (ci, fs.set k (.int x))) (hdg : decode cc pc = .ok (.putfield index, 3))
    (kk : ∀ (H1 : Heap) (locs1 : List Loc), ss_C E (u2 σ o k x) s H1 locs1 → W p l e R s m args below meth c H1 locs1 cells slots Q (F0 m (pc + 3) ls rest)) : W p l e R s m args below meth c H locs cells slots Q (F0 m pc ls (.int x :: .ref (E.2.2.2.1 o) :: rest)) := by
  refine va_put (D := E.1) (cl := vwCl) (ws := ss_ws E.2.2.1 E.2.2.2.1 E.2.2.2.2.1 σ ++ E.2.2.2.2.2.1) (A := E.2.1) (ci := ci) (fs := fs) (C := C) (T := T) (N := N) (ty := .int) (v := .int x) F.1.1 F.1.2.1 F.1.2.2.2.2 hin ty0 hty hnm F.1.2.2.2.1 F.2.2.2.2.1 hC.1 hC.2.1 hC.2.2 o (by rw [ss_look ho, he]) hc k hk hlink (fun _ h => h) hfin hd rfl rfl hl hdg (fun H1 locs1 hP hD hS => kk H1 locs1 ?_)
  rw [← he2, ss_set ho] at hP hD
  exact ⟨hP, hD, hS⟩
theorem ss_putN (F : ss_F p R s m args meth c E cc nL Ts own ret rm) (hC : ss_C E σ s H locs) (o : Nat) {C host : String} {T : u_T} {N ci index : Nat} (ty0 : Nat → FieldType) (hty : ∀ k, k < N → parseFieldDescriptor (T k).2.2.1 = some (ty0 k)) (hnm : ∀ a, a < N → ∀ b, b < N → a ≠ b → (T a).2.1 ≠ (T b).2.1) (hin : ∀ w ∈ u_ws C T N, w ∈ Ts) (ho : o < E.2.2.1) {fs : List Value} (he : E.2.2.2.2.1 o (σ o) = .inr (ci, fs)) (hc : vwCl[ci]? = some (C, T, N)) (k : Nat) (hk : k < N) (hlink : Cond.fieldLinkNest own index (T k).1 (T k).2.1 (T k).2.2.1 host ∈ ss_nw) (hfin : (T k).2.2.2 = false) (hd : parseFieldDescriptor (T k).2.2.1 = some .int) (hl : k < fs.length) {x : Int32} (he2 : E.2.2.2.2.1 o (upd (σ o) k x) = .inr (ci, fs.set k (.int x))) (hdg : decode cc pc = .ok (.putfield index, 3))
    (kk : ∀ (H1 : Heap) (locs1 : List Loc), ss_C E (u2 σ o k x) s H1 locs1 → W p l e R s m args below meth c H1 locs1 cells slots Q (F0 m (pc + 3) ls rest)) : W p l e R s m args below meth c H locs cells slots Q (F0 m pc ls (.int x :: .ref (E.2.2.2.1 o) :: rest)) := by
  refine va_putN (D := E.1) (cl := vwCl) (ws := ss_ws E.2.2.1 E.2.2.2.1 E.2.2.2.2.1 σ ++ E.2.2.2.2.2.1) (A := E.2.1) (ci := ci) (fs := fs) (C := C) (T := T) (N := N) (ty := .int) (v := .int x) F.1.1 F.1.2.1 F.1.2.2.2.2 hin ty0 hty hnm F.1.2.2.2.1 F.2.2.2.2.1 hC.1 hC.2.1 hC.2.2 o (by rw [ss_look ho, he]) hc k hk (F.2.2.2.2.2.use hlink) (fun _ h => h) hfin hd rfl rfl hl hdg (fun H1 locs1 hP hD hS => kk H1 locs1 ?_)
  rw [← he2, ss_set ho] at hP hD
  exact ⟨hP, hD, hS⟩
theorem ss_iald (F : ss_F p R s m args meth c E cc nL Ts own ret rm) (hC : ss_C E σ s H locs) (o : Nat) (t0 : Nat) (ho : o < E.2.2.1) {cA : ClassId} {n : Nat} (he : ∀ f, E.2.2.2.2.1 o f = .inl (cA, n, .inl f)) (ht : E.2.2.2.2.2.2[t0]? = some (cA, .int)) {i : Int32} (hin : vp_in i n) (hdg : decode cc pc = .ok (.iaload, 1))
    (kk : W p l e R s m args below meth c H locs cells slots Q (F0 m (pc + 1) ls (.int (σ o i.toNatClampNeg) :: rest))) : W p l e R s m args below meth c H locs cells slots Q (F0 m pc ls (.int i :: .ref (E.2.2.2.1 o) :: rest)) :=
  va_iald (D := E.1) (cl := vwCl) (ws := ss_ws E.2.2.1 E.2.2.2.1 E.2.2.2.2.1 σ ++ E.2.2.2.2.2.1) (f := σ o) F.1.1 F.1.2.1 F.2.2.2.2.1 hC.1 o t0 (by rw [ss_look ho, he]) ht hin hdg kk
theorem ss_zald (F : ss_F p R s m args meth c E cc nL Ts own ret rm) (hC : ss_C E σ s H locs) (o : Nat) (t0 : Nat) (ho : o < E.2.2.1) {cA : ClassId} {n : Nat} (he : ∀ f, E.2.2.2.2.1 o f = .inl (cA, n, .inl f)) (ht : E.2.2.2.2.2.2[t0]? = some (cA, .boolean)) {i : Int32} (hin : vp_in i n) (hdg : decode cc pc = .ok (.baload, 1))
    (kk : W p l e R s m args below meth c H locs cells slots Q (F0 m (pc + 1) ls (.int (σ o i.toNatClampNeg) :: rest))) : W p l e R s m args below meth c H locs cells slots Q (F0 m pc ls (.int i :: .ref (E.2.2.2.1 o) :: rest)) :=
  va_zald (D := E.1) (cl := vwCl) (ws := ss_ws E.2.2.1 E.2.2.2.1 E.2.2.2.2.1 σ ++ E.2.2.2.2.2.1) (f := σ o) F.1.1 F.1.2.1 F.2.2.2.2.1 hC.1 o t0 (by rw [ss_look ho, he]) ht hin hdg kk
theorem ss_iast (F : ss_F p R s m args meth c E cc nL Ts own ret rm) (hC : ss_C E σ s H locs) (o : Nat) (t0 : Nat) (ho : o < E.2.2.1) {cA : ClassId} {n : Nat} (he : ∀ f, E.2.2.2.2.1 o f = .inl (cA, n, .inl f)) (ht : E.2.2.2.2.2.2[t0]? = some (cA, .int)) {i x : Int32} (hin : vp_in i n) (hdg : decode cc pc = .ok (.iastore, 1))
    (kk : ∀ (H1 : Heap) (locs1 : List Loc), ss_C E (u2 σ o i.toNatClampNeg x) s H1 locs1 → W p l e R s m args below meth c H1 locs1 cells slots Q (F0 m (pc + 1) ls rest)) : W p l e R s m args below meth c H locs cells slots Q (F0 m pc ls (.int x :: .int i :: .ref (E.2.2.2.1 o) :: rest)) := by
  refine va_iast (D := E.1) (cl := vwCl) (ws := ss_ws E.2.2.1 E.2.2.2.1 E.2.2.2.2.1 σ ++ E.2.2.2.2.2.1) (A := E.2.1) (f := σ o) F.1.1 F.1.2.1 F.2.2.2.2.1 hC.1 hC.2.1 hC.2.2 o t0 (by rw [ss_look ho, he]) ht hin hdg (fun H1 locs1 hP hD hS => kk H1 locs1 ?_)
  rw [← he, ss_set ho] at hP hD
  exact ⟨hP, hD, hS⟩
theorem ss_zast (F : ss_F p R s m args meth c E cc nL Ts own ret rm) (hC : ss_C E σ s H locs) (o : Nat) (t0 : Nat) (ho : o < E.2.2.1) {cA : ClassId} {n : Nat} (he : ∀ f, E.2.2.2.2.1 o f = .inl (cA, n, .inl f)) (ht : E.2.2.2.2.2.2[t0]? = some (cA, .boolean)) {i x : Int32} (hin : vp_in i n) (hdg : decode cc pc = .ok (.bastore, 1))
    (kk : ∀ (H1 : Heap) (locs1 : List Loc), ss_C E (u2 σ o i.toNatClampNeg (vp_nar .boolean x)) s H1 locs1 → W p l e R s m args below meth c H1 locs1 cells slots Q (F0 m (pc + 1) ls rest)) : W p l e R s m args below meth c H locs cells slots Q (F0 m pc ls (.int x :: .int i :: .ref (E.2.2.2.1 o) :: rest)) := by
  refine va_zast (D := E.1) (cl := vwCl) (ws := ss_ws E.2.2.1 E.2.2.2.1 E.2.2.2.2.1 σ ++ E.2.2.2.2.2.1) (A := E.2.1) (f := σ o) F.1.1 F.1.2.1 F.2.2.2.2.1 hC.1 hC.2.1 hC.2.2 o t0 (by rw [ss_look ho, he]) ht hin hdg (fun H1 locs1 hP hD hS => kk H1 locs1 ?_)
  rw [← he, ss_set ho] at hP hD
  exact ⟨hP, hD, hS⟩
theorem ss_alen (F : ss_F p R s m args meth c E cc nL Ts own ret rm) (hC : ss_C E σ s H locs) (o : Nat) (t0 : Nat) (ho : o < E.2.2.1) {cA : ClassId} {n : Nat} (he : ∀ f, E.2.2.2.2.1 o f = .inl (cA, n, .inl f)) (ht : E.2.2.2.2.2.2[t0]? = some (cA, .int)) (hdg : decode cc pc = .ok (.arraylength, 1))
    (kk : W p l e R s m args below meth c H locs cells slots Q (F0 m (pc + 1) ls (.int (Int32.ofNat n) :: rest))) : W p l e R s m args below meth c H locs cells slots Q (F0 m pc ls (.ref (E.2.2.2.1 o) :: rest)) :=
  va_alen (D := E.1) (cl := vwCl) (ws := ss_ws E.2.2.1 E.2.2.2.1 E.2.2.2.2.1 σ ++ E.2.2.2.2.2.1) (x := (n, .inl (σ o))) F.1.1 F.1.2.1 F.2.2.2.2.1 hC.1 o t0 (by rw [ss_look ho, he]) ht rfl hdg kk
theorem ss_aald (F : ss_F p R s m args meth c E cc nL Ts own ret rm) (hC : ss_C E σ s H locs) (o : Nat) (t0 : Nat) (ho : o < E.2.2.1) {cA : ClassId} {n : Nat} {C : String} {f : Nat → Option Nat} (he : E.2.2.2.2.1 o (σ o) = .inl (cA, n, .inr (.inr (.inr (.inr f))))) (ht : E.2.2.2.2.2.2[t0]? = some (cA, .object C)) {i : Int32} (hin : vp_in i n) {v : Nat} (hv : f i.toNatClampNeg = some v) (hdg : decode cc pc = .ok (.aaload, 1))
    (kk : W p l e R s m args below meth c H locs cells slots Q (F0 m (pc + 1) ls (.ref v :: rest))) : W p l e R s m args below meth c H locs cells slots Q (F0 m pc ls (.int i :: .ref (E.2.2.2.1 o) :: rest)) :=
  va_aldq (D := E.1) (cl := vwCl) (ws := ss_ws E.2.2.1 E.2.2.2.1 E.2.2.2.2.1 σ ++ E.2.2.2.2.2.1) (f := f) F.1.1 F.1.2.1 F.2.2.2.2.1 hC.1 o t0 (by rw [ss_look ho, he]) ht hin hdg (by rw [hv]; exact kk)
theorem ss_copy (F : ss_F p R s m args meth c E cc nL Ts own ret rm) (hC : ss_C E σ s H locs) (hsz : ls.size = nL) {index : Nat} (hlink : (Cond.methodLink own index arraycopyName).before args s = true) (hnat : (Cond.native arraycopyName).before args s = true) (hstat : (Cond.static arraycopyName).before args s = true) (hini : (Cond.initialized "java/lang/System").before args s = true) (o0 o1 t0 : Nat) (ho0 : o0 < E.2.2.1) (ho1 : o1 < E.2.2.1) {cA : ClassId} {n0 n1 : Nat} (he0 : ∀ f, E.2.2.2.2.1 o0 f = .inl (cA, n0, .inl f)) (he1 : ∀ f, E.2.2.2.2.1 o1 f = .inl (cA, n1, .inl f)) (ht : E.2.2.2.2.2.2[t0]? = some (cA, .int)) {sp dp n : Int32} (h1 : ¬ sp < 0) (h2 : ¬ dp < 0) (h3 : ¬ n < 0) (h4 : sp.toNatClampNeg + n.toNatClampNeg ≤ n0) (h5 : dp.toNatClampNeg + n.toNatClampNeg ≤ n1) (hframes : 1 ≤ rm.frames) (hlocals : (rest.map fun v => v.category).sum + (nativeFrameWords "java/lang/System" "arraycopy" 5 + 11) ≤ rm.locals) (hdg : decode cc pc = .ok (.invokestatic index, 3))
    (kk : ∀ (H1 : Heap) (locs1 : List Loc), ss_C E (sA σ o1 (va_cpy (σ o0) (σ o1) sp.toNatClampNeg dp.toNatClampNeg n.toNatClampNeg)) s H1 locs1 → W p l e R s m args below meth c H1 locs1 cells slots Q (F0 m (pc + 3) ls rest)) : W p l e R s m args below meth c H locs cells slots Q (F0 m pc ls (.int n :: .int dp :: .ref (E.2.2.2.1 o1) :: .int sp :: .ref (E.2.2.2.1 o0) :: rest)) := by
  refine va_copyi (D := E.1) (cl := vwCl) (ws := ss_ws E.2.2.1 E.2.2.2.1 E.2.2.2.2.1 σ ++ E.2.2.2.2.2.1) (A := E.2.1) (f := σ o0) (g := σ o1) (ty := .int) F.1.1 F.1.2.1 (by rw [hsz]; exact F.1.2.2.1) F.1.2.2.2.1 hlink hnat hstat hini F.2.2.2.2.1 hC.1 hC.2.1 hC.2.2 o0 o1 t0 t0 (by rw [ss_look ho0, he0]) (by rw [ss_look ho1, he1]) ht ht rfl h1 h2 h3 h4 h5 (fun _ _ => rfl) (Nat.le_trans hframes F.2.2.2.1.1) (Nat.le_trans hlocals F.2.2.2.1.2) hdg (fun H1 locs1 hP hD hS => kk H1 locs1 ?_)
  rw [← he1, ss_set ho1] at hP hD
  exact ⟨hP, hD, hS⟩
end
section
variable {p : Program} {l : Launch} {e : Env} {R : Room} {s : State} {m : MethodId} {args : Array Value} {below : List Frame} {meth : Method} {c : Code} {H : Heap} {locs : List Loc} {cells slots : Nat} {Q : State → Prop}
variable {cc : ByteArray} {pc nL : Nat} {ls : Array Slot} {rest : List Value} {E : ss_E} {σ : ss_S} {Ts : List Cond} {own : String} {ret : Option FieldType} {rm : Room}
variable {y : MethodName} {bytes : ByteArray} {maxL n index : Nat} {ret' : Option FieldType} {ws ws' : List Cond} {rm' : Room} {st As : List Value}
theorem ss_preV {C : String} {b : Nat} {P : Prop} (hK : va_K E.1 vwCl E.2.2.2.2.2.2 s) (hN : ss_NW s) (hC : ss_C E σ s H locs) (hrec : ∃ cellB : Cell, H[b]? = some cellB ∧ cellB.vm.isStatics = false ∧ s.vm.findClass C = some cellB.cls) (hp : P) : PreV s H C b (ss_pre E (.ref b :: As) σ P) As :=
  ⟨ss_blind E _ σ P, hrec, fun U hU hW => ⟨rfl, ⟨by rw [hU]; exact hC.1, hC.2.1⟩, va_K.moved hW.alike hK, ss_NW.warm hW hN, hp⟩⟩
theorem ss_preS {P : Prop} (hK : va_K E.1 vwCl E.2.2.2.2.2.2 s) (hN : ss_NW s) (hC : ss_C E σ s H locs) (hp : P) : PreS s H (ss_pre E As σ P) As :=
  ⟨ss_blind E _ σ P, fun U hU hW => ⟨rfl, ⟨by rw [hU]; exact hC.1, hC.2.1⟩, va_K.moved hW.alike hK, ss_NW.warm hW hN, hp⟩⟩
theorem ss_rec (hK : va_K E.1 vwCl E.2.2.2.2.2.2 s) (hC : ss_C E σ s H locs) (o : Nat) {C : String} {T : u_T} {N ci : Nat} (ho : o < E.2.2.1) {fs : List Value} (he : E.2.2.2.2.1 o (σ o) = .inr (ci, fs)) (hc : vwCl[ci]? = some (C, T, N)) : ∃ cellB : Cell, H[E.2.2.2.1 o]? = some cellB ∧ cellB.vm.isStatics = false ∧ s.vm.findClass C = some cellB.cls :=
  va_recv (q0 := o) (ci := ci) (fs := fs) hK hC.1 hc (by rw [ss_look ho, he])
theorem ss_kv {a : Array Value} {post : ss_S → Prop} {st0 : List Value} (hr : va_Run p l e R s m args below meth c H locs cells slots 0 0 (F0 m pc ls st0) rest (va_Qv post (ss_B E) E.2.1 a) E.2.1) (hC : ss_C E σ s H locs)
    (kk : ∀ (σ' : ss_S) (H1 : Heap) (locs1 : List Loc), ss_C E σ' s H1 locs1 → post σ' → W p l e R s m args below meth c H1 locs1 cells slots Q (F0 m (pc + 3) ls rest)) : W p l e R s m args below meth c H locs cells slots Q (F0 m pc ls st0) := by
  refine va_callv hr hC.2.2 (fun q _ h => h) (fun q h => h) (fun u t H1 locs1 ht hvm hw hB hz1 hk1 hS => ?_)
  exact kk u H1 locs1 ⟨by rw [← ht]; exact hB.1, hB.2, hS⟩ hw
theorem ss_ki {a : Array Value} {post : Int32 → ss_S → Prop} {st0 : List Value} (hr : va_Run p l e R s m args below meth c H locs cells slots 0 0 (F0 m pc ls st0) rest (va_Qi post (ss_B E) E.2.1 a) E.2.1) (hC : ss_C E σ s H locs)
    (kk : ∀ (r : Int32) (σ' : ss_S) (H1 : Heap) (locs1 : List Loc), ss_C E σ' s H1 locs1 → post r σ' → W p l e R s m args below meth c H1 locs1 cells slots Q (F0 m (pc + 3) ls (.int r :: rest))) : W p l e R s m args below meth c H locs cells slots Q (F0 m pc ls st0) := by
  refine va_calli hr hC.2.2 (fun q _ h => h) (fun q h => h) (fun r u t H1 locs1 ht hvm hw hB hz1 hk1 hS => ?_)
  exact kk r u H1 locs1 ⟨by rw [← ht]; exact hB.1, hB.2, hS⟩ hw
theorem ss_kl {a : Array Value} {post : Int64 → ss_S → Prop} {st0 : List Value} (hr : va_Run p l e R s m args below meth c H locs cells slots 0 0 (F0 m pc ls st0) rest (va_Ql post (ss_B E) E.2.1 a) E.2.1) (hC : ss_C E σ s H locs)
    (kk : ∀ (r : Int64) (σ' : ss_S) (H1 : Heap) (locs1 : List Loc), ss_C E σ' s H1 locs1 → post r σ' → W p l e R s m args below meth c H1 locs1 cells slots Q (F0 m (pc + 3) ls (.long r :: rest))) : W p l e R s m args below meth c H locs cells slots Q (F0 m pc ls st0) := by
  refine va_calll hr hC.2.2 (fun q _ h => h) (fun q h => h) (fun r u t H1 locs1 ht hvm hw hB hz1 hk1 hS => ?_)
  exact kk r u H1 locs1 ⟨by rw [← ht]; exact hB.1, hB.2, hS⟩ hw
abbrev ss_dV (y : MethodName) (n : Nat) : Prop := y.cls ≠ "java/lang/invoke/MethodHandle" ∧ y.cls ≠ "java/lang/invoke/VarHandle" ∧ (parseMethodDescriptor y.desc).map (fun d => d.parameters.length) = some n
theorem ss_rV {C : String} {b : Nat} {Pc : Array Value → State → Prop} {Qc : Array Value → State → Outcome → State → Prop} {free : Addr → Prop} (F : ss_F p R s m args meth c E cc nL Ts own ret rm) (hM : Met l y ws rm' Pc Qc 0 0 free) (hG : GoodIn Ts (wsV own index C y ws)) (hw : ws = Cond.code y bytes maxL ret' :: ws') (hrm : rm'.cells = 0 ∧ rm'.slots = 0) (hd : y.cls = C ∧ ss_dV y n) (hR : rm'.frames + 1 ≤ rm.frames ∧ 8 + (maxL + 11) + rm'.locals ≤ rm.locals) (hp : PreV s H C b Pc As) (hn : As.length = n) (hsz : ls.size = nL) (hst : st = As.reverse ++ .ref b :: rest) (hW : (rest.map fun v => v.category).sum ≤ 8) (hdg : decode cc pc = .ok (.invokevirtual index, 3)) (hf : cells ≤ R.cells ∧ slots ≤ R.slots) :
    va_Run p l e R s m args below meth c H locs cells slots 0 0 (F0 m pc ls st) rest (Qc (Value.ref b :: As).toArray) free :=
  va_runV F.1 hM (cwV n F.1.2.2.2.2 hG hw hrm.1 hrm.2 hd ⟨Nat.le_trans hR.1 F.2.2.2.1.1, Nat.le_trans hR.2 F.2.2.2.1.2⟩) hp rfl hn hsz hst (lv_room hW) hdg hf
theorem ss_rVN {C host : String} {b : Nat} {Pc : Array Value → State → Prop} {Qc : Array Value → State → Outcome → State → Prop} {free : Addr → Prop} (F : ss_F p R s m args meth c E cc nL Ts own ret rm) (hM : Met l y ws rm' Pc Qc 0 0 free) (hG : GoodIn Ts ws) (hw : ws = Cond.code y bytes maxL ret' :: ws') (hrm : rm'.cells = 0 ∧ rm'.slots = 0) (hd : ss_dV y n) (hl : Cond.methodLinkNest own index y host ∈ ss_nw) (hini : Cond.initialized y.cls ∈ Ts ∧ Cond.instanceMethod y ∈ Ts ∧ Cond.selects C y y ∈ Ts) (hR : rm'.frames + 1 ≤ rm.frames ∧ 8 + (maxL + 11) + rm'.locals ≤ rm.locals) (hp : PreV s H C b Pc As) (hn : As.length = n) (hsz : ls.size = nL) (hst : st = As.reverse ++ .ref b :: rest) (hW : (rest.map fun v => v.category).sum ≤ 8) (hdg : decode cc pc = .ok (.invokevirtual index, 3)) (hf : cells ≤ R.cells ∧ slots ≤ R.slots) :
    va_Run p l e R s m args below meth c H locs cells slots 0 0 (F0 m pc ls st) rest (Qc (Value.ref b :: As).toArray) free :=
  va_runVN F.1 hM ⟨va_cnB n F.1.2.2.2.2 hG hw hrm.1 hrm.2 (F.2.2.2.2.2 _ hl) (F.1.2.2.2.2 _ hini.1) hd ⟨Nat.le_trans hR.1 F.2.2.2.1.1, Nat.le_trans hR.2 F.2.2.2.1.2⟩, F.1.2.2.2.2 _ hini.2.1, F.1.2.2.2.2 _ hini.2.2⟩ hp rfl hn hsz hst (lv_room hW) hdg hf
theorem ss_rS {Pc : Array Value → State → Prop} {Qc : Array Value → State → Outcome → State → Prop} {free : Addr → Prop} (F : ss_F p R s m args meth c E cc nL Ts own ret rm) (hM : Met l y ws rm' Pc Qc 0 0 free) (hG : GoodIn Ts (va_wsS own index y ws)) (hw : ws = Cond.code y bytes maxL ret' :: ws') (hrm : rm'.cells = 0 ∧ rm'.slots = 0) (hd : ss_dV y n) (hR : rm'.frames + 1 ≤ rm.frames ∧ 8 + (maxL + 11) + rm'.locals ≤ rm.locals) (hp : PreS s H Pc As) (hn : As.length = n) (hsz : ls.size = nL) (hst : st = As.reverse ++ rest) (hW : (rest.map fun v => v.category).sum ≤ 8) (hdg : decode cc pc = .ok (.invokestatic index, 3)) (hf : cells ≤ R.cells ∧ slots ≤ R.slots) :
    va_Run p l e R s m args below meth c H locs cells slots 0 0 (F0 m pc ls st) rest (Qc As.toArray) free :=
  va_runS F.1 hM (va_cwS n F.1.2.2.2.2 hG hw hrm.1 hrm.2 hd ⟨Nat.le_trans hR.1 F.2.2.2.1.1, Nat.le_trans hR.2 F.2.2.2.1.2⟩) hp rfl hn hsz hst (lv_room hW) hdg hf
end
section
variable {p : Program} {l : Launch} {e : Env} {R : Room} {s : State} {m : MethodId} {args : Array Value} {below : List Frame} {meth : Method} {c : Code} {H : Heap} {locs : List Loc} {cells slots : Nat} {Q : State → Prop}
variable {cc : ByteArray} {pc nL : Nat} {ls : Array Slot} {rest : List Value} {E : ss_E} {Ts : List Cond} {own : String} {ret : Option FieldType} {rm : Room}
theorem ss_min (F : ss_F p R s m args meth c E cc nL Ts own ret rm) (hsz : ls.size = nL) {index : Nat} (hlink : (Cond.methodLink own index Lib.Math.min.name).before args s = true) (hstat : (Cond.static Lib.Math.min.name).before args s = true) (hini : (Cond.initialized "java/lang/Math").before args s = true) (hcode : (Cond.code Lib.Math.min.name Lib.Math.min.code 2 (some .int)).before args s = true) (hframes : 1 ≤ rm.frames) (hlocals : (rest.map fun v => v.category).sum + 13 ≤ rm.locals) {x y : Int32} (hdg : decode cc pc = .ok (.invokestatic index, 3))
    (kk : W p l e R s m args below meth c H locs 0 0 Q (F0 m (pc + 3) ls (.int (if y < x then y else x) :: rest))) : W p l e R s m args below meth c H locs 0 0 Q (F0 m pc ls (.int y :: .int x :: rest)) :=
  va_mmin F.1.1 F.1.2.1 (by rw [hsz]; exact F.1.2.2.1) F.1.2.2.2.1 hlink hstat hini hcode (Nat.le_trans hframes F.2.2.2.1.1) (Nat.le_trans hlocals F.2.2.2.1.2) (Nat.zero_le _) (Nat.zero_le _) hdg kk
end
theorem ss_swOut {x : Int32} (lo hi : Int) (hlo : -2147483648 ≤ lo) (hhi : hi < 2147483648) (h : ∀ k : Int, lo ≤ k → k ≤ hi → ¬ x = Int32.ofInt k) : x.toInt < lo ∨ hi < x.toInt := by
  rcases Int.lt_or_le x.toInt lo with q | q
  · exact Or.inl q
  · rcases Int.lt_or_le hi x.toInt with r | r
    · exact Or.inr r
    · exact absurd (Int32.ofInt_toInt x).symm (h x.toInt q r)
def ss_I0 : Room := { frames := 0, cells := 0, slots := 0, locals := 0 }
theorem ss_lvE (vs : List Value) {n : Nat} (h : (lg_sl vs).length ≤ n) {m : MethodId} {P : JFrame → Prop} (k : ∀ ls : Array Slot, lv_has ls n (lv_args 0 vs) → P (F0 m 0 ls [])) : P (entryFrame m vs.toArray n) := by
  rw [lg_entry_eq]
  exact k _ (lv_entry vs h)
theorem ss_MI.of {l : Launch} {y : MethodName} {rm : Room} {E : ss_E} {av : List Value} {σ : ss_S} {wp : (Int32 → ss_S → Prop) → Prop} {cc : ByteArray} {nL : Nat} {ret : Option FieldType} {ws ws' : List Cond} {own : String} (hy : plainName y.cls = true) (ho : own = y.cls) (hws : ws = Cond.code y cc nL ret :: ws') (hl : (lg_sl av).length ≤ nL)
    (body : ∀ (post : Int32 → ss_S → Prop) (p : Program) (e : Env) (R : Room) (s : State) (m : MethodId) (below : List Frame) (meth : Method) (c : Code) (H : Heap) (locs : List Loc) (ls : Array Slot), ss_F p R s m av.toArray meth c E cc nL ws own ret rm → ss_C E σ s H locs → lv_has ls nL (lv_args 0 av) → wp post → W p l e R s m av.toArray below meth c H locs 0 0 (MQ below (va_Qi post (ss_B E) E.2.1) av.toArray s 0 0 E.2.1) (F0 m 0 ls [])) :
    ss_MI l y ws rm E av σ wp := by
  intro post
  refine Met.ofW (cc := cc) (maxL := nL) (ret := ret) hy hws ?_
  intro p e s m args below meth c s₁ B hml hv
  obtain ⟨rfl, ⟨hP, hD⟩, hK, hN, hw⟩ := hv
  refine ss_lvE av hl (fun ls hls => body post p e _ s m below meth c s.heap [] ls ?_ ⟨hP, hD, va_S.rf⟩ hls hw)
  exact ⟨⟨B.exec, B.bytes, hml, by rw [ho]; exact findClass_of_methodNamed B.named, atoms_spec (ws := ws) B.pre⟩, B.returns, B.notSynchronized, ⟨Nat.le_refl _, Nat.le_refl _⟩, hK, hN⟩
theorem ss_ML.of {l : Launch} {y : MethodName} {rm : Room} {E : ss_E} {av : List Value} {σ : ss_S} {wp : (Int64 → ss_S → Prop) → Prop} {cc : ByteArray} {nL : Nat} {ret : Option FieldType} {ws ws' : List Cond} {own : String} (hy : plainName y.cls = true) (ho : own = y.cls) (hws : ws = Cond.code y cc nL ret :: ws') (hl : (lg_sl av).length ≤ nL)
    (body : ∀ (post : Int64 → ss_S → Prop) (p : Program) (e : Env) (R : Room) (s : State) (m : MethodId) (below : List Frame) (meth : Method) (c : Code) (H : Heap) (locs : List Loc) (ls : Array Slot), ss_F p R s m av.toArray meth c E cc nL ws own ret rm → ss_C E σ s H locs → lv_has ls nL (lv_args 0 av) → wp post → W p l e R s m av.toArray below meth c H locs 0 0 (MQ below (va_Ql post (ss_B E) E.2.1) av.toArray s 0 0 E.2.1) (F0 m 0 ls [])) :
    ss_ML l y ws rm E av σ wp := by
  intro post
  refine Met.ofW (cc := cc) (maxL := nL) (ret := ret) hy hws ?_
  intro p e s m args below meth c s₁ B hml hv
  obtain ⟨rfl, ⟨hP, hD⟩, hK, hN, hw⟩ := hv
  refine ss_lvE av hl (fun ls hls => body post p e _ s m below meth c s.heap [] ls ?_ ⟨hP, hD, va_S.rf⟩ hls hw)
  exact ⟨⟨B.exec, B.bytes, hml, by rw [ho]; exact findClass_of_methodNamed B.named, atoms_spec (ws := ws) B.pre⟩, B.returns, B.notSynchronized, ⟨Nat.le_refl _, Nat.le_refl _⟩, hK, hN⟩
theorem ss_MV.of {l : Launch} {y : MethodName} {rm : Room} {E : ss_E} {av : List Value} {σ : ss_S} {wp : (ss_S → Prop) → Prop} {cc : ByteArray} {nL : Nat} {ret : Option FieldType} {ws ws' : List Cond} {own : String} (hy : plainName y.cls = true) (ho : own = y.cls) (hws : ws = Cond.code y cc nL ret :: ws') (hl : (lg_sl av).length ≤ nL)
    (body : ∀ (post : ss_S → Prop) (p : Program) (e : Env) (R : Room) (s : State) (m : MethodId) (below : List Frame) (meth : Method) (c : Code) (H : Heap) (locs : List Loc) (ls : Array Slot), ss_F p R s m av.toArray meth c E cc nL ws own ret rm → ss_C E σ s H locs → lv_has ls nL (lv_args 0 av) → wp post → W p l e R s m av.toArray below meth c H locs 0 0 (MQ below (va_Qv post (ss_B E) E.2.1) av.toArray s 0 0 E.2.1) (F0 m 0 ls [])) :
    ss_MV l y ws rm E av σ wp := by
  intro post
  refine Met.ofW (cc := cc) (maxL := nL) (ret := ret) hy hws ?_
  intro p e s m args below meth c s₁ B hml hv
  obtain ⟨rfl, ⟨hP, hD⟩, hK, hN, hw⟩ := hv
  refine ss_lvE av hl (fun ls hls => body post p e _ s m below meth c s.heap [] ls ?_ ⟨hP, hD, va_S.rf⟩ hls hw)
  exact ⟨⟨B.exec, B.bytes, hml, by rw [ho]; exact findClass_of_methodNamed B.named, atoms_spec (ws := ws) B.pre⟩, B.returns, B.notSynchronized, ⟨Nat.le_refl _, Nat.le_refl _⟩, hK, hN⟩
def ss_ceC (L : Nat → Nat) (cI cS : ClassId) : ss_CE := fun i f => match i with
  | 0 => .inr (4, [.ref (L 1), .ref (L 2), .ref (L 3), .ref (L 5), .ref (L 168), .ref (L 171), .ref (L 6), .int (f 7), .int (f 8)])
  | 1 => .inr (0, [.int (f 0), .int (f 1), .int (f 2)])
  | 2 => .inl (cS, 12, .inr (.inr (.inr (.inr (fun k => some (L (9 + 3 * k)))))))
  | 3 => .inr (1, [.ref (L 4), .ref (L 165), .int (f 2)])
  | 4 => .inl (cS, 40, .inr (.inr (.inr (.inr (fun k => some (L (45 + 3 * k)))))))
  | 5 => .inr (2, [.ref (L 1), .ref (L 7), .ref (L 8)])
  | 6 => .inl (cI, 6, .inl f)
  | 7 => .inl (cI, 36, .inl f)
  | 8 => .inl (cI, 6, .inl f)
  | j + 9 => if j % 3 = 0 then .inr (3, [.ref (L 1), .ref (L (j + 10)), .ref (L (j + 11)), .int (f 3)]) else if j % 3 = 1 then .inl (cI, 36, .inl f) else .inl (cI, 6, .inl f)
def ss_ceM (L : Nat → Nat) (cI cZ : ClassId) : ss_CE := fun i f => match i with
  | 0 => .inr (5, [.int (f 0), .int (f 1), .int (f 2), .ref (L 1), .int (f 4), .int (f 5), .ref (L 2), .int (f 7), .ref (L 3), .ref (L 4), .ref (L 5), .ref (L 6), .ref (L 7), .int (f 13), .ref (L 8), .ref (L 9)])
  | 1 => .inl (cI, 6, .inl f)
  | 2 => .inl (cI, 24, .inl f)
  | 3 => .inl (cZ, 6, .inl f)
  | 4 => .inl (cI, 12, .inl f)
  | 5 => .inl (cI, 72, .inl f)
  | 6 => .inl (cI, 6, .inl f)
  | 7 => .inl (cI, 6, .inl f)
  | 8 => .inl (cI, 40, .inl f)
  | _ => .inl (cI, 240, .inl f)
abbrev ss_tys (cI cZ cS : ClassId) : List (ClassId × FieldType) := [(cI, .int), (cZ, .boolean), (cS, .object "SmallSpaces$Space")]
abbrev ss_EC (D : va_G) (A : Nat → Prop) (L : Nat → Nat) (wr : va_W) (cI cZ cS : ClassId) : ss_E := (D, A, 174, L, ss_ceC L cI cS, wr, ss_tys cI cZ cS)
abbrev ss_EM (D : va_G) (A : Nat → Prop) (L : Nat → Nat) (wr : va_W) (cI cZ cS : ClassId) : ss_E := (D, A, 10, L, ss_ceM L cI cZ, wr, ss_tys cI cZ cS)
def isSp (s : Nat) : Prop := 9 ≤ s ∧ s < 174 ∧ s % 3 = 0
def isAr (a : Nat) : Prop := a = 6 ∨ (7 ≤ a ∧ a < 174 ∧ a % 3 ≠ 0)
def lenC (a : Nat) : Nat := if a % 3 = 1 then 36 else 6
theorem isSp.lt {s : Nat} (h : isSp s) : s < 174 := h.2.1
theorem isAr.lt {s : Nat} (h : isAr s) : s < 174 := by rcases h with h | h <;> omega
theorem isSp.cells {s : Nat} (h : isSp s) : isAr (s + 1) := by obtain ⟨h1, h2, h3⟩ := h; right; omega
theorem isSp.fresh {s : Nat} (h : isSp s) : isAr (s + 2) := by obtain ⟨h1, h2, h3⟩ := h; right; omega
theorem isSp.lenCells {s : Nat} (h : isSp s) : lenC (s + 1) = 36 := by obtain ⟨h1, h2, h3⟩ := h; unfold lenC; rw [if_pos (by omega)]
theorem isSp.lenFresh {s : Nat} (h : isSp s) : lenC (s + 2) = 6 := by obtain ⟨h1, h2, h3⟩ := h; unfold lenC; rw [if_neg (by omega)]
theorem ceC_sp {L : Nat → Nat} {cI cS : ClassId} {s : Nat} (h : isSp s) (f : Nat → Int32) : ss_ceC L cI cS s f = .inr (3, [.ref (L 1), .ref (L (s + 1)), .ref (L (s + 2)), .int (f 3)]) := by
  obtain ⟨h1, h2, h3⟩ := h
  obtain ⟨j, rfl⟩ : ∃ j, s = j + 9 := ⟨s - 9, by omega⟩
  show (if j % 3 = 0 then _ else _) = _
  rw [if_pos (by omega)]
theorem ceC_ar {L : Nat → Nat} {cI cS : ClassId} {a : Nat} (h : isAr a) (f : Nat → Int32) : ss_ceC L cI cS a f = .inl (cI, lenC a, .inl f) := by
  rcases h with rfl | ⟨h1, h2, h3⟩
  · rfl
  · by_cases h7 : a = 7
    · subst h7; rfl
    · by_cases h8 : a = 8
      · subst h8; rfl
      · obtain ⟨j, rfl⟩ : ∃ j, a = j + 9 := ⟨a - 9, by omega⟩
        show (if j % 3 = 0 then _ else _) = _
        rw [if_neg (by omega)]
        by_cases h : j % 3 = 1
        · rw [if_pos h, lenC, if_pos (by omega)]
        · rw [if_neg h, lenC, if_neg (by omega)]
theorem isSp_slot {t : Int32} (h : vp_in t 12) : isSp (9 + 3 * t.toNatClampNeg) := by
  have : t.toNatClampNeg < 12 := by unfold vp_in at h; omega
  exact ⟨by omega, by omega, by omega⟩
theorem isSp_heap {t : Int32} (h : vp_in t 40) : isSp (45 + 3 * t.toNatClampNeg) := by
  have : t.toNatClampNeg < 40 := by unfold vp_in at h; omega
  exact ⟨by omega, by omega, by omega⟩
theorem isSp_165 : isSp 165 := by unfold isSp; omega
theorem isSp_168 : isSp 168 := by unfold isSp; omega
theorem isSp_171 : isSp 171 := by unfold isSp; omega
theorem isAr_6 : isAr 6 := by unfold isAr; omega
theorem isAr_7 : isAr 7 := by unfold isAr; omega
theorem isAr_8 : isAr 8 := by unfold isAr; omega
