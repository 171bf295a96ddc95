def ss_P2 (D : va_G) (A : Nat → Prop) (ws : va_W) (H : Heap) : Prop := va_P D vwCl ws H ∧ va_D A ws
theorem vD_pw {A : Nat → Prop} {ws : va_W} (h : va_D A ws) : ws.Pairwise (fun a b => a.1 ≠ b.1) := by
  rw [List.pairwise_iff_getElem]
  intro i j hi hj hij he
  have := h.1 i j _ _ (List.getElem?_eq_getElem hi) (List.getElem?_eq_getElem hj) he
  omega
theorem vD_of {A : Nat → Prop} {ws : va_W} (h : ws.Pairwise (fun a b => a.1 ≠ b.1)) (hA : ∀ q ∈ ws, A q.1) : va_D A ws := by
  rw [List.pairwise_iff_getElem] at h
  refine ⟨fun i j x y hi hj he => ?_, fun k q hk => hA q (List.mem_of_getElem? hk)⟩
  obtain ⟨hi', e1⟩ := List.getElem?_eq_some_iff.mp hi
  obtain ⟨hj', e2⟩ := List.getElem?_eq_some_iff.mp hj
  rw [← e1, ← e2] at he
  rcases Nat.lt_trichotomy i j with y | y | y
  · exact absurd he (h i j hi' hj' y)
  · exact y
  · exact absurd he.symm (h j i hj' hi' y)
theorem ss_P2.perm {D : va_G} {A : Nat → Prop} {ws ws' : va_W} {H : Heap} (h : ss_P2 D A ws H) (hp : ws.Perm ws') : ss_P2 D A ws' H := by
  refine ⟨fun k q hk => ?_, vD_of ((hp.pairwise_iff (fun h => Ne.symm h)).mp (vD_pw h.2)) (fun q hq => ?_)⟩
  · obtain ⟨i, hi⟩ := List.getElem?_of_mem (hp.mem_iff.mpr (List.mem_of_getElem? hk))
    exact h.1 i q hi
  · obtain ⟨i, hi⟩ := List.getElem?_of_mem (hp.mem_iff.mpr hq)
    exact h.2.2 i q hi
theorem ss_P2.cell {D : va_G} {A : Nat → Prop} {ws : va_W} {H : Heap} {a : Nat} {cA : ClassId} {x y : vp_A} (h : ss_P2 D A ((a, .inl (cA, x)) :: ws) H) (e : vp_cell cA x = vp_cell cA y) : ss_P2 D A ((a, .inl (cA, y)) :: ws) H := by
  refine ⟨fun k q hk => ?_, vD_of ?_ (fun q hq => ?_)⟩
  · cases k with
    | zero =>
      cases hk
      have := h.1 0 _ rfl
      show H[a]? = some (vp_cell cA y)
      rw [← e]; exact this
    | succ k => exact h.1 (k + 1) q hk
  · have := vD_pw h.2
    rw [List.pairwise_cons] at this ⊢
    exact this
  · rcases List.mem_cons.mp hq with rfl | hq
    · exact h.2.2 0 (a, .inl (cA, x)) rfl
    · obtain ⟨i, hi⟩ := List.getElem?_of_mem hq
      exact h.2.2 (i + 1) q hi
theorem ss_P2.left {D : va_G} {A B : Nat → Prop} {w0 ws : va_W} {H : Heap} (h : ss_P2 D A (w0 ++ ws) H) (hB : ∀ q, A q → B q) : ss_P2 D B w0 H := by
  have hl : ∀ (k : Nat) (q : Nat × va_E), w0[k]? = some q → (w0 ++ ws)[k]? = some q := fun k q hk => by
    rw [List.getElem?_append_left (List.getElem?_eq_some_iff.mp hk).1]; exact hk
  exact ⟨fun k q hk => h.1 k q (hl k q hk), fun i j x y hi hj => h.2.1 i j x y (hl i x hi) (hl j y hj), fun k q hk => hB _ (h.2.2 k q (hl k q hk))⟩
abbrev ss_E0 (D : va_G) (tys : List (ClassId × FieldType)) : ss_E := (D, fun _ => True, 0, fun n => n, fun _ _ => .inr (0, []), [], tys)
def ss_preN (D : va_G) (tys : List (ClassId × FieldType)) (av : List Value) (w0 : va_W) (sz : Nat) : Array Value → State → Prop :=
  va_Pc av (fun U => U.heap.size = sz ∧ ss_P2 D (fun _ => True) w0 U.heap ∧ va_K D vwCl tys U ∧ ss_NW U ∧ va_AO RX3 U)
theorem ss_blindN (D : va_G) (tys : List (ClassId × FieldType)) (av : List Value) (w0 : va_W) (sz : Nat) : FrameBlind (ss_preN D tys av w0 sz) := by
  intro a U g mk q
  obtain ⟨q0, q1, q2, q3, q4, q5⟩ := q
  exact ⟨q0, q1, q2, va_K.moved (u := U) (U := U.calling g mk a) (Vm.Alike.refl U.vm) q3, ss_NW.same (s := U) (U := U.calling g mk a) rfl q4, va_AO.moved (u := U) (U := U.calling g mk a) (Vm.Alike.refl U.vm) q5⟩
def ss_MN {S : Type} (l : Launch) (y : MethodName) (ws : List Cond) (rm : Room) (D : va_G) (tys : List (ClassId × FieldType)) (av : List Value) (w0 : va_W) (post : S → Prop) (w1 : S → va_W) (mc ms : Nat) : Prop :=
  ∀ sz, Met l y ws rm (ss_preN D tys av w0 sz) (va_Qv post (fun u t => ss_P2 D (va_A w0 sz) (w1 u) t.heap) (va_A w0 sz)) mc ms (va_A w0 sz)
theorem ss_MN.of {S : Type} {l : Launch} {y : MethodName} {rm : Room} {D : va_G} {tys : List (ClassId × FieldType)} {av : List Value} {w0 : va_W} {post : S → Prop} {w1 : S → va_W} {mc ms : Nat} {cc : ByteArray} {nL : Nat} {ws ws' : List Cond} {own : String} (hy : plainName y.cls = true) (ho : own = y.cls) (hn : y.name = "<init>") (hws : ws = Cond.code y cc nL none :: ws') (hl : (lg_sl av).length ≤ nL)
    (body : ∀ (p : Program) (e : Env) (s : State) (m : MethodId) (below : List Frame) (meth : Method) (c : Code) (ls : Array Slot) (A : Nat → Prop), ss_F p rm s m av.toArray meth c (ss_E0 D tys) cc nL ws own none rm → meth.name = "<init>" → va_AO RX3 s → (∀ q, s.heap.size ≤ q → A q) → ss_P2 D A w0 s.heap → lv_has ls nL (lv_args 0 av) → W p l e rm s m av.toArray below meth c s.heap [] 0 0 (MQ below (va_Qv post (fun u t => ss_P2 D A (w1 u) t.heap) A) av.toArray s mc ms A) (F0 m 0 ls [])) :
    ss_MN l y ws rm D tys av w0 post w1 mc ms := by
  intro sz
  refine Met.ofW (cc := cc) (maxL := nL) (ret := none) hy hws ?_
  intro p e s m args below meth c s₁ B hml hv
  obtain ⟨rfl, hsz, hP, hK, hN, hO⟩ := hv
  subst hsz
  refine ss_lvE av hl (fun ls hls => body p e s m below meth c ls (va_A w0 s.heap.size) ?_ ?_ hO (fun q h => Or.inr h) ⟨hP.1, hP.2.self⟩ hls)
  · exact ⟨⟨B.exec, B.bytes, hml, by rw [ho]; exact findClass_of_methodNamed B.named, atoms_spec (ws := ws) B.pre⟩, B.returns, B.notSynchronized, ⟨Nat.le_refl _, Nat.le_refl _⟩, hK, hN⟩
  · rw [(name_of_methodNamed B.named B.method).1, hn]
section
variable {p : Program} {l : Launch} {e : Env} {R : Room} {s : State} {m : MethodId} {args : Array Value} {below : List Frame} {meth : Method} {c : Code} {H : Heap} {locs : List Loc} {cells slots : Nat} {Q : State → Prop}
variable {cc : ByteArray} {pc nL : Nat} {ls : Array Slot} {rest : List Value} {E : ss_E} {Ts : List Cond} {own : String} {ret : Option FieldType} {rm : Room} {A : Nat → Prop} {ws : va_W}
theorem ss_retN {S : Type} {post : S → Prop} {w1 : S → va_W} {mc ms : Nat} (u : S) (F : ss_F p R s m args meth c E cc nL Ts own none rm) (h2 : ss_P2 E.1 A (w1 u) H) (hS : va_S A s.heap H locs) (hp : post u) (hc : cells ≤ mc) (hs : slots ≤ ms) (hdg : decode cc pc = .ok (.return_, 1)) : W p l e R s m args below meth c H locs cells slots (MQ below (va_Qv post (fun u t => ss_P2 E.1 A (w1 u) t.heap) A) args s mc ms A) (F0 m pc ls []) :=
  W.widen hc hs (W.vret F.1.1 F.1.2.1 F.2.1 (fun t ht hW => ⟨⟨u, rfl, hp, by show ss_P2 E.1 A (w1 u) t.heap; rw [ht]; exact h2⟩, hS.F ht⟩) hS.2.2 hdg F.2.2.1)
theorem ss_newO (F : ss_F p R s m args meth c E cc nL Ts own ret rm) (hA : ∀ q, s.heap.size ≤ q → A q) (h2 : ss_P2 E.1 A ws H) (hS : va_S A s.heap H locs) {C : String} {T : u_T} {N ci index : Nat} (hin : ∀ w ∈ u_ws C T N, w ∈ Ts) (ty : Nat → FieldType) (hty : ∀ k, k < N → parseFieldDescriptor (T k).2.2.1 = some (ty k)) (hcl : Cond.classLink own index C ∈ Ts) (hinst : Cond.instantiable C N ∈ Ts) (hini : Cond.initialized C ∈ Ts) (hc : vwCl[ci]? = some (C, T, N)) (fs : List Value) (hfs : ∀ j, j < N → defaultValue (ty j) = vp_V fs j) (hcells : cells + 1 ≤ R.cells) (hslots : slots + N ≤ R.slots) (hdg : decode cc pc = .ok (.new index, 3))
    (kk : ∀ (q : Nat) (H1 : Heap), ss_P2 E.1 A ((q, .inr (ci, fs)) :: ws) H1 → va_S A s.heap H1 locs → W p l e R s m args below meth c H1 locs (cells + 1) (slots + N) Q (F0 m (pc + 3) ls (.ref q :: rest))) : W p l e R s m args below meth c H locs cells slots Q (F0 m pc ls rest) :=
  va_new (D := E.1) (cl := vwCl) (ws := ws) (A := A) (ci := ci) (fs := fs) (C := C) (T := T) (N := N) F.1.1 F.1.2.1 F.1.2.2.2.2 hin ty hty F.1.2.2.2.1 (F.1.2.2.2.2 _ hcl) (F.1.2.2.2.2 _ hinst) (F.1.2.2.2.2 _ hini) F.2.2.2.2.1 h2.1 h2.2 hS hA hc hfs hcells hslots hdg (fun q H1 a b c => kk q H1 (ss_P2.perm ⟨a, b⟩ (List.perm_append_singleton _ _)) c)
theorem ss_newA (F : ss_F p R s m args meth c E cc nL Ts own ret rm) (hA : ∀ q, s.heap.size ≤ q → A q) (h2 : ss_P2 E.1 A ws H) (hS : va_S A s.heap H locs) {atype : ArrayType} {ty : FieldType} (hty : newarray.typeOf atype = ty) (harr : Cond.arrayClass ty ∈ Ts) {cA0 : ClassId} (t0 : Nat) (ht : E.2.2.2.2.2.2[t0]? = some (cA0, ty)) (hra : ∀ cA, va_RA s cA ty → s.vm.findClass ("[" ++ ty.toString) = some cA) {n : Int32} (N' : Nat) (a0 : vp_A) (ha : ∀ cA : ClassId, vp_cell cA a0 = arrV cA N' (fun _ => defaultValue ty)) (hn : ¬ n < 0) (hN : n.toNatClampNeg = N') (hbytes : N' * componentBytes ty ≤ 536870912) (hcells : cells + 1 ≤ R.cells) (hslots : slots + N' ≤ R.slots) (hdg : decode cc pc = .ok (.newarray atype, 2))
    (kk : ∀ (q : Nat) (H1 : Heap), ss_P2 E.1 A ((q, .inl (cA0, a0)) :: ws) H1 → va_S A s.heap H1 locs → W p l e R s m args below meth c H1 locs (cells + 1) (slots + N') Q (F0 m (pc + 2) ls (.ref q :: rest))) : W p l e R s m args below meth c H locs cells slots Q (F0 m pc ls (.int n :: rest)) := by
  refine va_newa (D := E.1) (cl := vwCl) (ws := ws) (A := A) (a0 := a0) F.1.1 F.1.2.1 (by rw [hty]; exact F.1.2.2.2.2 _ harr) hty F.2.2.2.2.1 h2.1 h2.2 hS hA ha hn hN hbytes hcells hslots hdg (fun q cA H1 hK a b c => ?_)
  have e : cA = cA0 := by
    have h1 := hra _ (hK.2 E.2.2.2.2.2.2.length (cA, ty) (by rw [List.getElem?_append_right (Nat.le_refl _), Nat.sub_self]; rfl)).2
    have h2 := hra _ (F.2.2.2.2.1.2 t0 _ ht).2
    exact Option.some.inj (h1.symm.trans h2)
  subst e
  exact kk q H1 (ss_P2.perm ⟨a, b⟩ (List.perm_append_singleton _ _)) c
theorem ss_newQ (F : ss_F p R s m args meth c E cc nL Ts own ret rm) (hO : va_AO RX3 s) (hA : ∀ q, s.heap.size ≤ q → A q) (h2 : ss_P2 E.1 A ws H) (hS : va_S A s.heap H locs) {index : Nat} (hcl : Cond.classLink own index RX3 ∈ Ts) {cA0 : ClassId} (t0 : Nat) (ht : E.2.2.2.2.2.2[t0]? = some (cA0, .object RX3)) {n : Int32} (N' : Nat) (hn : ¬ n < 0) (hN : n.toNatClampNeg = N') (hbytes : N' * 4 ≤ 536870912) (hcells : cells + 1 ≤ R.cells) (hslots : slots + N' ≤ R.slots) (hdg : decode cc pc = .ok (.anewarray index, 3))
    (kk : ∀ (q : Nat) (H1 : Heap), ss_P2 E.1 A ((q, .inl (cA0, N', .inr (.inr (.inr (.inr (fun _ => none)))))) :: ws) H1 → va_S A s.heap H1 locs → W p l e R s m args below meth c H1 locs (cells + 1) (slots + N') Q (F0 m (pc + 3) ls (.ref q :: rest))) : W p l e R s m args below meth c H locs cells slots Q (F0 m pc ls (.int n :: rest)) := by
  refine va_newq (D := E.1) (cl := vwCl) (ws := ws) (A := A) F.1.1 F.1.2.1 F.1.2.2.2.1 (F.1.2.2.2.2 _ hcl) hO F.2.2.2.2.1 h2.1 h2.2 hS hA hn hN hbytes hcells hslots hdg (fun q cA H1 hK a b c => ?_)
  have e : cA = cA0 := by
    obtain ⟨_, _, _, _, _, h1⟩ := (hK.2 E.2.2.2.2.2.2.length (cA, .object RX3) (by rw [List.getElem?_append_right (Nat.le_refl _), Nat.sub_self]; rfl)).2
    obtain ⟨_, _, _, _, _, h2⟩ := (F.2.2.2.2.1.2 t0 _ ht).2
    exact Option.some.inj (h1.symm.trans h2)
  subst e
  exact kk q H1 (ss_P2.perm ⟨a, b⟩ (List.perm_append_singleton _ _)) c
theorem ss_putC (F : ss_F p R s m args meth c E cc nL Ts own ret rm) (hi : meth.name = "<init>") (h2 : ss_P2 E.1 A ws H) (hS : va_S A s.heap H locs) {T : u_T} {N ci index : Nat} (ty0 : Nat → FieldType) (hty : ∀ k, k < N → parseFieldDescriptor (T k).2.2.1 = some (ty0 k)) (hnm : ∀ a, a < N → ∀ b, b < N → a ≠ b → (T a).2.1 ≠ (T b).2.1) (hin : ∀ w ∈ u_ws own T N, w ∈ Ts) (q0 : Nat) {a : Nat} {fs : List Value} (he : ws[q0]? = some (a, .inr (ci, fs))) (hc : vwCl[ci]? = some (own, T, N)) (k : Nat) (hk : k < N) (hdecl : (T k).1 = own) (hlink : Cond.fieldLink own index own (T k).2.1 (T k).2.2.1 ∈ Ts) (hfin : (T k).2.2.2 = true) {ty : FieldType} {v : Value} (hd : parseFieldDescriptor (T k).2.2.1 = some ty) (hn : narrow ty v = v) (hfit : fits ty v = true) (hl : k < fs.length) (hdg : decode cc pc = .ok (.putfield index, 3))
    (kk : ∀ (H1 : Heap) (locs1 : List Loc), ss_P2 E.1 A (ws.set q0 (a, .inr (ci, fs.set k v))) H1 → va_S A s.heap H1 locs1 → W p l e R s m args below meth c H1 locs1 cells slots Q (F0 m (pc + 3) ls rest)) : W p l e R s m args below meth c H locs cells slots Q (F0 m pc ls (v :: .ref a :: rest)) :=
  va_putF (D := E.1) (cl := vwCl) (ws := ws) (A := A) (ci := ci) (fs := fs) (C := own) (T := T) (N := N) (ref := own) F.1.1 F.1.2.1 F.1.2.2.2.2 hin ty0 hty hnm F.1.2.2.2.1 F.2.2.2.2.1 h2.1 h2.2 hS q0 he hc k hk (F.1.2.2.2.2 _ hlink) (fun x h => by rw [hdecl] at h; exact h) hfin hi hdecl hd hn hfit hl hdg (fun H1 locs1 x y z => kk H1 locs1 ⟨x, y⟩ z)
theorem ss_getC (F : ss_F p R s m args meth c E cc nL Ts own ret rm) (h2 : ss_P2 E.1 A ws H) {T : u_T} {N ci index : Nat} (hin : ∀ w ∈ u_ws own T N, w ∈ Ts) (q0 : Nat) {a : Nat} {fs : List Value} (he : ws[q0]? = some (a, .inr (ci, fs))) (hc : vwCl[ci]? = some (own, T, N)) (k : Nat) (hk : k < N) (hlink : Cond.fieldLink own index (T k).1 (T k).2.1 (T k).2.2.1 ∈ Ts) {v : Value} (hv : fs[k]? = some v) (hdg : decode cc pc = .ok (.getfield index, 3))
    (kk : W p l e R s m args below meth c H locs cells slots Q (F0 m (pc + 3) ls (v :: rest))) : W p l e R s m args below meth c H locs cells slots Q (F0 m pc ls (.ref a :: rest)) :=
  va_get (D := E.1) (cl := vwCl) (ws := ws) (ci := ci) (fs := fs) (C := own) (T := T) (N := N) F.1.1 F.1.2.1 F.1.2.2.2.2 hin F.1.2.2.2.1 F.2.2.2.2.1 h2.1 q0 he hc k hk (F.1.2.2.2.2 _ hlink) (fun _ h => h) hv hdg kk
theorem ss_oi (F : ss_F p R s m args meth c E cc nL Ts own ret rm) {index : Nat} (hlink : Cond.methodLink own index objectInit ∈ Ts) (hinst : Cond.instanceMethod objectInit ∈ Ts) (hcode : Cond.code objectInit ⟨#[0xb1]⟩ 1 none ∈ Ts) (hsz : ls.size = nL) {a : Nat} (hfr : 1 ≤ R.frames) (hlo : 12 ≤ R.locals) (hdg : decode cc pc = .ok (.invokespecial index, 3))
    (kk : W p l e R s m args below meth c H locs cells slots Q (F0 m (pc + 3) ls [])) : W p l e R s m args below meth c H locs cells slots Q (F0 m pc ls [.ref a]) := by
  refine W.objInit (rest := []) F.1.1 F.1.2.1 F.1.2.2.2.1 (F.1.2.2.2.2 _ hlink) (F.1.2.2.2.2 _ hinst) (F.1.2.2.2.2 _ hcode) rfl (by rw [F.1.2.2.1]; exact hsz) rfl hdg hfr hlo ?_
  exact W.eq (g2 := F0 m (pc + 3) ls []) rfl kk
theorem ss_preNS {av : List Value} {w0 : va_W} (F : ss_F p R s m args meth c E cc nL Ts own ret rm) (hO : va_AO RX3 s) (h2 : ss_P2 E.1 A (w0 ++ ws) H) : PreS s H (ss_preN E.1 E.2.2.2.2.2.2 av w0 H.size) av :=
  ⟨ss_blindN _ _ _ _ _, fun U hU hW => ⟨rfl, by rw [hU], by rw [hU]; exact h2.left (fun _ _ => trivial), va_K.moved hW.alike F.2.2.2.2.1, ss_NW.warm hW F.2.2.2.2.2, va_AO.moved hW.alike hO⟩⟩
theorem ss_rangeC (w0 : va_W) : (List.range w0.length).map (fun i => w0[i]?) = w0.map some := by
  apply List.ext_getElem?
  intro i
  by_cases h : i < w0.length
  · simp [h]
  · simp [h]
theorem ss_kN {S : Type} {post : S → Prop} {w1 : S → va_W} {w0 : va_W} {mc ms : Nat} {a : Array Value} {st0 : List Value} (hr : va_Run p l e R s m args below meth c H locs cells slots mc ms (F0 m pc ls st0) rest (va_Qv post (fun u t => ss_P2 E.1 (va_A w0 H.size) (w1 u) t.heap) (va_A w0 H.size) a) (va_A w0 H.size)) (h2 : ss_P2 E.1 A (w0 ++ ws) H) (hS : va_S A s.heap H locs) (hA : ∀ q, s.heap.size ≤ q → A q)
    (kk : ∀ (u : S) (H1 : Heap) (locs1 : List Loc), post u → ss_P2 E.1 A (w1 u ++ ws) H1 → va_S A s.heap H1 locs1 → W p l e R s m args below meth c H1 locs1 (cells + mc) (slots + ms) Q (F0 m (pc + 3) ls rest)) : W p l e R s m args below meth c H locs cells slots Q (F0 m pc ls st0) := by
  have hF : ∀ q, va_A w0 H.size q → A q := fun q h => by
    rcases h with ⟨k, e, h⟩ | h
    · exact h2.2.2 k (q, e) (by rw [List.getElem?_append_left (List.getElem?_eq_some_iff.mp h).1]; exact h)
    · exact hA q (Nat.le_trans hS.1 h)
  refine va_callv hr hS (fun q _ h => hF q h) hF (fun u t H1 locs1 ht hvm hp hB hz hk hS1 => kk u H1 locs1 hp ?_ hS1)
  rw [ht] at hB
  have := va_joinQ (X := w0) (cx := w0) (wr := []) (w1 := w1 u) (pl := ws) h2.1 h2.2 (List.range w0.length) [] (ss_rangeC w0) rfl rfl (fun i hi => absurd hi List.not_mem_nil) hk hF hB.1 hB.2
  exact this
theorem ss_rIN {y : MethodName} {bytes : ByteArray} {maxL n index mc ms : Nat} {ws0 ws' : List Cond} {rm' : Room} {As : List Value} {host : String} {b : Nat} {Pc : Array Value → State → Prop} {Qc : Array Value → State → Outcome → State → Prop} {free : Addr → Prop} (F : ss_F p R s m args meth c E cc nL Ts own ret rm) (hM : Met l y ws0 rm' Pc Qc mc ms free) (hG : GoodIn Ts ws0) (hw : ws0 = Cond.code y bytes maxL none :: ws') (hrm : rm'.cells = mc ∧ rm'.slots = ms) (hd : y.name = "<init>" ∧ ss_dV y n) (hl : Cond.methodLinkNest own index y host ∈ ss_nw) (hini : Cond.initialized y.cls ∈ Ts ∧ Cond.instanceMethod y ∈ Ts) (hR : rm'.frames + 1 ≤ rm.frames ∧ 8 + (maxL + 11) + rm'.locals ≤ rm.locals) (hp : PreS s H Pc (.ref b :: As)) (hn : As.length = n) (hsz : ls.size = nL) {st : List Value} (hst : st = As.reverse ++ .ref b :: rest) (hW : (rest.map fun v => v.category).sum ≤ 8) (hdg : decode cc pc = .ok (.invokespecial index, 3)) (hf : cells + mc ≤ R.cells ∧ slots + ms ≤ R.slots) :
    va_Run p l e R s m args below meth c H locs cells slots mc ms (F0 m pc ls st) rest (Qc (Value.ref b :: As).toArray) free :=
  va_runIN F.1 hM ⟨va_cnB n F.1.2.2.2.2 hG hw hrm.1 hrm.2 (F.2.2.2.2.2 _ hl) (F.1.2.2.2.2 _ hini.1) hd.2 ⟨Nat.le_trans hR.1 F.2.2.2.1.1, Nat.le_trans hR.2 F.2.2.2.1.2⟩, hd.1, F.1.2.2.2.2 _ hini.2⟩ hp rfl hn hsz hst (lv_room hW) hdg hf
theorem ss_rI {y : MethodName} {bytes : ByteArray} {maxL n index mc ms : Nat} {ws0 ws' : List Cond} {rm' : Room} {As : List Value} {b : Nat} {Pc : Array Value → State → Prop} {Qc : Array Value → State → Outcome → State → Prop} {free : Addr → Prop} (F : ss_F p R s m args meth c E cc nL Ts own ret rm) (hM : Met l y ws0 rm' Pc Qc mc ms free) (hG : GoodIn Ts ws0) (hw : ws0 = Cond.code y bytes maxL none :: ws') (hrm : rm'.cells = mc ∧ rm'.slots = ms) (hd : y.name = "<init>" ∧ ss_dV y n) (hl : Cond.methodLink own index y ∈ Ts) (hini : Cond.initialized y.cls ∈ Ts ∧ Cond.instanceMethod y ∈ Ts) (hR : rm'.frames + 1 ≤ rm.frames ∧ 8 + (maxL + 11) + rm'.locals ≤ rm.locals) (hp : PreS s H Pc (.ref b :: As)) (hn : As.length = n) (hsz : ls.size = nL) {st : List Value} (hst : st = As.reverse ++ .ref b :: rest) (hW : (rest.map fun v => v.category).sum ≤ 8) (hdg : decode cc pc = .ok (.invokespecial index, 3)) (hf : cells + mc ≤ R.cells ∧ slots + ms ≤ R.slots) :
    va_Run p l e R s m args below meth c H locs cells slots mc ms (F0 m pc ls st) rest (Qc (Value.ref b :: As).toArray) free :=
  va_runI F.1 hM (cwI n F.1.2.2.2.2 hG hw hrm.1 hrm.2 (F.1.2.2.2.2 _ hini.1) (F.1.2.2.2.2 _ hl) (F.1.2.2.2.2 _ hini.2) hd.1 hd.2 ⟨Nat.le_trans hR.1 F.2.2.2.1.1, Nat.le_trans hR.2 F.2.2.2.1.2⟩) hp rfl hn hsz hst (lv_room hW) hdg hf
end
