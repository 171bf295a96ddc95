theorem pm_x {α : Type} (a b s : List α) : (a ++ (b ++ s)).Perm (b ++ (a ++ s)) := by
  rw [← List.append_assoc, ← List.append_assoc]
  exact List.perm_append_comm.append_right s
theorem pm_4 {α : Type} (l1 h l2 s : List α) : ((l1 ++ h) ++ (l2 ++ s)).Perm ((l2 ++ l1) ++ (h ++ s)) := by
  rw [List.append_assoc, List.append_assoc l2 l1]
  exact ((pm_x h l2 s).append_left l1).trans (pm_x l1 l2 (h ++ s))
theorem arrV_cg {cI : ClassId} {N : Nat} {f g : Nat → Value} (h : ∀ j, j < N → f j = g j) : arrV cI N f = arrV cI N g := by
  have e : (fun j : Fin N => f j.val) = fun j : Fin N => g j.val := funext fun j => h j.val j.isLt
  unfold arrV
  rw [e]
theorem ss_P2.cellAt {D : va_G} {A : Nat → Prop} {pre post : va_W} {H : Heap} {a : Nat} {cA : ClassId} {x y : vp_A} (h : ss_P2 D A (pre ++ (a, .inl (cA, x)) :: post) H) (e : vp_cell cA x = vp_cell cA y) : ss_P2 D A (pre ++ (a, .inl (cA, y)) :: post) H :=
  ((h.perm List.perm_middle).cell e).perm List.perm_middle.symm
theorem refs_cg {cS : ClassId} {N : Nat} {f g : Nat → Option Nat} (h : ∀ k, k < N → f k = g k) : vp_cell cS (N, .inr (.inr (.inr (.inr f)))) = vp_cell cS (N, .inr (.inr (.inr (.inr g)))) := by
  rw [vp_cell_q, vp_cell_q]
  exact arrV_cg (fun j hj => by rw [h j hj])
def sX (h : Nat → Int32) : ss_S := fun i k => match i with
  | 1 => (match k with | 1 => 1 | _ => 2)
  | 7 => h k
  | _ => 0
def LfX (a fr q2 q3 q4 q5 q6 q7 q8 : Nat) (Ls : Nat → Nat) : Nat → Nat := fun j => match j with
  | 0 => a
  | 1 => fr
  | 2 => q2
  | 3 => q3
  | 4 => q4
  | 5 => q5
  | 6 => q6
  | 7 => q7
  | 8 => q8
  | j + 9 => Ls (j + 9)
theorem LfX_s {a fr q2 q3 q4 q5 q6 q7 q8 : Nat} {Ls : Nat → Nat} {j : Nat} (h : 9 ≤ j) : LfX a fr q2 q3 q4 q5 q6 q7 q8 Ls j = Ls j := by
  obtain ⟨i, rfl⟩ : ∃ i, j = i + 9 := ⟨j - 9, by omega⟩
  rfl
theorem sp_ent_ce {a fr q2 q3 q4 q5 q6 q7 q8 : Nat} {Ls : Nat → Nat} {cI cS : ClassId} {h : Nat → Int32} {j : Nat} (hj : 9 ≤ j) : sp_ent fr cI Ls j = (LfX a fr q2 q3 q4 q5 q6 q7 q8 Ls j, ss_ceC (LfX a fr q2 q3 q4 q5 q6 q7 q8 Ls) cI cS j (sX h j)) := by
  obtain ⟨i, rfl⟩ : ∃ i, j = i + 9 := ⟨j - 9, by omega⟩
  have e0 : sX h (i + 9) = fun _ => 0 := rfl
  rw [e0]
  show _ = (Ls (i + 9), if i % 3 = 0 then _ else _)
  have r0 : i % 3 = 0 ∨ i % 3 = 1 ∨ i % 3 = 2 := by omega
  rcases r0 with r | r | r
  · rw [sp_ent_0 (by omega), if_pos r]
    rfl
  · rw [sp_ent_1 (by omega), if_neg (by omega), if_pos r]
  · rw [sp_ent_2 (by omega), if_neg (by omega), if_neg (by omega)]
def all_ids : List Nat := 6 :: 0 :: 1 :: 2 :: 3 :: 4 :: 5 :: 7 :: 8 :: 171 :: (171 + 1) :: (171 + 2) :: 168 :: (168 + 1) :: (168 + 2) :: (hp_ids 40 ++ sl_ids 12)
theorem all_ids_p : all_ids.Perm (List.range 174) := List.isPerm_iff.mp (by decide +kernel)
