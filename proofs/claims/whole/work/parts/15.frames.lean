/-! which rows a method leaves alone; cs_bd_eq isn't proved by rfl alone, on purpose: as a rewriting by definition the kernel would unfold the wrong side -/
theorem cs_bd_eq {α : Type} {β : Type} (v : α) (k : α → β) : cs_bd v k = k v := Eq.trans rfl rfl
theorem cs_bd_prop {α : Type} (v : α) (k : α → Prop) : cs_bd v k = k v := Eq.trans rfl rfl
theorem fr_Ar_fill_L5 {fuel : Nat} : ∀ {M : cs_Mem} {y0 : Nat} {y1 y2 y3 : Int32} {i : Nat} (_ : i ≠ y0), f_Ar_fill_L5 fuel M y0 y1 y2 y3 i = M i := by
  induction fuel with
  | zero => intros; rfl
  | succ n ih =>
    intro M y0 y1 y2 y3 i h
    rw [f_Ar_fill_L5]
    split
    · rfl
    · simp only [cs_bd_eq]
      rw [ih h, cs_up_ne _ _ h]
theorem fr_Ar_fill {M : cs_Mem} {x0 : Nat} {x1 : Int32} {i : Nat} (h : i ≠ x0) : f_Ar_fill M x0 x1 i = M i := by
  unfold f_Ar_fill
  simp only [cs_bd_eq]
  exact fr_Ar_fill_L5 h
theorem fr_Ma_restart_L10 {fuel : Nat} : ∀ {M : cs_Mem} {j : Nat} {y1 : Int32} {i : Nat} (_ : i ≠ j + 1), f_Ma_restart_L10 fuel M j y1 i = M i := by
  induction fuel with
  | zero => intros; rfl
  | succ n ih =>
    intro M j y1 i h
    rw [f_Ma_restart_L10]
    split
    · rfl
    · simp only [cs_bd_eq]
      rw [ih h, cs_up_ne _ _ h]
theorem fr_Ma_restart {M : cs_Mem} {j i : Nat} (h : i ≠ j + 1) : f_Ma_restart M j i = M i := by
  unfold f_Ma_restart
  simp only [cs_bd_eq]
  rw [fr_Ma_restart_L10 h, fr_Ar_fill h]
theorem fr_Ma_dropTop {M : cs_Mem} {j i : Nat} {x1 x2 : Int32} (h : i ≠ j + 1) : f_Ma_dropTop M j x1 x2 i = M i := by
  unfold f_Ma_dropTop
  simp only [cs_bd_eq]
  repeat' split
  all_goals simp [cs_up, h]
theorem fr_Ma_write {M : cs_Mem} {j i : Nat} {x1 : Int32} (h : i ≠ j + 1) (h2 : i ≠ j + 2) : f_Ma_write M j x1 i = M i := by
  unfold f_Ma_write
  simp only [cs_bd_eq]
  repeat' split
  all_goals simp [cs_up, h, h2]
theorem fr_Ma_come {M : cs_Mem} {j i : Nat} {x1 x2 : Int32} (h : i ≠ j + 1) (h2 : i ≠ j + 2) : f_Ma_come M j x1 x2 i = M i := by
  unfold f_Ma_come
  simp only [cs_bd_eq]
  repeat' split
  all_goals simp [cs_up, h, fr_Ma_write h h2]
theorem fr_Ma_failTop {M : cs_Mem} {j i : Nat} {x1 : Int32} (h : i ≠ j + 1) (h2 : i ≠ j + 2) : f_Ma_failTop M j x1 i = M i := by
  unfold f_Ma_failTop
  simp only [cs_bd_eq]
  rw [fr_Ma_come h h2, fr_Ma_dropTop h, cs_up_ne _ _ h]
theorem fr_Ma_makeUse {M : cs_Mem} {j i : Nat} {x1 : Int32} (h : i ≠ j + 1) : f_Ma_makeUse M j x1 i = M i := by
  unfold f_Ma_makeUse
  simp only [cs_bd_eq]
  repeat' split
  all_goals simp [cs_up, h]
theorem fr_Ma_finishTop {M : cs_Mem} {j i : Nat} {x1 : Int32} (h : i ≠ j + 1) : f_Ma_finishTop M j x1 i = M i := by
  unfold f_Ma_finishTop
  simp only [cs_bd_eq]
  simp [fr_Ma_dropTop h, fr_Ma_makeUse h]
theorem fr_Ma_begin {M : cs_Mem} {j i : Nat} {x1 x2 : Int32} (h : i ≠ j + 1) : f_Ma_begin M j x1 x2 i = M i := by
  unfold f_Ma_begin
  simp only [cs_bd_eq]
  simp [cs_up, h]
theorem fr_Ma_use {M : cs_Mem} {j i : Nat} {x1 x2 : Int32} (h : i ≠ j + 1) (h2 : i ≠ j + 2) : f_Ma_use M j x1 x2 i = M i := by
  unfold f_Ma_use
  simp only [cs_bd_eq]
  repeat' split
  all_goals first | rw [fr_Ma_come h h2] | rw [fr_Ma_makeUse h] | rw [fr_Ma_begin h]
theorem fr_Ma_perform {M : cs_Mem} {j i : Nat} {x1 : Int32} (h : i ≠ j + 1) (h2 : i ≠ j + 2) : f_Ma_perform M j x1 i = M i := by
  unfold f_Ma_perform
  simp only [cs_bd_eq]
  repeat' split
  all_goals first | rw [fr_Ma_come h h2] | rw [fr_Ma_makeUse h] | rw [cs_up_ne _ _ h, fr_Ma_write h h2] | rw [cs_up_ne _ _ h, cs_up_ne _ _ h] | rw [cs_up_ne _ _ h]
theorem fr_Ma_advance {M : cs_Mem} {j i : Nat} {x1 : Int32} (h : i ≠ j + 1) (h2 : i ≠ j + 2) : f_Ma_advance M j x1 i = M i := by
  unfold f_Ma_advance
  simp only [cs_bd_eq]
  repeat' split
  all_goals first | rw [fr_Ma_failTop h h2, cs_up_ne _ _ h] | rw [fr_Ma_finishTop h, cs_up_ne _ _ h] | rw [fr_Ma_use h h2, cs_up_ne _ _ h] | rw [fr_Ma_perform h h2, cs_up_ne _ _ h]
theorem fr_Ma_keepIn {M : cs_Mem} {j i x1 : Nat} {x2 : Int32} (h : i ≠ x1) : f_Ma_keepIn M j x1 x2 i = M i := by
  unfold f_Ma_keepIn
  simp only [cs_bd_eq]
  simp [cs_up, h]
theorem fr_Ma_bringBack {M : cs_Mem} {j i x1 : Nat} {x2 : Int32} (h : i ≠ j + 1) : f_Ma_bringBack M j x1 x2 i = M i := by
  unfold f_Ma_bringBack
  simp only [cs_bd_eq]
  simp [cs_up, h]
theorem fr_Ex_forget {M : cs_Mem} {j i : Nat} (h : i ≠ j) : f_Ex_forget M j i = M i := by
  unfold f_Ex_forget
  simp only [cs_bd_eq]
  simp [cs_up, h]
theorem fr_Ex_dropAll {M : cs_Mem} {j i : Nat} (h : i ≠ j) : f_Ex_dropAll M j i = M i := by
  unfold f_Ex_dropAll
  simp only [cs_bd_eq]
  simp [cs_up, h]
theorem fr_Ex_begin {M : cs_Mem} {j i : Nat} (h : i ≠ j) (h2 : i ≠ 57) (h3 : i ≠ 60) : f_Ex_begin M j i = M i := by
  unfold f_Ex_begin
  simp only [cs_bd_eq]
  simp [cs_up, h, h3, fr_Ma_restart (j := 56) h2, fr_Ex_dropAll h]
theorem fr_Ex_goDown {M : cs_Mem} {j i : Nat} {x1 : Int32} (h : i ≠ j) (h2 : i ≠ 59) (h3 : i ≠ 60) : f_Ex_goDown M j x1 i = M i := by
  unfold f_Ex_goDown f_Ex_goDown_J30
  simp only [cs_bd_eq]
  repeat' split
  all_goals simp [cs_up, h, h3, fr_Ma_keepIn h2]
theorem fr_Ex_goUp {M : cs_Mem} {j i : Nat} (h : i ≠ j) (h2 : i ≠ 57) : f_Ex_goUp M j i = M i := by
  unfold f_Ex_goUp
  simp only [cs_bd_eq]
  repeat' split
  all_goals simp [cs_up, h, fr_Ma_bringBack (j := 56) h2]
theorem fr_Ex_finish {M : cs_Mem} {j i : Nat} (h : i ≠ j) : f_Ex_finish M j i = M i := by
  unfold f_Ex_finish
  simp only [cs_bd_eq]
  repeat' split
  all_goals simp [cs_up, h, fr_Ex_dropAll h]
