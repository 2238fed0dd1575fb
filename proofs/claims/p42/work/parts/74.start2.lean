-- 74.pstart.lean.txt
/-! the start: both objects made (printed by a program) -/
def ln0 : Nat → Nat := fun _ => 0
def S00 : HC := (fun _ _ => 0, fun _ _ => none, fun _ _ => 0)
theorem na_y {N ci B m N' : Nat} {n : Int32} {ln : Nat → Nat} {S : HC} {K : Nat → (Nat → Nat) → HC → Prop} (hN : N + 1 = N') (hm : n.toNatClampNeg = m) (h1 : kd N = ci) (h2 : ¬ n < 0 ∧ n.toNatClampNeg ≤ B) (h : K N' (va_up ln N m) (nw S N)) : na_ N ci n B ln S K := by
  subst hN; subst hm; exact ⟨h1, h2, h⟩
theorem nw_y {N ci N' : Nat} {ln : Nat → Nat} {S : HC} {K : Nat → (Nat → Nat) → HC → Prop} (hN : N + 1 = N') (h1 : kd N = ci) (h : K N' ln (nw S N)) : nw_ N ci ln S K := by
  subst hN; exact ⟨h1, h⟩
theorem lt_q {α : Type} {v : α} {K : α → Prop} (h : K v) : lt_ v K := h
theorem as_z {n j : Nat} {i : Int32} {f : Nat → HC} {K : HC → Prop} (hi : i.toNatClampNeg = j) (h1 : ¬ (i < 0 ∨ n ≤ i.toNatClampNeg)) (h : K (f j)) : as_ n i f K := by
  subst hi; exact ⟨h1, h⟩
def Lk0 : Nat → Nat := va_up (va_up (va_up (va_up (va_up (va_up (va_up (ln0) 2 14) 3 14) 4 14) 5 14) 6 14) 7 14) 8 14
def Tk0 : HC := sI (sR (nw (sI (sI (sI (sI (sR (nw (sR (nw (sR (nw (sR (nw (sR (nw (sR (nw (nw (nw S00 0) 1) 2) 1 0 (some 2)) 3) 1 1 (some 3)) 4) 1 2 (some 4)) 5) 1 3 (some 5)) 6) 1 4 (some 6)) 7) 1 5 (some 7)) 1 6 (0 : Int32)) 1 7 (30 : Int32)) 1 8 (0 : Int32)) 1 9 (1 : Int32)) 8) 1 10 (some 8)) 1 11 (0 : Int32)
theorem st_0 {post : Nat → (Nat → Nat) → HC → Prop} (h : post 9 Lk0 Tk0) : wpX0_init 2 (ln0) (nw (nw S00 0) 1) 1 post := by
  unfold wpX0_init
  refine na_y (N' := 3) (m := 14) rfl (by decide) (by decide +kernel) (by decide) ?_
  refine lt_q ?_
  refine na_y (N' := 4) (m := 14) rfl (by decide) (by decide +kernel) (by decide) ?_
  refine lt_q ?_
  refine na_y (N' := 5) (m := 14) rfl (by decide) (by decide +kernel) (by decide) ?_
  refine lt_q ?_
  refine na_y (N' := 6) (m := 14) rfl (by decide) (by decide +kernel) (by decide) ?_
  refine lt_q ?_
  refine na_y (N' := 7) (m := 14) rfl (by decide) (by decide +kernel) (by decide) ?_
  refine lt_q ?_
  refine na_y (N' := 8) (m := 14) rfl (by decide) (by decide +kernel) (by decide) ?_
  refine lt_q ?_
  refine lt_q ?_
  refine lt_q ?_
  refine lt_q ?_
  refine lt_q ?_
  refine na_y (N' := 9) (m := 14) rfl (by decide) (by decide +kernel) (by decide) ?_
  refine lt_q ?_
  refine lt_q ?_
  exact h
def Lk1 : Nat → Nat := va_up (va_up (va_up (va_up (va_up (va_up (va_up (Lk0) 10 14) 11 14) 12 14) 13 14) 14 14) 15 14) 16 14
def Tk1 : HC := sI (sR (nw (sI (sI (sI (sI (sR (nw (sR (nw (sR (nw (sR (nw (sR (nw (sR (nw (nw (sR (Tk0) 0 0 (some 1)) 9) 10) 9 0 (some 10)) 11) 9 1 (some 11)) 12) 9 2 (some 12)) 13) 9 3 (some 13)) 14) 9 4 (some 14)) 15) 9 5 (some 15)) 9 6 (0 : Int32)) 9 7 (30 : Int32)) 9 8 (0 : Int32)) 9 9 (1 : Int32)) 16) 9 10 (some 16)) 9 11 (0 : Int32)
theorem st_1 {post : Nat → (Nat → Nat) → HC → Prop} (h : post 17 Lk1 Tk1) : wpX0_init 10 (Lk0) (nw (sR (Tk0) 0 0 (some 1)) 9) 9 post := by
  unfold wpX0_init
  refine na_y (N' := 11) (m := 14) rfl (by decide) (by decide +kernel) (by decide) ?_
  refine lt_q ?_
  refine na_y (N' := 12) (m := 14) rfl (by decide) (by decide +kernel) (by decide) ?_
  refine lt_q ?_
  refine na_y (N' := 13) (m := 14) rfl (by decide) (by decide +kernel) (by decide) ?_
  refine lt_q ?_
  refine na_y (N' := 14) (m := 14) rfl (by decide) (by decide +kernel) (by decide) ?_
  refine lt_q ?_
  refine na_y (N' := 15) (m := 14) rfl (by decide) (by decide +kernel) (by decide) ?_
  refine lt_q ?_
  refine na_y (N' := 16) (m := 14) rfl (by decide) (by decide +kernel) (by decide) ?_
  refine lt_q ?_
  refine lt_q ?_
  refine lt_q ?_
  refine lt_q ?_
  refine lt_q ?_
  refine na_y (N' := 17) (m := 14) rfl (by decide) (by decide +kernel) (by decide) ?_
  refine lt_q ?_
  refine lt_q ?_
  exact h
def Lk2 : Nat → Nat := va_up (va_up (va_up (va_up (va_up (va_up (va_up (Lk1) 18 14) 19 14) 20 14) 21 14) 22 14) 23 14) 24 14
def Tk2 : HC := sI (sR (nw (sI (sI (sI (sI (sR (nw (sR (nw (sR (nw (sR (nw (sR (nw (sR (nw (nw (sI (sR (Tk1) 0 1 (some 9)) 0 2 (0 : Int32)) 17) 18) 17 0 (some 18)) 19) 17 1 (some 19)) 20) 17 2 (some 20)) 21) 17 3 (some 21)) 22) 17 4 (some 22)) 23) 17 5 (some 23)) 17 6 (0 : Int32)) 17 7 (30 : Int32)) 17 8 (0 : Int32)) 17 9 (1 : Int32)) 24) 17 10 (some 24)) 17 11 (0 : Int32)
theorem st_2 {post : Nat → (Nat → Nat) → HC → Prop} (h : post 25 Lk2 Tk2) : wpX0_init 18 (Lk1) (nw (sI (sR (Tk1) 0 1 (some 9)) 0 2 (0 : Int32)) 17) 17 post := by
  unfold wpX0_init
  refine na_y (N' := 19) (m := 14) rfl (by decide) (by decide +kernel) (by decide) ?_
  refine lt_q ?_
  refine na_y (N' := 20) (m := 14) rfl (by decide) (by decide +kernel) (by decide) ?_
  refine lt_q ?_
  refine na_y (N' := 21) (m := 14) rfl (by decide) (by decide +kernel) (by decide) ?_
  refine lt_q ?_
  refine na_y (N' := 22) (m := 14) rfl (by decide) (by decide +kernel) (by decide) ?_
  refine lt_q ?_
  refine na_y (N' := 23) (m := 14) rfl (by decide) (by decide +kernel) (by decide) ?_
  refine lt_q ?_
  refine na_y (N' := 24) (m := 14) rfl (by decide) (by decide +kernel) (by decide) ?_
  refine lt_q ?_
  refine lt_q ?_
  refine lt_q ?_
  refine lt_q ?_
  refine lt_q ?_
  refine na_y (N' := 25) (m := 14) rfl (by decide) (by decide +kernel) (by decide) ?_
  refine lt_q ?_
  refine lt_q ?_
  exact h
def Lk3 : Nat → Nat := va_up (va_up (va_up (va_up (va_up (va_up (va_up (va_up (va_up (va_up (Lk2) 26 112) 27 14) 28 96) 30 14) 31 14) 32 14) 33 14) 34 14) 35 14) 36 14
def Tk3 : HC := sI (sR (nw (sI (sI (sI (sI (sR (nw (sR (nw (sR (nw (sR (nw (sR (nw (sR (nw (nw (sR (nw (sR (nw (sR (nw (nw (sR (Tk2) 0 3 (some 17)) 25) 26) 25 0 (some 26)) 27) 25 1 (some 27)) 28) 25 2 (some 28)) 29) 30) 29 0 (some 30)) 31) 29 1 (some 31)) 32) 29 2 (some 32)) 33) 29 3 (some 33)) 34) 29 4 (some 34)) 35) 29 5 (some 35)) 29 6 (0 : Int32)) 29 7 (30 : Int32)) 29 8 (0 : Int32)) 29 9 (1 : Int32)) 36) 29 10 (some 36)) 29 11 (0 : Int32)
theorem st_3 {post : Nat → (Nat → Nat) → HC → Prop} (h : post 37 Lk3 Tk3) : wpX0_init 30 (va_up (va_up (va_up (Lk2) 26 112) 27 14) 28 96) (nw (sR (nw (sR (nw (sR (nw (nw (sR (Tk2) 0 3 (some 17)) 25) 26) 25 0 (some 26)) 27) 25 1 (some 27)) 28) 25 2 (some 28)) 29) 29 post := by
  unfold wpX0_init
  refine na_y (N' := 31) (m := 14) rfl (by decide) (by decide +kernel) (by decide) ?_
  refine lt_q ?_
  refine na_y (N' := 32) (m := 14) rfl (by decide) (by decide +kernel) (by decide) ?_
  refine lt_q ?_
  refine na_y (N' := 33) (m := 14) rfl (by decide) (by decide +kernel) (by decide) ?_
  refine lt_q ?_
  refine na_y (N' := 34) (m := 14) rfl (by decide) (by decide +kernel) (by decide) ?_
  refine lt_q ?_
  refine na_y (N' := 35) (m := 14) rfl (by decide) (by decide +kernel) (by decide) ?_
  refine lt_q ?_
  refine na_y (N' := 36) (m := 14) rfl (by decide) (by decide +kernel) (by decide) ?_
  refine lt_q ?_
  refine lt_q ?_
  refine lt_q ?_
  refine lt_q ?_
  refine lt_q ?_
  refine na_y (N' := 37) (m := 14) rfl (by decide) (by decide +kernel) (by decide) ?_
  refine lt_q ?_
  refine lt_q ?_
  exact h
def Lk4 : Nat → Nat := Lk3
def Tk4 : HC := sI (sR (sR (Tk3) 25 3 (some 29)) 25 4 none) 25 5 (0 : Int32)
theorem st_4 {post : Nat → (Nat → Nat) → HC → Prop} (h : post 37 Lk4 Tk4) : wpX4_init 26 (Lk2) (nw (sR (Tk2) 0 3 (some 17)) 25) 25 post := by
  unfold wpX4_init
  refine na_y (N' := 27) (m := 112) rfl (by decide) (by decide +kernel) (by decide) ?_
  refine lt_q ?_
  refine na_y (N' := 28) (m := 14) rfl (by decide) (by decide +kernel) (by decide) ?_
  refine lt_q ?_
  refine na_y (N' := 29) (m := 96) rfl (by decide) (by decide +kernel) (by decide) ?_
  refine lt_q ?_
  refine nw_y (N' := 30) rfl (by decide +kernel) ?_
  refine st_3 ?_
  refine lt_q ?_
  refine lt_q ?_
  refine lt_q ?_
  exact h
def Lk5 : Nat → Nat := va_up (Lk4) 39 96
def Tk5 : HC := sI (sR (nw (nw (nw (sR (Tk4) 0 4 (some 25)) 37) 38) 39) 38 0 (some 39)) 38 1 (0 : Int32)
theorem st_5 {post : Nat → (Nat → Nat) → HC → Prop} (h : post 40 Lk5 Tk5) : wpX6_init 39 (Lk4) (nw (nw (sR (Tk4) 0 4 (some 25)) 37) 38) 38 post := by
  unfold wpX6_init
  refine na_y (N' := 40) (m := 96) rfl (by decide) (by decide +kernel) (by decide) ?_
  refine lt_q ?_
  refine lt_q ?_
  exact h
def Lk6 : Nat → Nat := va_up (Lk5) 40 96
def Tk6 : HC := sI (sI (sI (sI (sI (sR (nw (sI (sI (sI (sI (sR (Tk5) 37 0 (some 38)) 37 1 (0 : Int32)) 37 2 (0 : Int32)) 37 3 (0 : Int32)) 37 4 (-1 : Int32)) 40) 37 5 (some 40)) 37 6 (0 : Int32)) 37 7 (0 : Int32)) 37 8 (0 : Int32)) 37 9 (0 : Int32)) 37 10 (-1 : Int32)
theorem st_6 {post : Nat → (Nat → Nat) → HC → Prop} (h : post 41 Lk6 Tk6) : wpX2_init 38 (Lk4) (nw (sR (Tk4) 0 4 (some 25)) 37) 37 post := by
  unfold wpX2_init
  refine nw_y (N' := 39) rfl (by decide +kernel) ?_
  refine st_5 ?_
  refine lt_q ?_
  refine lt_q ?_
  refine lt_q ?_
  refine lt_q ?_
  refine lt_q ?_
  refine na_y (N' := 41) (m := 96) rfl (by decide) (by decide +kernel) (by decide) ?_
  refine lt_q ?_
  refine lt_q ?_
  refine lt_q ?_
  refine lt_q ?_
  refine lt_q ?_
  refine lt_q ?_
  exact h
def Lk7 : Nat → Nat := va_up (va_up (va_up (va_up (va_up (Lk6) 41 4) 42 5) 43 60) 44 96) 46 24
def Tk7 : HC := sR (nw (sI (sI (nw (sR (nw (sI (sR (nw (sR (nw (sR (nw (sR (Tk6) 0 5 (some 37)) 41) 0 6 (some 41)) 42) 0 7 (some 42)) 43) 0 8 (some 43)) 0 9 (0 : Int32)) 44) 0 10 (some 44)) 45) 45 0 (-1 : Int32)) 45 1 (0 : Int32)) 46) 45 2 (some 46)
theorem st_7 {post : Nat → (Nat → Nat) → HC → Prop} (h : post 47 Lk7 Tk7) : wpX3_init 46 (va_up (va_up (va_up (va_up (Lk6) 41 4) 42 5) 43 60) 44 96) (nw (sR (nw (sI (sR (nw (sR (nw (sR (nw (sR (Tk6) 0 5 (some 37)) 41) 0 6 (some 41)) 42) 0 7 (some 42)) 43) 0 8 (some 43)) 0 9 (0 : Int32)) 44) 0 10 (some 44)) 45) 45 post := by
  unfold wpX3_init
  refine lt_q ?_
  refine lt_q ?_
  refine na_y (N' := 47) (m := 24) rfl (by decide) (by decide +kernel) (by decide) ?_
  refine lt_q ?_
  exact h
def Lk8 : Nat → Nat := va_up (Lk7) 48 24
def Tk8 : HC := sR (nw (sI (sI (nw (sR (Tk7) 41 0 (some 45)) 47) 47 0 (-1 : Int32)) 47 1 (0 : Int32)) 48) 47 2 (some 48)
theorem st_8 {post : Nat → (Nat → Nat) → HC → Prop} (h : post 49 Lk8 Tk8) : wpX3_init 48 (Lk7) (nw (sR (Tk7) 41 0 (some 45)) 47) 47 post := by
  unfold wpX3_init
  refine lt_q ?_
  refine lt_q ?_
  refine na_y (N' := 49) (m := 24) rfl (by decide) (by decide +kernel) (by decide) ?_
  refine lt_q ?_
  exact h
def Lk9 : Nat → Nat := va_up (Lk8) 50 24
def Tk9 : HC := sR (nw (sI (sI (nw (sR (Tk8) 41 1 (some 47)) 49) 49 0 (-1 : Int32)) 49 1 (0 : Int32)) 50) 49 2 (some 50)
theorem st_9 {post : Nat → (Nat → Nat) → HC → Prop} (h : post 51 Lk9 Tk9) : wpX3_init 50 (Lk8) (nw (sR (Tk8) 41 1 (some 47)) 49) 49 post := by
  unfold wpX3_init
  refine lt_q ?_
  refine lt_q ?_
  refine na_y (N' := 51) (m := 24) rfl (by decide) (by decide +kernel) (by decide) ?_
  refine lt_q ?_
  exact h
def Lk10 : Nat → Nat := va_up (Lk9) 52 24
def Tk10 : HC := sR (nw (sI (sI (nw (sR (Tk9) 41 2 (some 49)) 51) 51 0 (-1 : Int32)) 51 1 (0 : Int32)) 52) 51 2 (some 52)
theorem st_10 {post : Nat → (Nat → Nat) → HC → Prop} (h : post 53 Lk10 Tk10) : wpX3_init 52 (Lk9) (nw (sR (Tk9) 41 2 (some 49)) 51) 51 post := by
  unfold wpX3_init
  refine lt_q ?_
  refine lt_q ?_
  refine na_y (N' := 53) (m := 24) rfl (by decide) (by decide +kernel) (by decide) ?_
  refine lt_q ?_
  exact h
def Lk11 : Nat → Nat := va_up (Lk10) 55 24
def Tk11 : HC := sR (nw (sI (sI (nw (sI (sI (sI (sI (nw (sR (Tk10) 41 3 (some 51)) 53) 53 0 (0 : Int32)) 53 1 (0 : Int32)) 53 2 (0 : Int32)) 53 3 (0 : Int32)) 54) 54 0 (-1 : Int32)) 54 1 (0 : Int32)) 55) 54 2 (some 55)
theorem st_11 {post : Nat → (Nat → Nat) → HC → Prop} (h : post 56 Lk11 Tk11) : wpX3_init 55 (Lk10) (nw (sI (sI (sI (sI (nw (sR (Tk10) 41 3 (some 51)) 53) 53 0 (0 : Int32)) 53 1 (0 : Int32)) 53 2 (0 : Int32)) 53 3 (0 : Int32)) 54) 54 post := by
  unfold wpX3_init
  refine lt_q ?_
  refine lt_q ?_
  refine na_y (N' := 56) (m := 24) rfl (by decide) (by decide +kernel) (by decide) ?_
  refine lt_q ?_
  exact h
def Lk12 : Nat → Nat := Lk11
def Tk12 : HC := sR (Tk11) 53 4 (some 54)
theorem st_12 {post : Nat → (Nat → Nat) → HC → Prop} (h : post 56 Lk12 Tk12) : wpX5_init 54 (Lk10) (nw (sR (Tk10) 41 3 (some 51)) 53) 53 post := by
  unfold wpX5_init
  refine lt_q ?_
  refine lt_q ?_
  refine lt_q ?_
  refine lt_q ?_
  refine nw_y (N' := 55) rfl (by decide +kernel) ?_
  refine st_11 ?_
  refine lt_q ?_
  exact h
def Lk13 : Nat → Nat := va_up (Lk12) 58 24
def Tk13 : HC := sR (nw (sI (sI (nw (sI (sI (sI (sI (nw (sR (Tk12) 42 0 (some 53)) 56) 56 0 (0 : Int32)) 56 1 (0 : Int32)) 56 2 (0 : Int32)) 56 3 (0 : Int32)) 57) 57 0 (-1 : Int32)) 57 1 (0 : Int32)) 58) 57 2 (some 58)
theorem st_13 {post : Nat → (Nat → Nat) → HC → Prop} (h : post 59 Lk13 Tk13) : wpX3_init 58 (Lk12) (nw (sI (sI (sI (sI (nw (sR (Tk12) 42 0 (some 53)) 56) 56 0 (0 : Int32)) 56 1 (0 : Int32)) 56 2 (0 : Int32)) 56 3 (0 : Int32)) 57) 57 post := by
  unfold wpX3_init
  refine lt_q ?_
  refine lt_q ?_
  refine na_y (N' := 59) (m := 24) rfl (by decide) (by decide +kernel) (by decide) ?_
  refine lt_q ?_
  exact h
def Lk14 : Nat → Nat := Lk13
def Tk14 : HC := sR (Tk13) 56 4 (some 57)
theorem st_14 {post : Nat → (Nat → Nat) → HC → Prop} (h : post 59 Lk14 Tk14) : wpX5_init 57 (Lk12) (nw (sR (Tk12) 42 0 (some 53)) 56) 56 post := by
  unfold wpX5_init
  refine lt_q ?_
  refine lt_q ?_
  refine lt_q ?_
  refine lt_q ?_
  refine nw_y (N' := 58) rfl (by decide +kernel) ?_
  refine st_13 ?_
  refine lt_q ?_
  exact h
def Lk15 : Nat → Nat := va_up (Lk14) 61 24
def Tk15 : HC := sR (nw (sI (sI (nw (sI (sI (sI (sI (nw (sR (Tk14) 42 1 (some 56)) 59) 59 0 (0 : Int32)) 59 1 (0 : Int32)) 59 2 (0 : Int32)) 59 3 (0 : Int32)) 60) 60 0 (-1 : Int32)) 60 1 (0 : Int32)) 61) 60 2 (some 61)
theorem st_15 {post : Nat → (Nat → Nat) → HC → Prop} (h : post 62 Lk15 Tk15) : wpX3_init 61 (Lk14) (nw (sI (sI (sI (sI (nw (sR (Tk14) 42 1 (some 56)) 59) 59 0 (0 : Int32)) 59 1 (0 : Int32)) 59 2 (0 : Int32)) 59 3 (0 : Int32)) 60) 60 post := by
  unfold wpX3_init
  refine lt_q ?_
  refine lt_q ?_
  refine na_y (N' := 62) (m := 24) rfl (by decide) (by decide +kernel) (by decide) ?_
  refine lt_q ?_
  exact h
def Lk16 : Nat → Nat := Lk15
def Tk16 : HC := sR (Tk15) 59 4 (some 60)
theorem st_16 {post : Nat → (Nat → Nat) → HC → Prop} (h : post 62 Lk16 Tk16) : wpX5_init 60 (Lk14) (nw (sR (Tk14) 42 1 (some 56)) 59) 59 post := by
  unfold wpX5_init
  refine lt_q ?_
  refine lt_q ?_
  refine lt_q ?_
  refine lt_q ?_
  refine nw_y (N' := 61) rfl (by decide +kernel) ?_
  refine st_15 ?_
  refine lt_q ?_
  exact h
def Lk17 : Nat → Nat := va_up (Lk16) 64 24
def Tk17 : HC := sR (nw (sI (sI (nw (sI (sI (sI (sI (nw (sR (Tk16) 42 2 (some 59)) 62) 62 0 (0 : Int32)) 62 1 (0 : Int32)) 62 2 (0 : Int32)) 62 3 (0 : Int32)) 63) 63 0 (-1 : Int32)) 63 1 (0 : Int32)) 64) 63 2 (some 64)
theorem st_17 {post : Nat → (Nat → Nat) → HC → Prop} (h : post 65 Lk17 Tk17) : wpX3_init 64 (Lk16) (nw (sI (sI (sI (sI (nw (sR (Tk16) 42 2 (some 59)) 62) 62 0 (0 : Int32)) 62 1 (0 : Int32)) 62 2 (0 : Int32)) 62 3 (0 : Int32)) 63) 63 post := by
  unfold wpX3_init
  refine lt_q ?_
  refine lt_q ?_
  refine na_y (N' := 65) (m := 24) rfl (by decide) (by decide +kernel) (by decide) ?_
  refine lt_q ?_
  exact h
def Lk18 : Nat → Nat := Lk17
def Tk18 : HC := sR (Tk17) 62 4 (some 63)
theorem st_18 {post : Nat → (Nat → Nat) → HC → Prop} (h : post 65 Lk18 Tk18) : wpX5_init 63 (Lk16) (nw (sR (Tk16) 42 2 (some 59)) 62) 62 post := by
  unfold wpX5_init
  refine lt_q ?_
  refine lt_q ?_
  refine lt_q ?_
  refine lt_q ?_
  refine nw_y (N' := 64) rfl (by decide +kernel) ?_
  refine st_17 ?_
  refine lt_q ?_
  exact h
def Lk19 : Nat → Nat := va_up (Lk18) 67 24
def Tk19 : HC := sR (nw (sI (sI (nw (sI (sI (sI (sI (nw (sR (Tk18) 42 3 (some 62)) 65) 65 0 (0 : Int32)) 65 1 (0 : Int32)) 65 2 (0 : Int32)) 65 3 (0 : Int32)) 66) 66 0 (-1 : Int32)) 66 1 (0 : Int32)) 67) 66 2 (some 67)
theorem st_19 {post : Nat → (Nat → Nat) → HC → Prop} (h : post 68 Lk19 Tk19) : wpX3_init 67 (Lk18) (nw (sI (sI (sI (sI (nw (sR (Tk18) 42 3 (some 62)) 65) 65 0 (0 : Int32)) 65 1 (0 : Int32)) 65 2 (0 : Int32)) 65 3 (0 : Int32)) 66) 66 post := by
  unfold wpX3_init
  refine lt_q ?_
  refine lt_q ?_
  refine na_y (N' := 68) (m := 24) rfl (by decide) (by decide +kernel) (by decide) ?_
  refine lt_q ?_
  exact h
def Lk20 : Nat → Nat := Lk19
def Tk20 : HC := sR (Tk19) 65 4 (some 66)
theorem st_20 {post : Nat → (Nat → Nat) → HC → Prop} (h : post 68 Lk20 Tk20) : wpX5_init 66 (Lk18) (nw (sR (Tk18) 42 3 (some 62)) 65) 65 post := by
  unfold wpX5_init
  refine lt_q ?_
  refine lt_q ?_
  refine lt_q ?_
  refine lt_q ?_
  refine nw_y (N' := 67) rfl (by decide +kernel) ?_
  refine st_19 ?_
  refine lt_q ?_
  exact h
def LkF : Nat → Nat := va_up (va_up (va_up (va_up (va_up (va_up (va_up (va_up (va_up (va_up (va_up (va_up (va_up (va_up (va_up (va_up (va_up (va_up (va_up (va_up (va_up (va_up (Lk20) 69 1461) 70 1461) 71 1461) 72 112) 73 89) 74 96) 75 11) 76 4) 77 96) 78 96) 79 10) 80 96) 81 4) 82 4) 83 4) 84 96) 85 5) 86 5) 87 5) 88 120) 89 24) 90 60
def TkF : HC := sI (sI (sR (nw (sR (nw (sR (nw (sR (nw (sR (nw (sR (nw (sR (nw (sR (nw (sR (sI (sI (sI (sI (nw (sR (nw (sR (nw (sR (nw (sR (nw (sR (nw (sR (sI (sI (sI (sI (nw (sR (sI (sI (sI (sI (sI (sI (sI (sI (sI (sI (sI (nw (sR (nw (sR (nw (sR (nw (sR (nw (sR (nw (sR (nw (nw (sR (Tk20) 42 4 (some 65)) 68) 69) 68 0 (some 69)) 70) 68 1 (some 70)) 71) 68 2 (some 71)) 72) 68 4 (some 72)) 73) 68 5 (some 73)) 74) 68 6 (some 74)) 75) 75 0 (vp_nar .char (106 : Int32))) 75 1 (vp_nar .char (111 : Int32))) 75 2 (vp_nar .char (105 : Int32))) 75 3 (vp_nar .char (110 : Int32))) 75 4 (vp_nar .char (102 : Int32))) 75 5 (vp_nar .char (101 : Int32))) 75 6 (vp_nar .char (101 : Int32))) 75 7 (vp_nar .char (102 : Int32))) 75 8 (vp_nar .char (105 : Int32))) 75 9 (vp_nar .char (110 : Int32))) 75 10 (vp_nar .char (101 : Int32))) 68 14 (some 75)) 76) 76 0 (0 : Int32)) 76 1 (4 : Int32)) 76 2 (7 : Int32)) 76 3 (11 : Int32)) 68 15 (some 76)) 77) 68 16 (some 77)) 78) 68 19 (some 78)) 79) 68 21 (some 79)) 80) 68 22 (some 80)) 81) 68 23 (some 81)) 82) 82 0 (-1 : Int32)) 82 1 (-1 : Int32)) 82 2 (-1 : Int32)) 82 3 (-1 : Int32)) 68 24 (some 82)) 83) 68 25 (some 83)) 84) 68 26 (some 84)) 85) 68 27 (some 85)) 86) 68 28 (some 86)) 87) 68 29 (some 87)) 88) 68 30 (some 88)) 89) 68 31 (some 89)) 90) 68 32 (some 90)) 69 0 (1 : Int32)) 69 3 (30 : Int32)
theorem start1 {Q : Nat → (Nat → Nat) → HC → Nat → Prop} (h : Q 91 LkF TkF 68) : nw_ 0 7 ln0 S00 fun N361 ln S => wpX7_init N361 ln S 0 fun N362 ln S => nw_ N362 8 ln S fun N363 ln S => wpX8_init N363 ln S N362 fun N364 ln S => Q N364 ln S N362 := by
  refine nw_y (N' := 1) rfl (by decide +kernel) ?_
  unfold wpX7_init
  refine nw_y (N' := 2) rfl (by decide +kernel) ?_
  refine st_0 ?_
  refine lt_q ?_
  refine nw_y (N' := 10) rfl (by decide +kernel) ?_
  refine st_1 ?_
  refine lt_q ?_
  refine lt_q ?_
  refine nw_y (N' := 18) rfl (by decide +kernel) ?_
  refine st_2 ?_
  refine lt_q ?_
  refine nw_y (N' := 26) rfl (by decide +kernel) ?_
  refine st_4 ?_
  refine lt_q ?_
  refine nw_y (N' := 38) rfl (by decide +kernel) ?_
  refine st_6 ?_
  refine lt_q ?_
  refine na_y (N' := 42) (m := 4) rfl (by decide) (by decide +kernel) (by decide) ?_
  refine lt_q ?_
  refine na_y (N' := 43) (m := 5) rfl (by decide) (by decide +kernel) (by decide) ?_
  refine lt_q ?_
  refine na_y (N' := 44) (m := 60) rfl (by decide) (by decide +kernel) (by decide) ?_
  refine lt_q ?_
  refine lt_q ?_
  refine na_y (N' := 45) (m := 96) rfl (by decide) (by decide +kernel) (by decide) ?_
  refine lt_q ?_
  refine dn_x 41 (by decide +kernel) ?_
  refine nw_y (N' := 46) rfl (by decide +kernel) ?_
  refine st_7 ?_
  refine as_z (j := 0) rfl (by decide +kernel) ?_
  refine dn_x 41 (by decide +kernel) ?_
  refine nw_y (N' := 48) rfl (by decide +kernel) ?_
  refine st_8 ?_
  refine as_z (j := 1) rfl (by decide +kernel) ?_
  refine dn_x 41 (by decide +kernel) ?_
  refine nw_y (N' := 50) rfl (by decide +kernel) ?_
  refine st_9 ?_
  refine as_z (j := 2) rfl (by decide +kernel) ?_
  refine dn_x 41 (by decide +kernel) ?_
  refine nw_y (N' := 52) rfl (by decide +kernel) ?_
  refine st_10 ?_
  refine as_z (j := 3) rfl (by decide +kernel) ?_
  refine dn_x 42 (by decide +kernel) ?_
  refine nw_y (N' := 54) rfl (by decide +kernel) ?_
  refine st_12 ?_
  refine as_z (j := 0) rfl (by decide +kernel) ?_
  refine dn_x 42 (by decide +kernel) ?_
  refine nw_y (N' := 57) rfl (by decide +kernel) ?_
  refine st_14 ?_
  refine as_z (j := 1) rfl (by decide +kernel) ?_
  refine dn_x 42 (by decide +kernel) ?_
  refine nw_y (N' := 60) rfl (by decide +kernel) ?_
  refine st_16 ?_
  refine as_z (j := 2) rfl (by decide +kernel) ?_
  refine dn_x 42 (by decide +kernel) ?_
  refine nw_y (N' := 63) rfl (by decide +kernel) ?_
  refine st_18 ?_
  refine as_z (j := 3) rfl (by decide +kernel) ?_
  refine dn_x 42 (by decide +kernel) ?_
  refine nw_y (N' := 66) rfl (by decide +kernel) ?_
  refine st_20 ?_
  refine as_z (j := 4) rfl (by decide +kernel) ?_
  refine nw_y (N' := 69) rfl (by decide +kernel) ?_
  unfold wpX8_init
  refine na_y (N' := 70) (m := 1461) rfl (by decide) (by decide +kernel) (by decide) ?_
  refine lt_q ?_
  refine na_y (N' := 71) (m := 1461) rfl (by decide) (by decide +kernel) (by decide) ?_
  refine lt_q ?_
  refine na_y (N' := 72) (m := 1461) rfl (by decide) (by decide +kernel) (by decide) ?_
  refine lt_q ?_
  refine na_y (N' := 73) (m := 112) rfl (by decide) (by decide +kernel) (by decide) ?_
  refine lt_q ?_
  refine na_y (N' := 74) (m := 89) rfl (by decide) (by decide +kernel) (by decide) ?_
  refine lt_q ?_
  refine na_y (N' := 75) (m := 96) rfl (by decide) (by decide +kernel) (by decide) ?_
  refine lt_q ?_
  refine na_y (N' := 76) (m := 11) rfl (by decide) (by decide +kernel) (by decide) ?_
  refine as_z (j := 0) rfl (by decide +kernel) ?_
  refine as_z (j := 1) rfl (by decide +kernel) ?_
  refine as_z (j := 2) rfl (by decide +kernel) ?_
  refine as_z (j := 3) rfl (by decide +kernel) ?_
  refine as_z (j := 4) rfl (by decide +kernel) ?_
  refine as_z (j := 5) rfl (by decide +kernel) ?_
  refine as_z (j := 6) rfl (by decide +kernel) ?_
  refine as_z (j := 7) rfl (by decide +kernel) ?_
  refine as_z (j := 8) rfl (by decide +kernel) ?_
  refine as_z (j := 9) rfl (by decide +kernel) ?_
  refine as_z (j := 10) rfl (by decide +kernel) ?_
  refine lt_q ?_
  refine na_y (N' := 77) (m := 4) rfl (by decide) (by decide +kernel) (by decide) ?_
  refine as_z (j := 0) rfl (by decide +kernel) ?_
  refine as_z (j := 1) rfl (by decide +kernel) ?_
  refine as_z (j := 2) rfl (by decide +kernel) ?_
  refine as_z (j := 3) rfl (by decide +kernel) ?_
  refine lt_q ?_
  refine na_y (N' := 78) (m := 96) rfl (by decide) (by decide +kernel) (by decide) ?_
  refine lt_q ?_
  refine na_y (N' := 79) (m := 96) rfl (by decide) (by decide +kernel) (by decide) ?_
  refine lt_q ?_
  refine na_y (N' := 80) (m := 10) rfl (by decide) (by decide +kernel) (by decide) ?_
  refine lt_q ?_
  refine na_y (N' := 81) (m := 96) rfl (by decide) (by decide +kernel) (by decide) ?_
  refine lt_q ?_
  refine na_y (N' := 82) (m := 4) rfl (by decide) (by decide +kernel) (by decide) ?_
  refine lt_q ?_
  refine na_y (N' := 83) (m := 4) rfl (by decide) (by decide +kernel) (by decide) ?_
  refine as_z (j := 0) rfl (by decide +kernel) ?_
  refine as_z (j := 1) rfl (by decide +kernel) ?_
  refine as_z (j := 2) rfl (by decide +kernel) ?_
  refine as_z (j := 3) rfl (by decide +kernel) ?_
  refine lt_q ?_
  refine na_y (N' := 84) (m := 4) rfl (by decide) (by decide +kernel) (by decide) ?_
  refine lt_q ?_
  refine na_y (N' := 85) (m := 96) rfl (by decide) (by decide +kernel) (by decide) ?_
  refine lt_q ?_
  refine na_y (N' := 86) (m := 5) rfl (by decide) (by decide +kernel) (by decide) ?_
  refine lt_q ?_
  refine na_y (N' := 87) (m := 5) rfl (by decide) (by decide +kernel) (by decide) ?_
  refine lt_q ?_
  refine na_y (N' := 88) (m := 5) rfl (by decide) (by decide +kernel) (by decide) ?_
  refine lt_q ?_
  refine na_y (N' := 89) (m := 120) rfl (by decide) (by decide +kernel) (by decide) ?_
  refine lt_q ?_
  refine na_y (N' := 90) (m := 24) rfl (by decide) (by decide +kernel) (by decide) ?_
  refine lt_q ?_
  refine na_y (N' := 91) (m := 60) rfl (by decide) (by decide +kernel) (by decide) ?_
  refine lt_q ?_
  refine dn_x 69 (by decide +kernel) ?_
  refine as_z (j := 0) rfl (by decide +kernel) ?_
  refine dn_x 69 (by decide +kernel) ?_
  refine as_z (j := 3) rfl (by decide +kernel) ?_
  exact h
-- 75.pstart2.lean.txt
/-! the relation at the start -/
set_option maxRecDepth 100000 in
set_option maxHeartbeats 4000000 in
theorem pi_start : PI 91 LkF TkF := by
  refine ⟨⟨?_, ?_, by decide, by decide⟩, ⟨⟨0, by decide, by decide +kernel, by decide +kernel, fun k hk j hj => absurd hj (by omega), fun k j hk hj => absurd hj (by omega), ⟨by decide +kernel, 30, by decide, by decide +kernel⟩, ⟨by decide +kernel, 0, by decide, by decide +kernel⟩, by decide +kernel⟩, 0, by decide, by decide +kernel, by decide +kernel, fun t ht => absurd ht (by omega)⟩, ⟨by decide +kernel, Or.inl (by decide +kernel)⟩, ⟨0, by decide, by decide +kernel, by decide +kernel, fun j hj => absurd hj (by omega)⟩, ?_, ?_, ⟨0, by decide, by decide +kernel, by decide +kernel, fun j hj => absurd hj (by omega)⟩, ?_, ?_⟩
  · unfold SH
    decide +kernel
  · unfold LN
    decide +kernel
  · have a : ∀ i, i < 4 → (hI TkF (45 + 2 * i) 0 = hI TkF 82 i ∧ hI TkF 82 i = -1) ∧ (hI TkF (45 + 2 * i) 1 = nI 0 ∧ hI TkF 83 i = nI 0) := by decide +kernel
    have b : ∀ i, i < 4 → ∀ j, j < 24 → hI TkF (46 + 2 * i) j = hI TkF 84 (24 * i + j) ∧ hI TkF 84 (24 * i + j) = 0 := by decide +kernel
    intro i hi
    obtain ⟨⟨a1, a2⟩, a3, a4⟩ := a i hi
    refine ⟨⟨a1, Or.inl a2⟩, ⟨0, by decide, a3, a4⟩, fun j hj => ?_⟩
    obtain ⟨b1, b2⟩ := b i hi j hj
    refine ⟨b1, ?_⟩
    rw [b2]
    exact Or.inr ⟨by decide, by decide⟩
  · have a : ∀ i, i < 5 → hI TkF (53 + 3 * i) 0 = hI TkF 85 i ∧ hI TkF 85 i = 0 := by decide +kernel
    intro i hi
    obtain ⟨a1, a2⟩ := a i hi
    exact ⟨a1, Or.inl a2⟩
  · decide +kernel
  · decide +kernel
theorem sheets_start : ∀ i, i < 4 → hI TkF 82 i = -1 := by decide +kernel
theorem tape_start : hI TkF 38 1 = 0 := by decide +kernel
