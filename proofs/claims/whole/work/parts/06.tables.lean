/-! tables: a method's code, a class's fields and constants, the words of each call -/
def zfl : List (Nat × Nat × Nat × Nat × Nat) → Nat → Option (Nat × Nat × Nat)
  | [], _ => none
  | (i, ci, j, kd, _) :: r, idx => match Nat.beq i idx with
    | true => some (ci, j, kd)
    | false => zfl r idx
def zkI : List (Nat × Int32 × Nat) → Nat → Option Int32
  | [], _ => none
  | (i, v, _) :: r, idx => match Nat.beq i idx with
    | true => some v
    | false => zkI r idx
def zkJ : List (Nat × Int64 × Nat) → Nat → Option Int64
  | [], _ => none
  | (i, v, _) :: r, idx => match Nat.beq i idx with
    | true => some v
    | false => zkJ r idx
def zflE (own : String) (e : Nat × Nat × Nat × Nat × Nat) : Bool := match vwCl[e.2.1]? with
  | some r => decide (e.2.2.1 < r.2.2) && zin e.2.2.2.2 (.fieldLink own e.1 (r.2.1 e.2.2.1).1 (r.2.1 e.2.2.1).2.1 (r.2.1 e.2.2.1).2.2.1) && (match e.2.2.2.1 with
    | 0 => decide ((r.2.1 e.2.2.1).2.2.2 = false ∧ (r.2.1 e.2.2.1).2.2.1 = "I")
    | 1 => decide ((r.2.1 e.2.2.1).2.2.2 = false ∧ (r.2.1 e.2.2.1).2.2.1 = "Z")
    | _ => true)
  | none => false
theorem zfl_mem : ∀ {L : List (Nat × Nat × Nat × Nat × Nat)} {idx ci j kd : Nat}, zfl L idx = some (ci, j, kd) → ∃ h, (idx, ci, j, kd, h) ∈ L
  | [], idx, ci, j, kd, h => by simp [zfl] at h
  | (i, a, b, d, t) :: r, idx, ci, j, kd, h => by
    unfold zfl at h
    by_cases hp : Nat.beq i idx = true
    · rw [hp] at h
      cases h
      rw [Nat.eq_of_beq_eq_true hp]
      exact ⟨t, List.mem_cons_self⟩
    · rw [Bool.not_eq_true] at hp
      rw [hp] at h
      obtain ⟨t', h'⟩ := zfl_mem h
      exact ⟨t', List.mem_cons_of_mem _ h'⟩
theorem zFl_of {own : String} {L : List (Nat × Nat × Nat × Nat × Nat)} (h : L.all (zflE own) = true) : zFl own (zfl L) := by
  intro idx ci j kd hf
  obtain ⟨t, hm⟩ := zfl_mem hf
  have h1 := List.all_eq_true.mp h _ hm
  unfold zflE at h1
  dsimp only at h1
  generalize hr : vwCl[ci]? = o at h1
  match o, h1 with
  | none, h1 => exact absurd h1 (by simp)
  | some r, h1 =>
    simp only [Bool.and_eq_true, decide_eq_true_eq] at h1
    refine ⟨r, rfl, h1.1.1, zin_mem h1.1.2, fun e => ?_, fun e => ?_⟩
    · subst e; simpa using h1.2
    · subst e; simpa using h1.2
theorem zkI_mem : ∀ {L : List (Nat × Int32 × Nat)} {idx : Nat} {v : Int32}, zkI L idx = some v → ∃ h, (idx, v, h) ∈ L
  | [], idx, v, h => by simp [zkI] at h
  | (i, a, t) :: r, idx, v, h => by
    unfold zkI at h
    by_cases hp : Nat.beq i idx = true
    · rw [hp] at h
      cases h
      rw [Nat.eq_of_beq_eq_true hp]
      exact ⟨t, List.mem_cons_self⟩
    · rw [Bool.not_eq_true] at hp
      rw [hp] at h
      obtain ⟨t', h'⟩ := zkI_mem h
      exact ⟨t', List.mem_cons_of_mem _ h'⟩
theorem zkJ_mem : ∀ {L : List (Nat × Int64 × Nat)} {idx : Nat} {v : Int64}, zkJ L idx = some v → ∃ h, (idx, v, h) ∈ L
  | [], idx, v, h => by simp [zkJ] at h
  | (i, a, t) :: r, idx, v, h => by
    unfold zkJ at h
    by_cases hp : Nat.beq i idx = true
    · rw [hp] at h
      cases h
      rw [Nat.eq_of_beq_eq_true hp]
      exact ⟨t, List.mem_cons_self⟩
    · rw [Bool.not_eq_true] at hp
      rw [hp] at h
      obtain ⟨t', h'⟩ := zkJ_mem h
      exact ⟨t', List.mem_cons_of_mem _ h'⟩
theorem zTb_of {own : String} {L : List (Nat × Nat × Nat × Nat × Nat)} {LI : List (Nat × Int32 × Nat)} {LJ : List (Nat × Int64 × Nat)} (h : L.all (zflE own) = true) (hI : LI.all (fun e => zin e.2.2 (.constant own e.1 e.2.1)) = true) (hJ : LJ.all (fun e => zin e.2.2 (.constantLong own e.1 e.2.1)) = true) : zTb own (zfl L) (zkI LI) (zkJ LJ) :=
  ⟨zFl_of h, fun idx v hv => by
    obtain ⟨t, hm⟩ := zkI_mem hv
    exact zin_mem (List.all_eq_true.mp hI _ hm), fun idx v hv => by
    obtain ⟨t, hm⟩ := zkJ_mem hv
    exact zin_mem (List.all_eq_true.mp hJ _ hm)⟩
def zall : List Nat → List Jvm.Cond → Bool
  | [], [] => true
  | h :: hs, w :: ws => zin h w && zall hs ws
  | _, _ => false
theorem zall_mem : ∀ {hs : List Nat} {ws : List Jvm.Cond}, zall hs ws = true → ∀ w ∈ ws, w ∈ zG
  | [], [], _, w, hw => absurd hw List.not_mem_nil
  | h :: hs, a :: ws, e, w, hw => by
    unfold zall at e
    rw [Bool.and_eq_true] at e
    rcases List.mem_cons.mp hw with h1 | h1
    · rw [h1]; exact zin_mem e.1
    · exact zall_mem e.2 w h1
  | [], a :: ws, e, w, hw => by simp [zall] at e
  | h :: hs, [], e, w, hw => absurd hw List.not_mem_nil
theorem zwX0 : ∀ w ∈ wsX00, w ∈ zG := zall_mem (hs := [110, 112, 114, 116, 118, 120, 122, 124, 126, 128, 130, 132, 134, 136, 138, 140, 142, 144, 146]) (by decide +kernel)
theorem zwX1 : ∀ w ∈ wsX10, w ∈ zG := zall_mem (hs := [161, 163, 165]) (by decide +kernel)
theorem zwX2 : ∀ w ∈ wsX20, w ∈ zG := zall_mem (hs := [287, 289, 291, 293]) (by decide +kernel)
theorem zwX3 : ∀ w ∈ wsX30, w ∈ zG := zall_mem (hs := [176, 178, 180, 182, 184, 186, 188, 190]) (by decide +kernel)
theorem zwX4 : ∀ w ∈ wsX40, w ∈ zG := zall_mem (hs := [609, 611, 613, 615, 617, 619, 621, 623, 625, 627, 629, 631, 633, 635, 637, 639, 641, 643, 645, 647, 649, 651, 653, 655, 657, 659, 661, 663, 665, 667, 669, 671, 673, 675, 677, 679, 681, 683, 685, 687, 689, 691, 693]) (by decide +kernel)
theorem zcls : zCls := by
  intro ci r hr
  match ci, hr with
  | 0, hr => cases hr; exact ⟨zwX0, tyX0, tyX0_ok, nmX0⟩
  | 1, hr => cases hr; exact ⟨zwX1, tyX1, tyX1_ok, nmX1⟩
  | 2, hr => cases hr; exact ⟨zwX2, tyX2, tyX2_ok, nmX2⟩
  | 3, hr => cases hr; exact ⟨zwX3, tyX3, tyX3_ok, nmX3⟩
  | 4, hr => cases hr; exact ⟨zwX4, tyX4, tyX4_ok, nmX4⟩
  | k + 5, hr => simp [vwCl] at hr
def FX0 : List (Nat × Nat × Nat × Nat × Nat) := [(9, 0, 1, 2, 80), (15, 0, 2, 0, 82), (19, 0, 3, 2, 84), (24, 0, 6, 2, 89), (28, 0, 8, 2, 92), (31, 0, 9, 2, 94), (34, 0, 10, 2, 96), (37, 0, 11, 2, 98), (40, 0, 15, 2, 106), (43, 0, 16, 2, 107), (46, 0, 17, 2, 108), (49, 0, 18, 2, 109), (52, 0, 0, 0, 78), (61, 0, 4, 0, 86), (64, 0, 5, 0, 87), (67, 0, 7, 0, 90), (70, 0, 12, 0, 100), (73, 0, 13, 0, 102), (76, 0, 14, 0, 104), (121, 2, 0, 2, 282), (134, 2, 1, 2, 284)]
def IX0 : List (Nat × Int32 × Nat) := []
def JX0 : List (Nat × Int64 × Nat) := []
theorem tbX0 : zTb RX0 (zfl FX0) (zkI IX0) (zkJ JX0) := zTb_of (by decide +kernel) (by decide +kernel) (by decide +kernel)
def FX1 : List (Nat × Nat × Nat × Nat × Nat) := [(9, 1, 0, 2, 156), (15, 1, 1, 0, 157), (19, 1, 2, 0, 159)]
def IX1 : List (Nat × Int32 × Nat) := []
def JX1 : List (Nat × Int64 × Nat) := []
theorem tbX1 : zTb RX1 (zfl FX1) (zkI IX1) (zkJ JX1) := zTb_of (by decide +kernel) (by decide +kernel) (by decide +kernel)
def FX2 : List (Nat × Nat × Nat × Nat × Nat) := [(9, 2, 0, 2, 281), (15, 2, 1, 2, 283), (19, 2, 2, 2, 285), (23, 2, 3, 2, 286)]
def IX2 : List (Nat × Int32 × Nat) := []
def JX2 : List (Nat × Int64 × Nat) := []
theorem tbX2 : zTb RX2 (zfl FX2) (zkI IX2) (zkJ JX2) := zTb_of (by decide +kernel) (by decide +kernel) (by decide +kernel)
def FX3 : List (Nat × Nat × Nat × Nat × Nat) := [(10, 3, 0, 2, 168), (16, 3, 1, 2, 169), (19, 3, 2, 2, 170), (22, 3, 3, 2, 171), (25, 3, 4, 2, 172), (32, 3, 5, 2, 173), (36, 3, 6, 2, 174), (52, 0, 0, 0, 79), (74, 0, 1, 2, 81), (80, 0, 2, 0, 83), (83, 0, 3, 2, 85), (90, 1, 1, 0, 158), (97, 0, 5, 0, 88), (104, 1, 2, 0, 160), (114, 0, 7, 0, 91), (123, 0, 10, 2, 97), (130, 0, 9, 2, 95), (133, 0, 8, 2, 93), (136, 0, 13, 0, 103), (139, 0, 12, 0, 101), (142, 0, 11, 2, 99), (207, 0, 14, 0, 105), (213, 3, 7, 1, 175)]
def IX3 : List (Nat × Int32 × Nat) := [(86, 999999, 246), (221, (-1000000000), 469)]
def JX3 : List (Nat × Int64 × Nat) := []
theorem tbX3 : zTb RX3 (zfl FX3) (zkI IX3) (zkJ JX3) := zTb_of (by decide +kernel) (by decide +kernel) (by decide +kernel)
def FX4 : List (Nat × Nat × Nat × Nat × Nat) := [(7, 4, 1, 2, 567), (13, 4, 2, 2, 568), (16, 4, 3, 0, 569), (20, 4, 5, 2, 571), (23, 4, 6, 2, 572), (26, 4, 7, 2, 573), (29, 4, 8, 2, 574), (32, 4, 12, 2, 578), (35, 4, 13, 2, 579), (38, 4, 14, 2, 580), (41, 4, 15, 2, 581), (44, 4, 16, 2, 582), (47, 4, 17, 2, 583), (50, 4, 19, 2, 585), (53, 4, 24, 2, 590), (56, 4, 25, 2, 591), (60, 4, 27, 2, 593), (63, 4, 28, 2, 594), (66, 4, 29, 2, 595), (69, 4, 35, 2, 601), (72, 4, 36, 2, 602), (75, 4, 40, 2, 606), (78, 4, 18, 0, 584), (81, 4, 0, 0, 566), (88, 4, 4, 0, 570), (91, 4, 11, 0, 577), (113, 4, 20, 0, 586), (116, 4, 21, 0, 587), (119, 4, 22, 1, 588), (133, 4, 23, 0, 589), (143, 4, 26, 0, 592), (162, 4, 9, 0, 575), (165, 4, 10, 0, 576), (168, 4, 30, 0, 596), (171, 4, 31, 0, 597), (174, 4, 32, 0, 598), (177, 4, 33, 0, 599), (180, 4, 34, 0, 600), (200, 4, 37, 0, 603), (203, 4, 38, 0, 604), (241, 4, 42, 1, 608), (244, 4, 41, 0, 607), (250, 4, 39, 1, 605)]
def IX4 : List (Nat × Int32 × Nat) := [(110, 999999, 736), (229, (-1000000000), 877)]
def JX4 : List (Nat × Int64 × Nat) := [(94, 3, 719), (111, 255, 741), (127, 49, 762), (129, 57, 763), (131, 48, 764), (256, 11, 946), (258, 16, 947)]
theorem tbX4 : zTb RX4 (zfl FX4) (zkI IX4) (zkJ JX4) := zTb_of (by decide +kernel) (by decide +kernel) (by decide +kernel)
def FL : List (Nat × Nat × Nat × Nat × Nat) := []
def IL : List (Nat × Int32 × Nat) := []
def JL : List (Nat × Int64 × Nat) := [(28, 4294967295, 948)]
theorem tbL : zTb RL (zfl FL) (zkI IL) (zkJ JL) := zTb_of (by decide +kernel) (by decide +kernel) (by decide +kernel)
