/-! the constructor of the class -/
section CON3
variable {l : Launch} {D : va_G} {C : zC}
def sgN (N : Nat) : Nat → Nat := fun i => if i < 1 then i + N else i
theorem sgN_lt {N k : Nat} (h : k < 1) : sgN N k = k + N := if_pos h
theorem sgN_F {N i : Nat} (h : zfo i) : sgN N i = i := if_neg (by have := h.1; unfold zBIG at this; omega)
theorem sgN_inj {i j : Nat} (hi : i < 1) (hj : j < 1) : i = j := by omega
theorem zsg_N {N k : Nat} (h : k + N < zBIG) : zsg (sgN N) 1 (N + 1) k = k + N := by
  by_cases h1 : k < 1
  · rw [zsg_lo h1, sgN_lt h1]
  · rw [zsg_hi (by omega) (by omega) (by omega)]; omega
theorem zplA_tail {front : zS} {x : zE} {w w' : zS} {N : Nat} (hN : front.length = N) (hw : 1 ≤ w.length) (hB : N + w.length ≤ zBIG) (hw' : w'.length = w.length) (h : ∀ (k : Nat) (y : zE), w[k]? = some y → w'[k]? = some (zr (zsg (sgN N) 1 (N + 1)) y)) : zplA (sgN N) (front ++ [x]) 1 w (front ++ w') := by
  subst hN
  have hl : (front ++ [x]).length = front.length + 1 := by simp
  unfold zplA
  rw [hl]
  refine ⟨by rw [List.length_append, hw']; omega, fun k y hy => ?_, fun i hi hne => ?_⟩
  · have hk : k < w.length := (List.getElem?_eq_some_iff.mp hy).1
    rw [zsg_N (by omega), List.getElem?_append_right (by omega), Nat.add_sub_cancel]
    exact h k y hy
  · have h1 : ¬ sgN front.length 0 = i := hne 0 (by omega)
    rw [sgN_lt (by omega)] at h1
    rw [List.getElem?_append_left (by omega), List.getElem?_append_left (by omega)]
theorem zNw_X0 : zNw RX3 7 0 (RX0, TX0, 19) [.int 0, .null, .int 0, .null, .int 0, .int 0, .null, .int 0, .null, .null, .null, .null, .int 0, .int 0, .int 0, .null, .null, .null, .null] := ⟨⟨zin_mem (h := 70) (by decide +kernel), zin_mem (h := 71) (by decide +kernel), zin_mem (h := 55) (by decide +kernel)⟩, rfl, by decide +kernel, by simp⟩
theorem zNw_X1 : zNw RX3 29 1 (RX1, TX1, 3) [.null, .int 0, .int 0] := ⟨⟨zin_mem (h := 150) (by decide +kernel), zin_mem (h := 151) (by decide +kernel), zin_mem (h := 56) (by decide +kernel)⟩, rfl, by decide +kernel, by simp⟩
def yam0 : zY := (fun _ => isl0, fun _ _ => 0, fun _ => 0)
theorem isl_ren (N : Nat) (hN : N = 1 ∨ N = 13 ∨ N = 25 ∨ N = 37) : ∀ (k : Nat) (y : zE), (isl 0 53 isl0)[k]? = some y → (isl N 53 isl0)[k]? = some (zr (zsg (sgN N) 1 (N + 1)) y) := by
  intro k y hy
  have hk : k < 12 := (List.getElem?_eq_some_iff.mp hy).1
  rcases hN with rfl | rfl | rfl | rfl <;> (match k, hk with
    | 0, _ => cases hy; rfl
    | 1, _ => cases hy; rfl
    | 2, _ => cases hy; rfl
    | 3, _ => cases hy; rfl
    | 4, _ => cases hy; rfl
    | 5, _ => cases hy; rfl
    | 6, _ => cases hy; rfl
    | 7, _ => cases hy; rfl
    | 8, _ => cases hy; rfl
    | 9, _ => cases hy; rfl
    | 10, _ => cases hy; rfl
    | 11, _ => cases hy; rfl)
set_option maxRecDepth 20000 in
theorem c_yam_init : zFunB l D C yX3_init cX3_init 1 none (zRA 2 52 598) [.ref 0] [.inr (.inr (3, [.null, .null, .null, .null, .null, .null, .null, .int 0]))] (fun w rv => w = yamW 53 yam0 ∧ rv = none) := by
  refine zFunC_of (by decide) rfl oX3_init tbX3 (Nat.le_of_ble_eq_true rfl) (fun Z o oN => ?_)
  have oN := oN rfl
  refine o.1 0 0 100 [] 0 _ _ _ (Nat.zero_le _) (Nat.zero_le _) ?_
  show Z 0 0 1 _ _ [.ref 0]
  refine o.2.1 0 0 1 1 0 _ _ rfl (zin_mem (h := 67) (by decide +kernel)) (by omega) ?_
  refine o.1 0 0 100 [] 4 _ _ _ (Nat.le_of_ble_eq_true rfl) (Nat.le_of_ble_eq_true rfl) ?_
  show Z 0 0 5 ([.inr (.inr (3, [.null, .null, .null, .null, .null, .null, .null, .int 0]))]) _ [.ref 0]
  refine o.2.2.2.2.2.2 0 0 7 5 0 (RX0, TX0, 19) [.int 0, .null, .int 0, .null, .int 0, .int 0, .null, .int 0, .null, .null, .null, .null, .int 0, .int 0, .int 0, .null, .null, .null, .null] _ _ _ rfl zNw_X0 (Nat.le_of_ble_eq_true rfl) (Nat.le_of_ble_eq_true rfl) (zcW_of rfl) (zcL_of rfl) (zcS_of rfl) (Nat.le_of_ble_eq_true rfl) (Nat.le_of_ble_eq_true rfl) ?_
  show Z 1 19 8 ([.inr (.inr (3, [.null, .null, .null, .null, .null, .null, .null, .int 0]))] ++ [.inr (.inr (0, [.int 0, .null, .int 0, .null, .int 0, .int 0, .null, .int 0, .null, .null, .null, .null, .int 0, .int 0, .int 0, .null, .null, .null, .null]))]) _ [.ref 1, .ref 0]
  refine o.1 1 19 100 [] 8 _ _ _ (Nat.le_of_ble_eq_true rfl) (Nat.le_of_ble_eq_true rfl) ?_
  show Z 1 19 9 ([.inr (.inr (3, [.null, .null, .null, .null, .null, .null, .null, .int 0]))] ++ [.inr (.inr (0, [.int 0, .null, .int 0, .null, .int 0, .int 0, .null, .int 0, .null, .null, .null, .null, .int 0, .int 0, .int 0, .null, .null, .null, .null]))]) _ [.ref 1, .ref 1, .ref 0]
  refine oN 1 19 11 120 yX0_init cX0_init 1 0 9 9 1 (sgN 1) _ _ _ _ [] _ [.ref 1, .ref 0] 0 (Or.inl ⟨rfl, rfl⟩) ⟨zin_mem (h := 73) (by decide +kernel), zin_mem (h := 55) (by decide +kernel), zin_mem (h := 74) (by decide +kernel)⟩ (by decide +kernel) (c_isl_init (RB := 53)) ⟨fun k x hx => ?_, fun i j hi hj h => ?_⟩ (fun k hk => ?_) (fun _ h => sgN_F h) (Nat.le_of_ble_eq_true rfl) (Nat.le_of_ble_eq_true rfl) (zcW_of rfl) (zcL_of rfl) (zcS_of rfl) rfl rfl rfl (Nat.le_of_ble_eq_true rfl) (Nat.le_of_ble_eq_true rfl) (Nat.le_of_ble_eq_true rfl) (Nat.le_of_ble_eq_true rfl) (Nat.le_of_ble_eq_true rfl) (fun w rv _ hpo => ?_)
  · match k, hx with
    | 0, hx => cases hx; rfl
    | k + 1, hx => simp at hx
  · exact sgN_inj hi hj
  · have hk : k < 1 := hk
    rw [sgN_lt hk]
    show k + 1 < 2
    omega
  obtain ⟨rfl, rfl⟩ := hpo
  refine ⟨([.inr (.inr (3, [.null, .null, .null, .null, .null, .null, .null, .int 0]))]) ++ isl 1 53 isl0, zplA_tail (w := isl 0 53 isl0) (w' := isl 1 53 isl0) (N := 1) rfl (Nat.le_of_ble_eq_true rfl) (Nat.le_of_ble_eq_true rfl) rfl (isl_ren 1 (by decide)), (Nat.le_of_ble_eq_true rfl), ?_⟩
  show Z 12 139 12 ([.inr (.inr (3, [.null, .null, .null, .null, .null, .null, .null, .int 0]))] ++ isl 1 53 isl0) _ [.ref 1, .ref 0]
  refine o.2.2.1 12 139 10 12 3 0 0 (RX3, TX3, 8) [.null, .null, .null, .null, .null, .null, .null, .int 0] _ (.object RX0) _ _ _ rfl (zPw_of tbX3 (ci := 3) (j := 0) rfl rfl rfl rfl (by decide +kernel)) rfl (zft_ob RX0 1) (Nat.le_of_ble_eq_true rfl) ?_
  show Z 12 139 15 ([.inr (.inr (3, [.ref 1, .null, .null, .null, .null, .null, .null, .int 0]))] ++ isl 1 53 isl0) _ []
  refine o.1 12 139 100 [] 15 _ _ _ (Nat.le_of_ble_eq_true rfl) (Nat.le_of_ble_eq_true rfl) ?_
  show Z 12 139 16 ([.inr (.inr (3, [.ref 1, .null, .null, .null, .null, .null, .null, .int 0]))] ++ isl 1 53 isl0) _ [.ref 0]
  refine o.2.2.2.2.2.2 12 139 7 16 0 (RX0, TX0, 19) [.int 0, .null, .int 0, .null, .int 0, .int 0, .null, .int 0, .null, .null, .null, .null, .int 0, .int 0, .int 0, .null, .null, .null, .null] _ _ _ rfl zNw_X0 (Nat.le_of_ble_eq_true rfl) (Nat.le_of_ble_eq_true rfl) (zcW_of rfl) (zcL_of rfl) (zcS_of rfl) (Nat.le_of_ble_eq_true rfl) (Nat.le_of_ble_eq_true rfl) ?_
  show Z 13 158 19 ([.inr (.inr (3, [.ref 1, .null, .null, .null, .null, .null, .null, .int 0]))] ++ isl 1 53 isl0 ++ [.inr (.inr (0, [.int 0, .null, .int 0, .null, .int 0, .int 0, .null, .int 0, .null, .null, .null, .null, .int 0, .int 0, .int 0, .null, .null, .null, .null]))]) _ [.ref 13, .ref 0]
  refine o.1 13 158 100 [] 19 _ _ _ (Nat.le_of_ble_eq_true rfl) (Nat.le_of_ble_eq_true rfl) ?_
  show Z 13 158 20 ([.inr (.inr (3, [.ref 1, .null, .null, .null, .null, .null, .null, .int 0]))] ++ isl 1 53 isl0 ++ [.inr (.inr (0, [.int 0, .null, .int 0, .null, .int 0, .int 0, .null, .int 0, .null, .null, .null, .null, .int 0, .int 0, .int 0, .null, .null, .null, .null]))]) _ [.ref 13, .ref 13, .ref 0]
  refine oN 13 158 11 120 yX0_init cX0_init 1 0 9 20 1 (sgN 13) _ _ _ _ [] _ [.ref 13, .ref 0] 0 (Or.inl ⟨rfl, rfl⟩) ⟨zin_mem (h := 73) (by decide +kernel), zin_mem (h := 55) (by decide +kernel), zin_mem (h := 74) (by decide +kernel)⟩ (by decide +kernel) (c_isl_init (RB := 53)) ⟨fun k x hx => ?_, fun i j hi hj h => ?_⟩ (fun k hk => ?_) (fun _ h => sgN_F h) (Nat.le_of_ble_eq_true rfl) (Nat.le_of_ble_eq_true rfl) (zcW_of rfl) (zcL_of rfl) (zcS_of rfl) rfl rfl rfl (Nat.le_of_ble_eq_true rfl) (Nat.le_of_ble_eq_true rfl) (Nat.le_of_ble_eq_true rfl) (Nat.le_of_ble_eq_true rfl) (Nat.le_of_ble_eq_true rfl) (fun w rv _ hpo => ?_)
  · match k, hx with
    | 0, hx => cases hx; rfl
    | k + 1, hx => simp at hx
  · exact sgN_inj hi hj
  · have hk : k < 1 := hk
    rw [sgN_lt hk]
    show k + 13 < 14
    omega
  obtain ⟨rfl, rfl⟩ := hpo
  refine ⟨([.inr (.inr (3, [.ref 1, .null, .null, .null, .null, .null, .null, .int 0]))] ++ isl 1 53 isl0) ++ isl 13 53 isl0, zplA_tail (w := isl 0 53 isl0) (w' := isl 13 53 isl0) (N := 13) rfl (Nat.le_of_ble_eq_true rfl) (Nat.le_of_ble_eq_true rfl) rfl (isl_ren 13 (by decide)), (Nat.le_of_ble_eq_true rfl), ?_⟩
  show Z 24 278 23 ([.inr (.inr (3, [.ref 1, .null, .null, .null, .null, .null, .null, .int 0]))] ++ isl 1 53 isl0 ++ isl 13 53 isl0) _ [.ref 13, .ref 0]
  refine o.2.2.1 24 278 16 23 3 1 0 (RX3, TX3, 8) [.ref 1, .null, .null, .null, .null, .null, .null, .int 0] _ (.object RX0) _ _ _ rfl (zPw_of tbX3 (ci := 3) (j := 1) rfl rfl rfl rfl (by decide +kernel)) rfl (zft_ob RX0 13) (Nat.le_of_ble_eq_true rfl) ?_
  show Z 24 278 26 ([.inr (.inr (3, [.ref 1, .ref 13, .null, .null, .null, .null, .null, .int 0]))] ++ isl 1 53 isl0 ++ isl 13 53 isl0) _ []
  refine o.1 24 278 100 [] 26 _ _ _ (Nat.le_of_ble_eq_true rfl) (Nat.le_of_ble_eq_true rfl) ?_
  show Z 24 278 27 ([.inr (.inr (3, [.ref 1, .ref 13, .null, .null, .null, .null, .null, .int 0]))] ++ isl 1 53 isl0 ++ isl 13 53 isl0) _ [.ref 0]
  refine o.2.2.2.2.2.2 24 278 7 27 0 (RX0, TX0, 19) [.int 0, .null, .int 0, .null, .int 0, .int 0, .null, .int 0, .null, .null, .null, .null, .int 0, .int 0, .int 0, .null, .null, .null, .null] _ _ _ rfl zNw_X0 (Nat.le_of_ble_eq_true rfl) (Nat.le_of_ble_eq_true rfl) (zcW_of rfl) (zcL_of rfl) (zcS_of rfl) (Nat.le_of_ble_eq_true rfl) (Nat.le_of_ble_eq_true rfl) ?_
  show Z 25 297 30 ([.inr (.inr (3, [.ref 1, .ref 13, .null, .null, .null, .null, .null, .int 0]))] ++ isl 1 53 isl0 ++ isl 13 53 isl0 ++ [.inr (.inr (0, [.int 0, .null, .int 0, .null, .int 0, .int 0, .null, .int 0, .null, .null, .null, .null, .int 0, .int 0, .int 0, .null, .null, .null, .null]))]) _ [.ref 25, .ref 0]
  refine o.1 25 297 100 [] 30 _ _ _ (Nat.le_of_ble_eq_true rfl) (Nat.le_of_ble_eq_true rfl) ?_
  show Z 25 297 31 ([.inr (.inr (3, [.ref 1, .ref 13, .null, .null, .null, .null, .null, .int 0]))] ++ isl 1 53 isl0 ++ isl 13 53 isl0 ++ [.inr (.inr (0, [.int 0, .null, .int 0, .null, .int 0, .int 0, .null, .int 0, .null, .null, .null, .null, .int 0, .int 0, .int 0, .null, .null, .null, .null]))]) _ [.ref 25, .ref 25, .ref 0]
  refine oN 25 297 11 120 yX0_init cX0_init 1 0 9 31 1 (sgN 25) _ _ _ _ [] _ [.ref 25, .ref 0] 0 (Or.inl ⟨rfl, rfl⟩) ⟨zin_mem (h := 73) (by decide +kernel), zin_mem (h := 55) (by decide +kernel), zin_mem (h := 74) (by decide +kernel)⟩ (by decide +kernel) (c_isl_init (RB := 53)) ⟨fun k x hx => ?_, fun i j hi hj h => ?_⟩ (fun k hk => ?_) (fun _ h => sgN_F h) (Nat.le_of_ble_eq_true rfl) (Nat.le_of_ble_eq_true rfl) (zcW_of rfl) (zcL_of rfl) (zcS_of rfl) rfl rfl rfl (Nat.le_of_ble_eq_true rfl) (Nat.le_of_ble_eq_true rfl) (Nat.le_of_ble_eq_true rfl) (Nat.le_of_ble_eq_true rfl) (Nat.le_of_ble_eq_true rfl) (fun w rv _ hpo => ?_)
  · match k, hx with
    | 0, hx => cases hx; rfl
    | k + 1, hx => simp at hx
  · exact sgN_inj hi hj
  · have hk : k < 1 := hk
    rw [sgN_lt hk]
    show k + 25 < 26
    omega
  obtain ⟨rfl, rfl⟩ := hpo
  refine ⟨([.inr (.inr (3, [.ref 1, .ref 13, .null, .null, .null, .null, .null, .int 0]))] ++ isl 1 53 isl0 ++ isl 13 53 isl0) ++ isl 25 53 isl0, zplA_tail (w := isl 0 53 isl0) (w' := isl 25 53 isl0) (N := 25) rfl (Nat.le_of_ble_eq_true rfl) (Nat.le_of_ble_eq_true rfl) rfl (isl_ren 25 (by decide)), (Nat.le_of_ble_eq_true rfl), ?_⟩
  show Z 36 417 34 ([.inr (.inr (3, [.ref 1, .ref 13, .null, .null, .null, .null, .null, .int 0]))] ++ isl 1 53 isl0 ++ isl 13 53 isl0 ++ isl 25 53 isl0) _ [.ref 25, .ref 0]
  refine o.2.2.1 36 417 19 34 3 2 0 (RX3, TX3, 8) [.ref 1, .ref 13, .null, .null, .null, .null, .null, .int 0] _ (.object RX0) _ _ _ rfl (zPw_of tbX3 (ci := 3) (j := 2) rfl rfl rfl rfl (by decide +kernel)) rfl (zft_ob RX0 25) (Nat.le_of_ble_eq_true rfl) ?_
  show Z 36 417 37 ([.inr (.inr (3, [.ref 1, .ref 13, .ref 25, .null, .null, .null, .null, .int 0]))] ++ isl 1 53 isl0 ++ isl 13 53 isl0 ++ isl 25 53 isl0) _ []
  refine o.1 36 417 100 [] 37 _ _ _ (Nat.le_of_ble_eq_true rfl) (Nat.le_of_ble_eq_true rfl) ?_
  show Z 36 417 38 ([.inr (.inr (3, [.ref 1, .ref 13, .ref 25, .null, .null, .null, .null, .int 0]))] ++ isl 1 53 isl0 ++ isl 13 53 isl0 ++ isl 25 53 isl0) _ [.ref 0]
  refine o.2.2.2.2.2.2 36 417 7 38 0 (RX0, TX0, 19) [.int 0, .null, .int 0, .null, .int 0, .int 0, .null, .int 0, .null, .null, .null, .null, .int 0, .int 0, .int 0, .null, .null, .null, .null] _ _ _ rfl zNw_X0 (Nat.le_of_ble_eq_true rfl) (Nat.le_of_ble_eq_true rfl) (zcW_of rfl) (zcL_of rfl) (zcS_of rfl) (Nat.le_of_ble_eq_true rfl) (Nat.le_of_ble_eq_true rfl) ?_
  show Z 37 436 41 ([.inr (.inr (3, [.ref 1, .ref 13, .ref 25, .null, .null, .null, .null, .int 0]))] ++ isl 1 53 isl0 ++ isl 13 53 isl0 ++ isl 25 53 isl0 ++ [.inr (.inr (0, [.int 0, .null, .int 0, .null, .int 0, .int 0, .null, .int 0, .null, .null, .null, .null, .int 0, .int 0, .int 0, .null, .null, .null, .null]))]) _ [.ref 37, .ref 0]
  refine o.1 37 436 100 [] 41 _ _ _ (Nat.le_of_ble_eq_true rfl) (Nat.le_of_ble_eq_true rfl) ?_
  show Z 37 436 42 ([.inr (.inr (3, [.ref 1, .ref 13, .ref 25, .null, .null, .null, .null, .int 0]))] ++ isl 1 53 isl0 ++ isl 13 53 isl0 ++ isl 25 53 isl0 ++ [.inr (.inr (0, [.int 0, .null, .int 0, .null, .int 0, .int 0, .null, .int 0, .null, .null, .null, .null, .int 0, .int 0, .int 0, .null, .null, .null, .null]))]) _ [.ref 37, .ref 37, .ref 0]
  refine oN 37 436 11 120 yX0_init cX0_init 1 0 9 42 1 (sgN 37) _ _ _ _ [] _ [.ref 37, .ref 0] 0 (Or.inl ⟨rfl, rfl⟩) ⟨zin_mem (h := 73) (by decide +kernel), zin_mem (h := 55) (by decide +kernel), zin_mem (h := 74) (by decide +kernel)⟩ (by decide +kernel) (c_isl_init (RB := 53)) ⟨fun k x hx => ?_, fun i j hi hj h => ?_⟩ (fun k hk => ?_) (fun _ h => sgN_F h) (Nat.le_of_ble_eq_true rfl) (Nat.le_of_ble_eq_true rfl) (zcW_of rfl) (zcL_of rfl) (zcS_of rfl) rfl rfl rfl (Nat.le_of_ble_eq_true rfl) (Nat.le_of_ble_eq_true rfl) (Nat.le_of_ble_eq_true rfl) (Nat.le_of_ble_eq_true rfl) (Nat.le_of_ble_eq_true rfl) (fun w rv _ hpo => ?_)
  · match k, hx with
    | 0, hx => cases hx; rfl
    | k + 1, hx => simp at hx
  · exact sgN_inj hi hj
  · have hk : k < 1 := hk
    rw [sgN_lt hk]
    show k + 37 < 38
    omega
  obtain ⟨rfl, rfl⟩ := hpo
  refine ⟨([.inr (.inr (3, [.ref 1, .ref 13, .ref 25, .null, .null, .null, .null, .int 0]))] ++ isl 1 53 isl0 ++ isl 13 53 isl0 ++ isl 25 53 isl0) ++ isl 37 53 isl0, zplA_tail (w := isl 0 53 isl0) (w' := isl 37 53 isl0) (N := 37) rfl (Nat.le_of_ble_eq_true rfl) (Nat.le_of_ble_eq_true rfl) rfl (isl_ren 37 (by decide)), (Nat.le_of_ble_eq_true rfl), ?_⟩
  show Z 48 556 45 ([.inr (.inr (3, [.ref 1, .ref 13, .ref 25, .null, .null, .null, .null, .int 0]))] ++ isl 1 53 isl0 ++ isl 13 53 isl0 ++ isl 25 53 isl0 ++ isl 37 53 isl0) _ [.ref 37, .ref 0]
  refine o.2.2.1 48 556 22 45 3 3 0 (RX3, TX3, 8) [.ref 1, .ref 13, .ref 25, .null, .null, .null, .null, .int 0] _ (.object RX0) _ _ _ rfl (zPw_of tbX3 (ci := 3) (j := 3) rfl rfl rfl rfl (by decide +kernel)) rfl (zft_ob RX0 37) (Nat.le_of_ble_eq_true rfl) ?_
  show Z 48 556 48 ([.inr (.inr (3, [.ref 1, .ref 13, .ref 25, .ref 37, .null, .null, .null, .int 0]))] ++ isl 1 53 isl0 ++ isl 13 53 isl0 ++ isl 25 53 isl0 ++ isl 37 53 isl0) _ []
  refine o.1 48 556 100 [] 48 _ _ _ (Nat.le_of_ble_eq_true rfl) (Nat.le_of_ble_eq_true rfl) ?_
  show Z 48 556 51 ([.inr (.inr (3, [.ref 1, .ref 13, .ref 25, .ref 37, .null, .null, .null, .int 0]))] ++ isl 1 53 isl0 ++ isl 13 53 isl0 ++ isl 25 53 isl0 ++ isl 37 53 isl0) _ [.int (nI 8), .ref 0]
  refine o.2.2.2.1 48 556 51 8 _ _ _ rfl (by decide) (Nat.le_of_ble_eq_true rfl) (Nat.le_of_ble_eq_true rfl) (zcW_of rfl) (zcL_of rfl) (zcS_of rfl) (Nat.le_of_ble_eq_true rfl) (Nat.le_of_ble_eq_true rfl) ?_
  show Z 49 564 53 ([.inr (.inr (3, [.ref 1, .ref 13, .ref 25, .ref 37, .null, .null, .null, .int 0]))] ++ isl 1 53 isl0 ++ isl 13 53 isl0 ++ isl 25 53 isl0 ++ isl 37 53 isl0 ++ [.inl (0, 8, fun _ => 0)]) _ [.ref 49, .ref 0]
  refine o.2.2.1 49 564 25 53 3 4 0 (RX3, TX3, 8) [.ref 1, .ref 13, .ref 25, .ref 37, .null, .null, .null, .int 0] _ (.array .int) _ _ _ rfl (zPw_of tbX3 (ci := 3) (j := 4) rfl rfl rfl rfl (by decide +kernel)) rfl (zft_ar .int 49) (Nat.le_of_ble_eq_true rfl) ?_
  show Z 49 564 56 ([.inr (.inr (3, [.ref 1, .ref 13, .ref 25, .ref 37, .ref 49, .null, .null, .int 0]))] ++ isl 1 53 isl0 ++ isl 13 53 isl0 ++ isl 25 53 isl0 ++ isl 37 53 isl0 ++ [.inl (0, 8, fun _ => 0)]) _ []
  refine o.1 49 564 100 [] 56 _ _ _ (Nat.le_of_ble_eq_true rfl) (Nat.le_of_ble_eq_true rfl) ?_
  show Z 49 564 57 ([.inr (.inr (3, [.ref 1, .ref 13, .ref 25, .ref 37, .ref 49, .null, .null, .int 0]))] ++ isl 1 53 isl0 ++ isl 13 53 isl0 ++ isl 25 53 isl0 ++ isl 37 53 isl0 ++ [.inl (0, 8, fun _ => 0)]) _ [.ref 0]
  refine o.2.2.2.2.2.2 49 564 29 57 1 (RX1, TX1, 3) [.null, .int 0, .int 0] _ _ _ rfl zNw_X1 (Nat.le_of_ble_eq_true rfl) (Nat.le_of_ble_eq_true rfl) (zcW_of rfl) (zcL_of rfl) (zcS_of rfl) (Nat.le_of_ble_eq_true rfl) (Nat.le_of_ble_eq_true rfl) ?_
  show Z 50 567 60 ([.inr (.inr (3, [.ref 1, .ref 13, .ref 25, .ref 37, .ref 49, .null, .null, .int 0]))] ++ isl 1 53 isl0 ++ isl 13 53 isl0 ++ isl 25 53 isl0 ++ isl 37 53 isl0 ++ [.inl (0, 8, fun _ => 0)] ++ [.inr (.inr (1, [.null, .int 0, .int 0]))]) _ [.ref 50, .ref 0]
  refine o.1 50 567 100 [] 60 _ _ _ (Nat.le_of_ble_eq_true rfl) (Nat.le_of_ble_eq_true rfl) ?_
  show Z 50 567 61 ([.inr (.inr (3, [.ref 1, .ref 13, .ref 25, .ref 37, .ref 49, .null, .null, .int 0]))] ++ isl 1 53 isl0 ++ isl 13 53 isl0 ++ isl 25 53 isl0 ++ isl 37 53 isl0 ++ [.inl (0, 8, fun _ => 0)] ++ [.inr (.inr (1, [.null, .int 0, .int 0]))]) _ [.ref 50, .ref 50, .ref 0]
  refine oN 50 567 1 24 yX1_init cX1_init 1 0 31 61 1 (sgN 50) _ _ _ _ [] _ [.ref 50, .ref 0] 0 (Or.inr ⟨rfl, rfl⟩) ⟨zin_mem (h := 153) (by decide +kernel), zin_mem (h := 56) (by decide +kernel), zin_mem (h := 154) (by decide +kernel)⟩ (by decide +kernel) c_rdr_init ⟨fun k x hx => ?_, fun i j hi hj h => ?_⟩ (fun k hk => ?_) (fun _ h => sgN_F h) (Nat.le_of_ble_eq_true rfl) (Nat.le_of_ble_eq_true rfl) (zcW_of rfl) (zcL_of rfl) (zcS_of rfl) rfl rfl rfl (Nat.le_of_ble_eq_true rfl) (Nat.le_of_ble_eq_true rfl) (Nat.le_of_ble_eq_true rfl) (Nat.le_of_ble_eq_true rfl) (Nat.le_of_ble_eq_true rfl) (fun w rv _ hpo => ?_)
  · match k, hx with
    | 0, hx => cases hx; rfl
    | k + 1, hx => simp at hx
  · exact sgN_inj hi hj
  · have hk : k < 1 := hk
    rw [sgN_lt hk]
    show k + 50 < 51
    omega
  obtain ⟨rfl, rfl⟩ := hpo
  refine ⟨([.inr (.inr (3, [.ref 1, .ref 13, .ref 25, .ref 37, .ref 49, .null, .null, .int 0]))] ++ isl 1 53 isl0 ++ isl 13 53 isl0 ++ isl 25 53 isl0 ++ isl 37 53 isl0 ++ [.inl (0, 8, fun _ => 0)]) ++ [.inr (.inr (1, [.ref 51, .int 0, .int 0])), .inl (0, 24, fun _ => 0)], zplA_tail (w := rdr (fun _ => 0) 0 0) (w' := [.inr (.inr (1, [.ref 51, .int 0, .int 0])), .inl (0, 24, fun _ => 0)]) (N := 50) rfl (Nat.le_of_ble_eq_true rfl) (Nat.le_of_ble_eq_true rfl) rfl (fun k y hy => ?_), (Nat.le_of_ble_eq_true rfl), ?_⟩
  · match k, hy with
    | 0, hy => cases hy; rfl
    | 1, hy => cases hy; rfl
    | k + 2, hy => simp [rdr] at hy
  show Z 51 591 64 ([.inr (.inr (3, [.ref 1, .ref 13, .ref 25, .ref 37, .ref 49, .null, .null, .int 0]))] ++ isl 1 53 isl0 ++ isl 13 53 isl0 ++ isl 25 53 isl0 ++ isl 37 53 isl0 ++ [.inl (0, 8, fun _ => 0)] ++ [.inr (.inr (1, [.ref 51, .int 0, .int 0])), .inl (0, 24, fun _ => 0)]) _ [.ref 50, .ref 0]
  refine o.2.2.1 51 591 32 64 3 5 0 (RX3, TX3, 8) [.ref 1, .ref 13, .ref 25, .ref 37, .ref 49, .null, .null, .int 0] _ (.object RX1) _ _ _ rfl (zPw_of tbX3 (ci := 3) (j := 5) rfl rfl rfl rfl (by decide +kernel)) rfl (zft_ob RX1 50) (Nat.le_of_ble_eq_true rfl) ?_
  show Z 51 591 67 ([.inr (.inr (3, [.ref 1, .ref 13, .ref 25, .ref 37, .ref 49, .ref 50, .null, .int 0]))] ++ isl 1 53 isl0 ++ isl 13 53 isl0 ++ isl 25 53 isl0 ++ isl 37 53 isl0 ++ [.inl (0, 8, fun _ => 0)] ++ [.inr (.inr (1, [.ref 51, .int 0, .int 0])), .inl (0, 24, fun _ => 0)]) _ []
  refine o.1 51 591 100 [] 67 _ _ _ (Nat.le_of_ble_eq_true rfl) (Nat.le_of_ble_eq_true rfl) ?_
  show Z 51 591 70 ([.inr (.inr (3, [.ref 1, .ref 13, .ref 25, .ref 37, .ref 49, .ref 50, .null, .int 0]))] ++ isl 1 53 isl0 ++ isl 13 53 isl0 ++ isl 25 53 isl0 ++ isl 37 53 isl0 ++ [.inl (0, 8, fun _ => 0)] ++ [.inr (.inr (1, [.ref 51, .int 0, .int 0])), .inl (0, 24, fun _ => 0)]) _ [.int (nI 7), .ref 0]
  refine o.2.2.2.1 51 591 70 7 _ _ _ rfl (by decide) (Nat.le_of_ble_eq_true rfl) (Nat.le_of_ble_eq_true rfl) (zcW_of rfl) (zcL_of rfl) (zcS_of rfl) (Nat.le_of_ble_eq_true rfl) (Nat.le_of_ble_eq_true rfl) ?_
  show Z 52 598 72 ([.inr (.inr (3, [.ref 1, .ref 13, .ref 25, .ref 37, .ref 49, .ref 50, .null, .int 0]))] ++ isl 1 53 isl0 ++ isl 13 53 isl0 ++ isl 25 53 isl0 ++ isl 37 53 isl0 ++ [.inl (0, 8, fun _ => 0)] ++ [.inr (.inr (1, [.ref 51, .int 0, .int 0])), .inl (0, 24, fun _ => 0)] ++ [.inl (0, 7, fun _ => 0)]) _ [.ref 52, .ref 0]
  refine o.2.2.1 52 598 36 72 3 6 0 (RX3, TX3, 8) [.ref 1, .ref 13, .ref 25, .ref 37, .ref 49, .ref 50, .null, .int 0] _ (.array .int) _ _ _ rfl (zPw_of tbX3 (ci := 3) (j := 6) rfl rfl rfl rfl (by decide +kernel)) rfl (zft_ar .int 52) (Nat.le_of_ble_eq_true rfl) ?_
  show Z 52 598 75 ([.inr (.inr (3, [.ref 1, .ref 13, .ref 25, .ref 37, .ref 49, .ref 50, .ref 52, .int 0]))] ++ isl 1 53 isl0 ++ isl 13 53 isl0 ++ isl 25 53 isl0 ++ isl 37 53 isl0 ++ [.inl (0, 8, fun _ => 0)] ++ [.inr (.inr (1, [.ref 51, .int 0, .int 0])), .inl (0, 24, fun _ => 0)] ++ [.inl (0, 7, fun _ => 0)]) _ []
  exact o.1 52 598 100 [] 75 _ _ _ (Nat.le_of_ble_eq_true rfl) (Nat.le_of_ble_eq_true rfl) ⟨rfl, (Nat.le_of_ble_eq_true rfl), rfl, rfl⟩
end CON3
