/-! the law: its loop -/
section LL
variable {l : Launch} {D : va_G} {C : zC} {L : Nat} {xs : Nat → Int32} {Z : Nat → Nat → zP} {M : zM} {Y : zY} {S : zF} {P : List zRu} {c i kc ks : Nat}
set_option maxRecDepth 10000 in
theorem lc_6 (o : zOpL l D C kLc_6 L xs Z) (hY : repY P Y S c) (hM : repM M S) (hP : P.length ≤ 5000) (hkc : kc + 31 ≤ 600000) (hks : ks + 124 ≤ 7302250) (K : ∀ (Y' : zY) (M' : zM) (S' : zF) (P' : List zRu), repY P' Y' S' (c + 1) → repM M' S' → P'.length ≤ P.length + 31 → Z (kc + 31) (ks + 124) 1145 (LW M' Y' P') (lvL i) []) : Z kc ks 440 (LW M Y P) (lvL i) [] := by
  refine o.1 kc ks 1 [] 440 _ _ _ (by omega) (by omega) ?_
  refine o.cR (pc := 441) hY (fun Y' P' hY' hP' => ?_) hP hkc hks (fun v hv => absurd hv List.not_mem_nil)
  refine o.1 (kc + 31) (ks + 124) 1 [] 444 _ _ _ hkc hks ?_
  refine o.cM (pc := 445) (As := []) vL_47 (m_rule hM hY.2.1.2) (fun M' hM' => ?_) hkc hks
  exact o.1 (kc + 31) (ks + 124) 1 [] 448 _ _ _ hkc hks ⟨fun _ => K Y' M' _ P' hY' hM' hP', fun q => absurd rfl q⟩
theorem lt5 {L i : Nat} (hL : L ≤ 320) (hi : i ≤ 400) : (nI L - nI 5 < nI i) ↔ ¬ i + 5 ≤ L := by
  by_cases h5 : 5 ≤ L
  · rw [pk_sub h5, nI_ltI (by omega) (by omega)]; omega
  · have h0 : nI L - nI 5 < 0 := by
      have : L = 0 ∨ L = 1 ∨ L = 2 ∨ L = 3 ∨ L = 4 := by omega
      rcases this with rfl | rfl | rfl | rfl | rfl <;> decide
    have h1 : (0 : Int32) ≤ nI i := Int32.not_lt.mp (nI_pos (by omega))
    exact ⟨fun _ => by omega, fun _ => Int32.lt_of_lt_of_le h0 h1⟩
set_option maxRecDepth 10000 in
theorem l_exit (o : zOpL l D C kLc_h L xs Z) (hL : L ≤ 320) (hi : i ≤ 400) (h : ¬ i + 5 ≤ L) (hkc : kc ≤ 600000) (hks : ks ≤ 7302250) {ws : zS} : Z kc ks 18 ws (lvL i) [] := by
  refine o.1 kc ks 2 [] 18 _ _ _ hkc hks ?_
  refine o.2.2.2.2.1 kc ks 20 ws (lvL i) _ rfl ?_
  exact o.1 kc ks 100 [26] 21 _ _ _ hkc hks ⟨fun _ => rfl, fun q => absurd ((lt5 hL hi).mpr h) q⟩
theorem law_loop (oo : ∀ tab, zokC code tab = true → zOpL l D C tab L xs Z) (hL : L ≤ 320) : ∀ (n c : Nat) (Y : zY) (M : zM) (P : List zRu) (S : zF) (kc ks : Nat), c + n = 64 → repY P Y S c → repM M S → P.length ≤ 31 * c → kc ≤ 75 + 31 * c → ks ≤ 2880 + 124 * c → Z kc ks 18 (LW M Y P) (lvL (5 * c)) []
  | 0, c, Y, M, P, S, kc, ks, hn, hY, hM, hP, hkc, hks => l_exit (oo kLc_h oLc_h) hL (by omega) (by omega) (by omega) (by omega)
  | n + 1, c, Y, M, P, S, kc, ks, hn, hY, hM, hP, hkc, hks => by
    have o := oo kLc_h oLc_h
    by_cases h : 5 * c + 5 ≤ L
    · have back : ∀ (Y' : zY) (M' : zM) (P' : List zRu) (S' : zF) (kc' ks' : Nat), repY P' Y' S' (c + 1) → repM M' S' → P'.length ≤ 31 * (c + 1) → kc' ≤ 75 + 31 * (c + 1) → ks' ≤ 2880 + 124 * (c + 1) → Z kc' ks' 1145 (LW M' Y' P') (lvL (5 * c)) [] := by
        intro Y' M' P' S' kc' ks' h1 h2 h3 h4 h5
        refine o.1 kc' ks' 2 [] 1145 _ _ _ (by omega) (by omega) ?_
        show Z kc' ks' 18 (LW M' Y' P') [some (.ref zBIG), some (.ref 22), some (.ref 0), some (.int (nI (5 * c) + nI 5))] []
        rw [nI_add]
        exact law_loop oo hL n (c + 1) Y' M' P' S' kc' ks' (by omega) h1 h2 h3 h4 h5
      have hc : c ≤ 100 := by omega
      have hP5 : P.length ≤ 5000 := by omega
      have hi : 5 * c + 4 < L := by omega
      have hk1 : kc ≤ 600000 := by omega
      have hk2 : ks ≤ 7302250 := by omega
      have K : ∀ (Y' : zY) (M' : zM) (S' : zF), repY P Y' S' (c + 1) → repM M' S' → Z kc ks 1145 (LW M' Y' P) (lvL (5 * c)) [] := fun Y' M' S' h1 h2 => back Y' M' P S' kc ks h1 h2 (by omega) (by omega) (by omega)
      refine o.1 kc ks 2 [] 18 _ _ _ hk1 hk2 ?_
      refine o.2.2.2.2.1 kc ks 20 _ (lvL (5 * c)) _ rfl ?_
      refine o.1 kc ks 5 [28] 21 _ _ _ hk1 hk2 ⟨fun q => absurd h ((lt5 hL (by omega)).mp q), fun _ => ?_⟩
      refine o.2.2.2.1 kc ks 28 (5 * c) _ (lvL (5 * c)) _ rfl (by omega) ?_
      exact o.1 kc ks 3 [] 29 _ _ _ hk1 hk2 ⟨⟨fun _ => lc_0 (oo _ oLc_0) hY hM hP5 hc hi hk1 hk2 K,
        fun _ => lc_1 (oo _ oLc_1) hY hM hP5 hc hi hk1 hk2 K, fun _ => lc_2 (oo _ oLc_2) hY hM hP5 hc hi hk1 hk2 K,
        fun _ => lc_3 (oo _ oLc_3) hY hM hP5 hc hi hk1 hk2 K, fun _ => lc_4 (oo _ oLc_4) hY hM hP5 hc hi hk1 hk2 K,
        fun _ => lc_5 (oo _ oLc_5) hY hM hP5 hc hi hk1 hk2 K, fun _ => lc_6 (oo _ oLc_6) hY hM hP5 (by omega) (by omega) (fun Y' M' S' P' h1 h2 h3 => back Y' M' P' S' _ _ h1 h2 (by omega) (by omega) (by omega)),
        fun _ => lc_7 (oo _ oLc_7) hY hM hP5 hc hi hk1 hk2 K, fun _ => lc_8 (oo _ oLc_8) hY hM hP5 hc hi hk1 hk2 K,
        fun _ => lc_9 (oo _ oLc_9) hY hM hP5 hc hi hk1 hk2 K, fun _ => lc_10 (oo _ oLc_10) hY hM hP5 hc hi hk1 hk2 K,
        fun _ => lc_11 (oo _ oLc_11) hY hM hP5 hc hi hk1 hk2 K, fun _ => lc_12 (oo _ oLc_12) hY hM hP5 hc hi hk1 hk2 K,
        fun _ => lc_13 (oo _ oLc_13) hY hM hP5 hc hi hk1 hk2 K, fun _ => lc_14 (oo _ oLc_14) hY hM hP5 hc hi hk1 hk2 K,
        fun _ => lc_15 (oo _ oLc_15) hY hM hP5 hc hi hk1 hk2 K, fun _ => lc_16 (oo _ oLc_16) hY hM hP5 hc hi hk1 hk2 K,
        fun _ => lc_17 (oo _ oLc_17) hY hM hP5 hc hi hk1 hk2 K, fun _ => lc_18 (oo _ oLc_18) hY hM hP5 hc hi hk1 hk2 K,
        fun _ => lc_19 (oo _ oLc_19) hY hM hP5 hc hi hk1 hk2 K, fun _ => lc_20 (oo _ oLc_20) hY hM hP5 hc hi hk1 hk2 K,
        fun _ => lc_21 (oo _ oLc_21) hY hM hP5 hc hi hk1 hk2 K, fun _ => lc_22 (oo _ oLc_22) hY hM hP5 hc hi hk1 hk2 K,
        fun _ => lc_23 (oo _ oLc_23) hY hM hP5 hc hi hk1 hk2 K, fun _ => lc_24 (oo _ oLc_24) hY hM hP5 hc hi hk1 hk2 K,
        fun _ => lc_25 (oo _ oLc_25) hY hM hP5 hc hi hk1 hk2 K, fun _ => lc_26 (oo _ oLc_26) hY hM hP5 hc hi hk1 hk2 K,
        fun _ => lc_27 (oo _ oLc_27) hY hM hP5 hc hi hk1 hk2 K, fun _ => lc_28 (oo _ oLc_28) hY hM hP5 hc hi hk1 hk2 K,
        fun _ => lc_29 (oo _ oLc_29) hY hM hP5 hc hi hk1 hk2 K, fun _ => lc_30 (oo _ oLc_30) hY hM hP5 hc hi hk1 hk2 K, trivial⟩,
        fun _ => K Y M S (rep_mono hY (Nat.le_succ c)) hM⟩
    · exact l_exit o hL (by omega) h (by omega) (by omega)
end LL
-- the start
def t00 : zT := (fun k => if k = 1 then 1 else 0, fun _ => 0, fun _ _ => 0, fun _ _ => 0, fun _ _ => (0, 0))
def S00 : zF := (t00, none, (0, fun _ => 0), fun _ => 0)
theorem n00 : (0 : Int32) = nI 0 := nI_0.symm
theorem fn00 : (fun _ : Nat => (0 : Int32)) = (fun _ => nI 0) := by funext j; exact n00
theorem rep00 : repY [] yam0 S00 0 := by
  refine ⟨okR_nil, ⟨⟨⟨n00, rfl, n00, n00, n00, n00, n00, n00⟩, ⟨rfl, fn00, fn00, fn00, rfl, rfl⟩, fun r hr => absurd hr (Nat.not_lt_zero r), fun k hk r hr => by cases hr⟩, ⟨⟨Nat.zero_le _, by decide, by decide, Nat.zero_le _, Nat.zero_le _, Nat.zero_le _, Nat.zero_le _⟩, fun j => ⟨0, by omega, n00⟩, fun j => ⟨Nat.le_of_ble_eq_true rfl, Nat.le_of_ble_eq_true rfl, Nat.le_of_ble_eq_true rfl⟩, fun p hp => absurd hp (Nat.not_lt_zero p), fun r x hr => absurd hr (Nat.not_lt_zero r)⟩⟩, n00, ⟨n00, Nat.zero_le _, fun j hj => absurd hj (Nat.not_lt_zero j)⟩, rfl⟩
theorem repM00 : repM md0 S00 := ⟨⟨⟨n00, rfl, n00, n00, n00, n00⟩, ⟨rfl, fn00, fn00, fn00, rfl, rfl⟩, fun r hr => absurd hr (Nat.not_lt_zero r)⟩, n00, ⟨n00, Nat.zero_le _, fun j hj => absurd hj (Nat.not_lt_zero j)⟩, rfl⟩
theorem nwL_7 : zNw RL 7 3 (RX3, TX3, 8) [.null, .null, .null, .null, .null, .null, .null, .int 0] := ⟨⟨zin_mem (h := 62) (by decide +kernel), zin_mem (h := 63) (by decide +kernel), zin_mem (h := 54) (by decide +kernel)⟩, rfl, by decide +kernel, by simp⟩
theorem nwL_10 : zNw RL 10 4 (RX4, TX4, 43) [.int 0, .null, .null, .int 0, .int 0, .null, .null, .null, .null, .int 0, .int 0, .int 0, .null, .null, .null, .null, .null, .null, .int 0, .null, .int 0, .int 0, .int 0, .int 0, .null, .null, .int 0, .null, .null, .null, .int 0, .int 0, .int 0, .int 0, .int 0, .null, .null, .int 0, .int 0, .int 0, .null, .int 0, .int 0] := ⟨⟨zin_mem (h := 560) (by decide +kernel), zin_mem (h := 561) (by decide +kernel), zin_mem (h := 57) (by decide +kernel)⟩, rfl, by decide +kernel, by simp⟩
theorem ciL_9 : zCI RL 9 yX3_init cX3_init 1 0 := ⟨⟨zin_mem (h := 64) (by decide +kernel), zin_mem (h := 65) (by decide +kernel), zin_mem (h := 54) (by decide +kernel), zin_mem (h := 66) (by decide +kernel)⟩, rfl, by decide +kernel, by decide +kernel, by decide +kernel⟩
theorem ciL_12 : zCI RL 12 yX4_init cX4_init 1 0 := ⟨⟨zin_mem (h := 562) (by decide +kernel), zin_mem (h := 563) (by decide +kernel), zin_mem (h := 57) (by decide +kernel), zin_mem (h := 564) (by decide +kernel)⟩, rfl, by decide +kernel, by decide +kernel, by decide +kernel⟩
set_option maxRecDepth 20000 in
theorem yam_ren : ∀ (k : Nat) (y : zE), (yamW 53 yam0)[k]? = some y → (yamW 53 yam0)[k]? = some (zr (zsg (sgN 0) 1 (0 + 1)) y) := by
  intro k y hy
  have hk : k < 53 := (List.getElem?_eq_some_iff.mp hy).1
  match k, hk with
  | 0, _ => cases hy; rfl
  | 1, _ => cases hy; rfl
  | 2, _ => cases hy; rfl
  | 3, _ => cases hy; rfl
  | 4, _ => cases hy; rfl
  | 5, _ => cases hy; rfl
  | 6, _ => cases hy; rfl
  | 7, _ => cases hy; rfl
  | 8, _ => cases hy; rfl
  | 9, _ => cases hy; rfl
  | 10, _ => cases hy; rfl
  | 11, _ => cases hy; rfl
  | 12, _ => cases hy; rfl
  | 13, _ => cases hy; rfl
  | 14, _ => cases hy; rfl
  | 15, _ => cases hy; rfl
  | 16, _ => cases hy; rfl
  | 17, _ => cases hy; rfl
  | 18, _ => cases hy; rfl
  | 19, _ => cases hy; rfl
  | 20, _ => cases hy; rfl
  | 21, _ => cases hy; rfl
  | 22, _ => cases hy; rfl
  | 23, _ => cases hy; rfl
  | 24, _ => cases hy; rfl
  | 25, _ => cases hy; rfl
  | 26, _ => cases hy; rfl
  | 27, _ => cases hy; rfl
  | 28, _ => cases hy; rfl
  | 29, _ => cases hy; rfl
  | 30, _ => cases hy; rfl
  | 31, _ => cases hy; rfl
  | 32, _ => cases hy; rfl
  | 33, _ => cases hy; rfl
  | 34, _ => cases hy; rfl
  | 35, _ => cases hy; rfl
  | 36, _ => cases hy; rfl
  | 37, _ => cases hy; rfl
  | 38, _ => cases hy; rfl
  | 39, _ => cases hy; rfl
  | 40, _ => cases hy; rfl
  | 41, _ => cases hy; rfl
  | 42, _ => cases hy; rfl
  | 43, _ => cases hy; rfl
  | 44, _ => cases hy; rfl
  | 45, _ => cases hy; rfl
  | 46, _ => cases hy; rfl
  | 47, _ => cases hy; rfl
  | 48, _ => cases hy; rfl
  | 49, _ => cases hy; rfl
  | 50, _ => cases hy; rfl
  | 51, _ => cases hy; rfl
  | 52, _ => cases hy; rfl
set_option maxRecDepth 20000 in
theorem md_ren : ∀ (k : Nat) (y : zE), (mdW 0 md0)[k]? = some y → (mdW 53 md0)[k]? = some (zr (zsg (sgN 53) 1 (53 + 1)) y) := by
  intro k y hy
  have hk : k < 22 := (List.getElem?_eq_some_iff.mp hy).1
  match k, hk with
  | 0, _ => cases hy; rfl
  | 1, _ => cases hy; rfl
  | 2, _ => cases hy; rfl
  | 3, _ => cases hy; rfl
  | 4, _ => cases hy; rfl
  | 5, _ => cases hy; rfl
  | 6, _ => cases hy; rfl
  | 7, _ => cases hy; rfl
  | 8, _ => cases hy; rfl
  | 9, _ => cases hy; rfl
  | 10, _ => cases hy; rfl
  | 11, _ => cases hy; rfl
  | 12, _ => cases hy; rfl
  | 13, _ => cases hy; rfl
  | 14, _ => cases hy; rfl
  | 15, _ => cases hy; rfl
  | 16, _ => cases hy; rfl
  | 17, _ => cases hy; rfl
  | 18, _ => cases hy; rfl
  | 19, _ => cases hy; rfl
  | 20, _ => cases hy; rfl
  | 21, _ => cases hy; rfl
def tauL (k : Nat) : Nat := if k < 22 then k + 53 else if k < 75 then k - 22 else k
set_option maxRecDepth 20000 in
theorem tau_sb : zsb tauL (yamW 53 yam0 ++ mdW 53 md0) (LW md0 yam0 []) := by
  refine ⟨fun k x hx => ?_, fun i j hi hj e => ?_⟩
  · have hk : k < 75 := (List.getElem?_eq_some_iff.mp hx).1
    match k, hk with
    | 0, _ => cases hx; rfl
    | 1, _ => cases hx; rfl
    | 2, _ => cases hx; rfl
    | 3, _ => cases hx; rfl
    | 4, _ => cases hx; rfl
    | 5, _ => cases hx; rfl
    | 6, _ => cases hx; rfl
    | 7, _ => cases hx; rfl
    | 8, _ => cases hx; rfl
    | 9, _ => cases hx; rfl
    | 10, _ => cases hx; rfl
    | 11, _ => cases hx; rfl
    | 12, _ => cases hx; rfl
    | 13, _ => cases hx; rfl
    | 14, _ => cases hx; rfl
    | 15, _ => cases hx; rfl
    | 16, _ => cases hx; rfl
    | 17, _ => cases hx; rfl
    | 18, _ => cases hx; rfl
    | 19, _ => cases hx; rfl
    | 20, _ => cases hx; rfl
    | 21, _ => cases hx; rfl
    | 22, _ => cases hx; rfl
    | 23, _ => cases hx; rfl
    | 24, _ => cases hx; rfl
    | 25, _ => cases hx; rfl
    | 26, _ => cases hx; rfl
    | 27, _ => cases hx; rfl
    | 28, _ => cases hx; rfl
    | 29, _ => cases hx; rfl
    | 30, _ => cases hx; rfl
    | 31, _ => cases hx; rfl
    | 32, _ => cases hx; rfl
    | 33, _ => cases hx; rfl
    | 34, _ => cases hx; rfl
    | 35, _ => cases hx; rfl
    | 36, _ => cases hx; rfl
    | 37, _ => cases hx; rfl
    | 38, _ => cases hx; rfl
    | 39, _ => cases hx; rfl
    | 40, _ => cases hx; rfl
    | 41, _ => cases hx; rfl
    | 42, _ => cases hx; rfl
    | 43, _ => cases hx; rfl
    | 44, _ => cases hx; rfl
    | 45, _ => cases hx; rfl
    | 46, _ => cases hx; rfl
    | 47, _ => cases hx; rfl
    | 48, _ => cases hx; rfl
    | 49, _ => cases hx; rfl
    | 50, _ => cases hx; rfl
    | 51, _ => cases hx; rfl
    | 52, _ => cases hx; rfl
    | 53, _ => cases hx; rfl
    | 54, _ => cases hx; rfl
    | 55, _ => cases hx; rfl
    | 56, _ => cases hx; rfl
    | 57, _ => cases hx; rfl
    | 58, _ => cases hx; rfl
    | 59, _ => cases hx; rfl
    | 60, _ => cases hx; rfl
    | 61, _ => cases hx; rfl
    | 62, _ => cases hx; rfl
    | 63, _ => cases hx; rfl
    | 64, _ => cases hx; rfl
    | 65, _ => cases hx; rfl
    | 66, _ => cases hx; rfl
    | 67, _ => cases hx; rfl
    | 68, _ => cases hx; rfl
    | 69, _ => cases hx; rfl
    | 70, _ => cases hx; rfl
    | 71, _ => cases hx; rfl
    | 72, _ => cases hx; rfl
    | 73, _ => cases hx; rfl
    | 74, _ => cases hx; rfl
  · have hi : i < 75 := hi
    have hj : j < 75 := hj
    unfold tauL at e
    split at e <;> split at e <;> (try split at e) <;> (try split at e) <;> omega
