/-! the class's public methods, 5: of, count, edge -/
theorem nI_ne {a b : Nat} (ha : a < 2 ^ 31) (hb : b < 2 ^ 31) (h : a ≠ b) : ¬ nI a = nI b := fun e => h ((nI_eq ha hb).mp e)
theorem isN_lt {j k : Nat} (hj : j < 2 ^ 31) (hk : k < 2 ^ 31) : isN (nI j) k = true ↔ j < k := by
  unfold isN
  rw [decide_eq_true_eq, nI_leI hk hj]
  exact ⟨fun h => by omega, fun h => ⟨nI_pos hj, by omega⟩⟩
section PUB5
variable {l : Launch} {D : va_G} {C : zC} {Y : zY} {RL : List zRu} {S : zF} {c : Nat}
theorem sOf_d {S : zF} {p w : Int32} (h : isN p (S.1.1 3) = true) (hw : w.toInt < 0 ∨ 4 < w.toInt) : sOf S p w = sRf S 2 := by
  have hn : ∀ k, k ≤ 4 → ¬ w = nI k := fun k hk e => by
    have : w.toInt = k := by rw [e]; exact nI_toInt (by omega)
    omega
  rw [sOf, if_pos h, if_neg (hn 0 (by omega)), if_neg (hn 1 (by omega)), if_neg (hn 2 (by omega)), if_neg (hn 3 (by omega)), if_neg (hn 4 (by omega))]
set_option maxRecDepth 10000 in
theorem y_of (h : repY RL Y S c) (hc : c ≤ 100) {p w : Int32} : zPub l D C yX3_of cX3_of 3 1 [.int p, .int w] Y RL c (sOf S p w) := by
  have hI := h.2.1.1
  have hT := h.2.1.2
  have hWb : S.1.1 0 ≤ 6 := hT.1.1
  have hnb : S.1.1 3 ≤ 8 := hT.1.2.2.2.2.1
  have hrb : S.1.1 2 ≤ 10 := hT.1.2.2.2.1
  have e0 : (Y.1 0).1 0 = nI (S.1.1 0) := hI.1.1
  have e3 : (Y.1 0).1 3 = nI (S.1.1 2) := hI.1.2.2.2.1
  have e4 : (Y.1 0).1 4 = nI (S.1.1 3) := hI.1.2.2.2.2.1
  have e5 : (Y.1 0).1 5 = nI (S.1.1 4) := hI.1.2.2.2.2.2.1
  have hy30 : S.1.1 4 < 2 ^ 30 := by have := hT.1.2.2.2.2.2.1; omega
  have hmo := rep_mono h (Nat.le_succ c)
  refine zFun_of (by decide) oX3_of tbX3 (Nat.le_of_ble_eq_true rfl) (fun Z o => ?_)
  refine o.run 100 [] ?_
  show Z _ _ _ _
  refine o.cV vX3_120 (c_isPerson (x := p) e4) (fun w' rv _ hpo => ?_)
  obtain ⟨rfl, rfl⟩ := hpo
  refine o.run 100 [14] ⟨fun q => ?_, fun q => ?_⟩
  · have hp := zB_t q
    obtain ⟨ep, hpl⟩ := isN_cl (by omega) hp
    obtain ⟨pn, hpn⟩ : ∃ k, k = cl p := ⟨_, rfl⟩
    rw [← hpn] at ep hpl
    subst ep
    refine o.run 100 [48, 58, 68, 78, 109, 119] ⟨⟨fun a => ?_, fun a => ?_, fun a => ?_, fun a => ?_, fun a => ?_, trivial⟩, fun a => ?_⟩
    · have a : w = nI 0 := a
      refine o.run 100 [] ⟨pn, rfl, by omega, pret (A' := ((Y.1 0).2.1 2 pn, S)) ?_ Y hmo⟩
      rw [sOf, if_pos hp, if_pos a, ← hpn, hI.2.1.2.2.1]
    · have a : w = nI 1 := a
      refine o.run 100 [] ⟨pn, rfl, by omega, pret (A' := ((Y.1 0).2.1 3 pn, S)) ?_ Y hmo⟩
      subst a
      rw [sOf, if_pos hp, if_neg (by decide), if_pos rfl, ← hpn, hI.2.1.2.2.2.1]
    · have a : w = nI 2 := a
      refine o.run 100 [] ⟨pn, rfl, by omega, pret (A' := ((Y.1 0).2.1 4 pn, S)) ?_ Y hmo⟩
      subst a
      rw [sOf, if_pos hp, if_neg (by decide), if_neg (by decide), if_pos rfl, ← hpn, hI.2.1.2.2.2.2.1]
    · have a : w = nI 3 := a
      refine o.run 100 [] ⟨pn, rfl, by omega, ?_⟩
      show Z _ (yamW 53 Y ++ pol 53 RL) _ [.int ((Y.1 0).1 5), .ref 1, .int ((Y.1 0).2.1 2 pn), .ref 1]
      rw [e5, hI.2.1.2.2.1]
      refine o.yAr 0 (by omega) (rest := [.int (nI (S.1.2.2.1 1 pn)), .ref 1]) vX3_87 (c_weatherOf (I := Y.1 0) (y := S.1.1 4) (s0 := 0) (L := S.1.1 1) hy30 (Nat.zero_le _) hT.1.2.1 hT.1.2.2.1 hI.1.2.1 hI.1.2.2.1) (fun rv hpo => ?_)
      rw [hI.2.1.2.1] at hpo
      subst hpo
      show Z _ (yamW 53 Y ++ pol 53 RL) _ [.int (nI (S.1.2.2.1 0 ((S.1.1 4 - 0) % S.1.1 1))), .int (nI (S.1.2.2.1 1 pn)), .ref 1]
      refine o.yAr 0 (by omega) vX3_71 (c_bringsOf (I := Y.1 0) (w := S.1.2.2.1 1 pn) (t := S.1.2.2.1 0 ((S.1.1 4 - 0) % S.1.1 1)) (hT.2.2.1 _).2.1 (hT.2.2.1 _).1) (fun rv hpo => ?_)
      subst hpo
      refine o.run 100 [] (pret (A' := ((Y.1 0).2.1 0 (S.1.2.2.1 1 pn * 4 + S.1.2.2.1 0 ((S.1.1 4 - 0) % S.1.1 1)), S)) ?_ Y hmo)
      subst a
      rw [sOf, if_pos hp, if_neg (by decide), if_neg (by decide), if_neg (by decide), if_pos rfl, ← hpn, hI.2.1.1]
      rfl
    · have a : w = nI 4 := a
      refine o.run 100 [] ⟨pn, rfl, by omega, pret (A' := ((Y.1 0).2.1 5 pn, S)) ?_ Y hmo⟩
      subst a
      rw [sOf, if_pos hp, if_neg (by decide), if_neg (by decide), if_neg (by decide), if_neg (by decide), if_pos rfl, ← hpn, hI.2.1.2.2.2.2.2]
    · refine o.run 100 [] ?_
      show Z _ _ _ _
      refine o.cV vX3_48 (c_refuse (k := 2) (by omega) (by omega)) (fun w' rv _ hpo => ?_)
      obtain ⟨rfl, rfl⟩ := hpo
      exact o.run 100 [] (pret (A' := sRf S 2) (sOf_d hp a) _ (rep_rf h 2))
  · refine o.run 100 [] ?_
    show Z _ _ _ _
    refine o.cV vX3_48 (c_refuse (k := 1) (by omega) (by omega)) (fun w' rv _ hpo => ?_)
    obtain ⟨rfl, rfl⟩ := hpo
    exact o.run 100 [] (pret (A' := sRf S 1) (by rw [sOf, (zB_0 _).mp q]; rfl) _ (rep_rf h 1))

theorem sCount_d {S : zF} {w : Int32} (hw : w.toInt < 0 ∨ 7 < w.toInt) : sCount S w = if nI 11 ≤ w ∧ w ≤ nI 16 then (S.2.2.2 (cl w - 10), S) else (zi (-9), S) := by
  have hn : ∀ k, k ≤ 7 → ¬ w = nI k := fun k hk e => by
    have : w.toInt = k := by rw [e]; exact nI_toInt (by omega)
    omega
  rw [sCount, if_neg (hn 0 (by omega)), if_neg (hn 1 (by omega)), if_neg (hn 2 (by omega)), if_neg (hn 3 (by omega)), if_neg (hn 4 (by omega)), if_neg (hn 5 (by omega)), if_neg (hn 6 (by omega)), if_neg (hn 7 (by omega))]
set_option maxRecDepth 10000 in
theorem y_count (h : repY RL Y S c) (hc : c ≤ 100) {w : Int32} : zPub l D C yX3_count cX3_count 2 1 [.int w] Y RL c (sCount S w) := by
  have hI := h.2.1.1
  have hT := h.2.1.2
  have hWb : S.1.1 0 ≤ 6 := hT.1.1
  have hnb : S.1.1 3 ≤ 8 := hT.1.2.2.2.2.1
  have hrb : S.1.1 2 ≤ 10 := hT.1.2.2.2.1
  have e0 : (Y.1 0).1 0 = nI (S.1.1 0) := hI.1.1
  have e3 : (Y.1 0).1 3 = nI (S.1.1 2) := hI.1.2.2.2.1
  have e4 : (Y.1 0).1 4 = nI (S.1.1 3) := hI.1.2.2.2.2.1
  have e5 : (Y.1 0).1 5 = nI (S.1.1 4) := hI.1.2.2.2.2.2.1
  have hy30 : S.1.1 4 < 2 ^ 30 := by have := hT.1.2.2.2.2.2.1; omega
  have hmo := rep_mono h (Nat.le_succ c)
  refine zFun_of (by decide) oX3_count tbX3 (Nat.le_of_ble_eq_true rfl) (fun Z o => ?_)
  refine o.run 100 [48, 56, 64, 72, 80, 88, 96, 104, 112] ⟨⟨fun a => ?_, fun a => ?_, fun a => ?_, fun a => ?_, fun a => ?_, fun a => ?_, fun a => ?_, fun a => ?_, trivial⟩, fun a => ?_⟩
  · obtain rfl : w = nI 0 := a
    refine o.run 100 [] (pret (A' := ((Y.1 0).1 0, S)) ?_ Y hmo)
    rw [sCount, if_pos rfl, e0]
  · obtain rfl : w = nI 1 := a
    refine o.run 100 [] (pret (A' := ((Y.1 0).1 4, S)) ?_ Y hmo)
    rw [sCount, if_neg (by decide), if_pos rfl, e4]
  · obtain rfl : w = nI 2 := a
    refine o.run 100 [] (pret (A' := ((Y.1 0).1 3, S)) ?_ Y hmo)
    rw [sCount, if_neg (by decide), if_neg (by decide), if_pos rfl, e3]
  · obtain rfl : w = nI 3 := a
    refine o.run 100 [] (pret (A' := ((Y.1 0).1 5, S)) ?_ Y hmo)
    rw [sCount, if_neg (by decide), if_neg (by decide), if_neg (by decide), if_pos rfl, e5]
  · obtain rfl : w = nI 4 := a
    refine o.run 100 [] (pret (A' := ((Y.1 0).1 1, S)) ?_ Y hmo)
    rw [sCount, if_neg (by decide), if_neg (by decide), if_neg (by decide), if_neg (by decide), if_pos rfl, hI.1.2.1]
  · obtain rfl : w = nI 5 := a
    refine o.run 100 [] (pret (A' := ((Y.1 0).1 6, S)) ?_ Y hmo)
    rw [sCount, if_neg (by decide), if_neg (by decide), if_neg (by decide), if_neg (by decide), if_neg (by decide), if_pos rfl, hI.1.2.2.2.2.2.2.1]
  · obtain rfl : w = nI 6 := a
    refine o.run 100 [] ?_
    show Z _ _ _ _
    refine o.yAr 0 (by omega) vX3_217 (c_allBrought (I := Y.1 0) (n := S.1.1 3) hnb e4) (fun rv hpo => ?_)
    subst hpo
    refine o.run 100 [] (pret (A' := (sm ((Y.1 0).2.1 5) (S.1.1 3), S)) ?_ Y hmo)
    rw [sCount, if_neg (by decide), if_neg (by decide), if_neg (by decide), if_neg (by decide), if_neg (by decide), if_neg (by decide), if_pos rfl, hI.2.1.2.2.2.2.2]
  · obtain rfl : w = nI 7 := a
    refine o.run 100 [] (pret (A' := (Y.2.2 0, S)) ?_ Y hmo)
    rw [sCount, if_neg (by decide), if_neg (by decide), if_neg (by decide), if_neg (by decide), if_neg (by decide), if_neg (by decide), if_neg (by decide), if_pos rfl, h.2.2.2.1.1]
  · have hs := sCount_d (S := S) a
    refine o.run 100 [] ⟨fun q => ?_, fun q => ⟨fun q2 => ?_, fun q2 => ?_⟩⟩
    · have q : w < nI 11 := q
      refine pret (A' := (zi (-9), S)) ?_ Y hmo
      rw [hs, if_neg (fun z => Int32.not_le.mpr q z.1)]
    · have q2 : nI 16 < w := q2
      refine pret (A' := (zi (-9), S)) ?_ Y hmo
      rw [hs, if_neg (fun z => Int32.not_le.mpr q2 z.2)]
    · have q : ¬ w < nI 11 := q
      have q2 : ¬ nI 16 < w := q2
      have h0 : ¬ w < 0 := fun z => q (Int32.lt_trans z (by decide))
      obtain ⟨k, hk, rfl⟩ := nI_of h0
      rw [nI_ltI (by omega) (by omega)] at q q2
      refine ⟨k - 10, by show nI k - nI 10 = _; rw [pk_sub (by omega)], by omega, ?_⟩
      refine pret (A' := (Y.2.1 2 (k - 10), S)) ?_ Y hmo
      rw [hs, if_pos ⟨nI_le (by omega) (by omega), nI_le (by omega) (by omega)⟩, h.2.2.2.2, show cl (nI k) = k from nI_clamp (by omega)]

theorem ed_fr {RL : List zRu} {I : zI} {t : zT} {c m x y r L : Nat} (h : repI RL I t) (ht : okT t c) (hr : r < t.1 2) : frI RL I (t.1 0) (t.1 3) (t.1 4) (t.1 4) (2 * L) (t.1 5) (skE L x y (t.2.2.1 0)) (t.2.2.1 1) (rPart (t.1 3) r r 0 (ruT t)) m = edF t x y m r L := by
  have e : gaI RL I (t.1 0) (t.1 3) (t.1 4) (t.1 4) (2 * L) (t.1 5) (skE L x y (t.2.2.1 0)) (t.2.2.1 1) (rPart (t.1 3) r r 0 (ruT t)) m = rG t nob (t.2.2.2.1 0) (t.1 5) (allR t r) (edT t L x y) m := by
    rw [ga_eq (bl := nob) (se := t.2.2.2.1 0) h.2.1.1 (rep_dn h (rPart_lt hr hr)) (rep_see h ht)]
    congr 1
    funext i
    show skE L x y (t.2.2.1 0) ((t.1 4 + i - t.1 4) % (2 * L)) = _
    rw [Nat.add_sub_cancel_left]
    rfl
  exact congrArg (fun f => sm f (t.1 3)) e
set_option maxRecDepth 10000 in
theorem y_edge (h : repY RL Y S c) (hc : c ≤ 100) {a b w x : Int32} : zPub l D C yX3_edge cX3_edge 9 6 [.int a, .int b, .int w, .int x] Y RL c (sEdge S a b w x) := by
  have hI := h.2.1.1
  have hT := h.2.1.2
  have hWb : S.1.1 0 ≤ 6 := hT.1.1
  have hnb : S.1.1 3 ≤ 8 := hT.1.2.2.2.2.1
  have hrb : S.1.1 2 ≤ 10 := hT.1.2.2.2.1
  have e0 : (Y.1 0).1 0 = nI (S.1.1 0) := hI.1.1
  have e3 : (Y.1 0).1 3 = nI (S.1.1 2) := hI.1.2.2.2.1
  have e4 : (Y.1 0).1 4 = nI (S.1.1 3) := hI.1.2.2.2.2.1
  have e5 : (Y.1 0).1 5 = nI (S.1.1 4) := hI.1.2.2.2.2.2.1
  have hy30 : S.1.1 4 < 2 ^ 30 := by have := hT.1.2.2.2.2.2.1; omega
  have hmo := rep_mono h (Nat.le_succ c)
  have hR := h.1
  refine zFun_of (by decide) oX3_edge tbX3 (Nat.le_of_ble_eq_true rfl) (fun Z o => ?_)
  have bad : ¬ ((isN a (S.1.1 2) && isN b (S.1.1 2)) = true ∧ ¬ w < 0 ∧ cl w / 10 < 4 ∧ cl w % 10 < 4) → ∀ x5 x6 x7 x8, Z 22 (yamW 53 Y ++ pol 53 RL) [some (.ref 0), some (.int a), some (.int b), some (.int w), some (.int x), x5, x6, x7, x8] [.int (zi (-1)), .ref 0] := fun hf x5 x6 x7 x8 => by
    refine o.cV vX3_48 (c_refuse (k := 1) (by omega) (by omega)) (fun w' rv _ hpo => ?_)
    obtain ⟨rfl, rfl⟩ := hpo
    exact o.run 100 [] (pret (A' := sRf S 1) (by rw [sEdge, if_neg hf]) _ (rep_rf h 1))
  have bad2 : ¬ ((isN a (S.1.1 2) && isN b (S.1.1 2)) = true ∧ ¬ w < 0 ∧ cl w / 10 < 4 ∧ cl w % 10 < 4) → ∀ x5 x6 x7 x8, Z 63 (yamW 53 Y ++ pol 53 RL) [some (.ref 0), some (.int a), some (.int b), some (.int w), some (.int x), some (.int x5), some (.int x6), x7, x8] [] := fun hf x5 x6 x7 x8 => by
    refine o.run 100 [] ⟨fun q => absurd q (by decide), fun _ => ?_⟩
    show Z _ _ _ _
    refine o.cV vX3_48 (c_refuse (k := 1) (by omega) (by omega)) (fun w' rv _ hpo => ?_)
    obtain ⟨rfl, rfl⟩ := hpo
    exact o.run 100 [] (pret (A' := sRf S 1) (by rw [sEdge, if_neg hf]) _ (rep_rf h 1))
  have good : ∀ wn, w = nI wn → wn < 2 ^ 31 → wn / 10 < 4 → wn % 10 < 4 → (isN a (S.1.1 2) && isN b (S.1.1 2)) = true → ∀ x7 x8, Z 54 (yamW 53 Y ++ pol 53 RL) [some (.ref 0), some (.int a), some (.int b), some (.int w), some (.int x), some (.int (nI (wn / 10))), some (.int (nI (wn % 10))), x7, x8] [] := fun wn hw hw31 hd hm hab x7 x8 => by
    subst hw
    have hclw : cl (nI wn) = wn := nI_clamp hw31
    have hcond : (isN a (S.1.1 2) && isN b (S.1.1 2)) = true ∧ ¬ nI wn < 0 ∧ cl (nI wn) / 10 < 4 ∧ cl (nI wn) % 10 < 4 := ⟨hab, by rw [← nI_0, nI_ltI (by omega) (by omega)]; omega, by rw [hclw]; exact hd, by rw [hclw]; exact hm⟩
    obtain ⟨hq1, hq2⟩ := Bool.and_eq_true_iff.mp hab
    obtain ⟨ea, hal⟩ := isN_cl (by omega) hq1
    obtain ⟨eb, hbl⟩ := isN_cl (by omega) hq2
    obtain ⟨an, han⟩ : ∃ k, k = cl a := ⟨_, rfl⟩
    obtain ⟨bn, hbn⟩ : ∃ k, k = cl b := ⟨_, rfl⟩
    rw [← han] at ea hal
    rw [← hbn] at eb hbl
    subst ea eb
    by_cases hz : whK x (S.1.1 3) = 0
    · obtain ⟨m, rfl, hm1, hm2, hn0⟩ := wh0 hz
      have hcl : cl (nI m) = m := nI_clamp (by omega)
      have hM := rep_okM hR hI hT hc hm2
      have hA : ∀ f, sRun S (nI m) f = f m := fun f => by rw [sRun, if_pos hz, hcl]
      refine o.run 100 [] ?_
      show Z _ _ _ _
      refine o.cV vX3_151 (c_whyNoRun (x := nI m) hnb e4) (fun w' rv _ hpo => ?_)
      obtain ⟨rfl, rfl⟩ := hpo
      rw [whR_0 hz]
      let fa : Nat → Int32 := fun L => edF S.1 (wn / 10) (wn % 10) m an L
      let fb : Nat → Int32 := fun L => edF S.1 (wn / 10) (wn % 10) m bn L
      let f : Nat → Bool := fun L => decide (fb L < fa L)
      have eE : sEdge S (nI an) (nI bn) (nI wn) (nI m) = (fndI (fnd f 12 1), S) := by
        rw [sEdge, if_pos hcond, hA, hclw, ← han, ← hbn]
      obtain ⟨ra, hra⟩ := rep_rule hI hal
      obtain ⟨rb, hrb2⟩ := rep_rule hI hbl
      have loop : ∀ j i, i + j = 13 → 1 ≤ i → fnd f j i = fnd f 12 1 → ∀ M, Z 81 (yamW 53 (setJ Y 3 M) ++ pol 53 RL) [some (.ref 0), some (.int (nI an)), some (.int (nI bn)), some (.int (nI wn)), some (.int (nI m)), some (.int (nI (wn / 10))), some (.int (nI (wn % 10))), some (.int (nI 0)), some (.int (nI i))] [] := by
        intro j
        induction j with
        | zero =>
          intro i hi h1 hf M
          obtain rfl : i = 13 := by omega
          have e : sEdge S (nI an) (nI bn) (nI wn) (nI m) = (zi (-9), S) := by
            rw [eE, ← hf]; rfl
          exact o.run 100 [] ⟨fun _ => ⟨⟨_, rfl, rfl⟩, rfl, ⟨setJ Y 3 M, rfl, by rw [e]; exact hmo⟩, by rw [e]⟩, fun q => absurd (nI_lt (a := 12) (b := 13) (by omega) (by omega)) q⟩
        | succ j ih =>
          intro i hi h1 hf M
          refine o.run 100 [] ⟨fun q => absurd q (nI_nlt (a := 12) (b := i) (by omega) (by omega)), fun _ => ?_⟩
          show Z _ _ _ _
          refine o.cV vX3_194 (c_faresUnder (Y := setJ Y 3 M) (T := i) (x := wn / 10) (z := wn % 10) (r := an) hM (by omega) (by omega) hd hm (by omega) hra) (fun w' rv _ hpo => ?_)
          obtain ⟨⟨M2, rfl⟩, rfl⟩ := hpo
          refine o.run 100 [] ?_
          show Z _ _ _ _
          refine o.cV (rest := [.int _]) vX3_194 (c_faresUnder (Y := setJ Y 3 M2) (T := i) (x := wn / 10) (z := wn % 10) (r := bn) hM (by omega) (by omega) hd hm (by omega) hrb2) (fun w' rv _ hpo => ?_)
          obtain ⟨⟨M3, rfl⟩, rfl⟩ := hpo
          have ga : frI RL (Y.1 0) (S.1.1 0) (S.1.1 3) (S.1.1 4) (S.1.1 4) (2 * i) (S.1.1 5) (skE i (wn / 10) (wn % 10) (S.1.2.2.1 0)) (S.1.2.2.1 1) (rPart (S.1.1 3) an an 0 (ruT S.1)) m = fa i := ed_fr hI hT hal
          have gb : frI RL (Y.1 0) (S.1.1 0) (S.1.1 3) (S.1.1 4) (S.1.1 4) (2 * i) (S.1.1 5) (skE i (wn / 10) (wn % 10) (S.1.2.2.1 0)) (S.1.2.2.1 1) (rPart (S.1.1 3) bn bn 0 (ruT S.1)) m = fb i := ed_fr hI hT hbl
          show Z _ (yamW 53 (setJ Y 3 M3) ++ pol 53 RL) _ [.int (frI RL (Y.1 0) (S.1.1 0) (S.1.1 3) (S.1.1 4) (S.1.1 4) (2 * i) (S.1.1 5) (skE i (wn / 10) (wn % 10) (S.1.2.2.1 0)) (S.1.2.2.1 1) (rPart (S.1.1 3) bn bn 0 (ruT S.1)) m), .int (frI RL (Y.1 0) (S.1.1 0) (S.1.1 3) (S.1.1 4) (S.1.1 4) (2 * i) (S.1.1 5) (skE i (wn / 10) (wn % 10) (S.1.2.2.1 0)) (S.1.2.2.1 1) (rPart (S.1.1 3) an an 0 (ruT S.1)) m)]
          rw [ga, gb]
          refine o.run 100 [81] ⟨fun q => ?_, fun q => ?_⟩
          · have q : fa i ≤ fb i := q
            have hfi : f i = false := decide_eq_false (Int32.not_lt.mpr q)
            have := ih (i + 1) (by omega) (by omega) (by rw [← hf, fnd, hfi]; rfl) M3
            rw [← nI_1 i] at this
            exact this
          · have q : ¬ fa i ≤ fb i := q
            have hfi : f i = true := decide_eq_true (Int32.not_le.mp q)
            refine pret (Y' := setJ Y 3 M3) (A' := (nI i, S)) ?_ hmo
            rw [eE, ← hf, fnd, if_pos hfi]; rfl
      exact o.run 100 [81] ⟨fun _ => loop 12 1 (by omega) (by omega) rfl (Y.1 3), fun q => absurd nI_0 q⟩
    · obtain ⟨hk1, hkp, hk7, hk0⟩ := whR_k hz
      refine o.run 100 [] ?_
      show Z _ _ _ _
      refine o.cV vX3_151 (c_whyNoRun (x := x) hnb e4) (fun w' rv _ hpo => ?_)
      obtain ⟨rfl, rfl⟩ := hpo
      rw [hk1]
      refine o.run 100 [] ⟨fun q => absurd q hk0, fun _ => ?_⟩
      show Z _ _ _ _
      refine o.cV vX3_48 (c_refuse (k := (whK x (S.1.1 3))) hkp hk7) (fun w' rv _ hpo => ?_)
      obtain ⟨rfl, rfl⟩ := hpo
      exact o.run 100 [] (pret (A' := sRf S (whK x (S.1.1 3))) (by rw [sEdge, if_pos hcond, sRun, if_neg hz]) _ (rep_rf h (whK x (S.1.1 3))))
  refine o.run 100 [] ?_
  show Z _ _ _ _
  refine o.cV vX3_111 (c_isRule (x := a) e3) (fun w' rv _ hpo => ?_)
  obtain ⟨rfl, rfl⟩ := hpo
  refine o.run 100 [22] ⟨fun q => bad (fun z => ?_) _ _ _ _, fun q => ?_⟩
  · rw [(zB_0 _).mp q] at z; exact absurd z.1 (by simp)
  have hq1 := zB_t q
  show Z _ _ _ _
  refine o.cV vX3_111 (c_isRule (x := b) e3) (fun w' rv _ hpo => ?_)
  obtain ⟨rfl, rfl⟩ := hpo
  refine o.run 100 [22, 26] ⟨fun q => bad (fun z => ?_) _ _ _ _, fun q => ⟨fun q2 => ?_, fun q2 => bad (fun z => z.2.1 (Int32.not_le.mp q2)) _ _ _ _⟩⟩
  · rw [(zB_0 _).mp q, Bool.and_false] at z; exact absurd z.1 (by simp)
  have hab : (isN a (S.1.1 2) && isN b (S.1.1 2)) = true := by rw [hq1, zB_t q]; rfl
  obtain ⟨wn, hw31, rfl⟩ := nI_of (Int32.not_lt.mpr q2)
  have hclw : cl (nI wn) = wn := nI_clamp hw31
  have ed1 : nI wn / nI 10 = nI (wn / 10) := pk_div hw31 (by omega) (by omega)
  have ed2 : nI wn - nI wn / nI 10 * nI 10 = nI (wn % 10) := pk_rem hw31 (by omega) (by omega)
  refine o.run 100 [] ⟨by decide, by decide, ?_⟩
  show Z 40 (yamW 53 Y ++ pol 53 RL) [some (.ref 0), some (.int a), some (.int b), some (.int (nI wn)), some (.int x), some (.int (nI wn / nI 10)), some (.int (nI wn - nI wn / nI 10 * nI 10)), none, none] [.int (nI wn / nI 10)]
  rw [ed2, ed1]
  refine o.cS vX3_64 (c_isWeather (x := nI (wn / 10))) (fun rv hpo => ?_)
  subst hpo
  refine o.run 100 [63] ⟨fun q => bad2 (fun z => ?_) _ _ _ _, fun q => ?_⟩
  · have h4 := (zB_0 _).mp q
    have h5 := z.2.2.1
    rw [hclw] at h5
    exact absurd ((isN_lt (by omega) (by omega)).mpr h5) (by rw [h4]; simp)
  have hd := (isN_lt (by omega) (by omega)).mp (zB_t q)
  show Z _ _ _ _
  refine o.cS vX3_64 (c_isWeather (x := nI (wn % 10))) (fun rv hpo => ?_)
  subst hpo
  refine o.run 100 [54, 63] ⟨fun q => bad2 (fun z => ?_) _ _ _ _, fun q => ?_⟩
  · have h4 := (zB_0 _).mp q
    have h5 := z.2.2.2
    rw [hclw] at h5
    exact absurd ((isN_lt (by omega) (by omega)).mpr h5) (by rw [h4]; simp)
  have hm := (isN_lt (by omega) (by omega)).mp (zB_t q)
  exact good wn rfl hw31 hd hm hab _ _
end PUB5
