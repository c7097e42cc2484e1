/-! the class's public methods, 4 -/
theorem rep_see2 {RL : List zRu} {I : zI} {t : zT} {c sh : Nat} {bl : Nat → Bool} {se : Nat → Int32} (ht : okT t c) (h4 : ∀ p, p < t.1 3 → I.2.1 4 p = se p) (h7 : ∀ o, o < 8 → sb (I.1 7) o = bl o) : ∀ y p o, p < t.1 3 → o < t.1 3 → sb (seB sh y (I.2.1 4 p) (I.1 7) p) o = seeS sh bl se y p o := fun y p o hp ho => by
  have hn : t.1 3 ≤ 8 := ht.1.2.2.2.2.1
  rw [see_class (by omega) (by omega), h7 o (by omega), h4 p hp]
  rfl
section PUB4
variable {l : Launch} {D : va_G} {C : zC} {Y : zY} {RL : List zRu} {S : zF} {c : Nat}
set_option maxRecDepth 10000 in
theorem y_bestRule (h : repY RL Y S c) (hc : c ≤ 100) {x : Int32} : zPub l D C yX3_bestRule cX3_bestRule 7 6 [.int x] Y RL c (sBestRule S x) := by
  have hI := h.2.1.1
  have hT := h.2.1.2
  have hWb : S.1.1 0 ≤ 6 := hT.1.1
  have hnb : S.1.1 3 ≤ 8 := hT.1.2.2.2.2.1
  have hrb : S.1.1 2 ≤ 10 := hT.1.2.2.2.1
  have e0 : (Y.1 0).1 0 = nI (S.1.1 0) := hI.1.1
  have e3 : (Y.1 0).1 3 = nI (S.1.1 2) := hI.1.2.2.2.1
  have e4 : (Y.1 0).1 4 = nI (S.1.1 3) := hI.1.2.2.2.2.1
  have hR := h.1
  refine zFun_of (by decide) oX3_bestRule tbX3 (Nat.le_of_ble_eq_true rfl) (fun Z o => ?_)
  by_cases hz : whK x (S.1.1 3) = 0
  · obtain ⟨m, rfl, hm1, hm2, hn0⟩ := wh0 hz
    have hcl : cl (nI m) = m := nI_clamp (by omega)
    have hM := rep_okM hR hI hT hc hm2
    have hA : ∀ f, sRun S (nI m) f = f m := fun f => by rw [sRun, if_pos hz, hcl]
    refine o.run 100 [] ?_
    show Z _ _ _ _
    refine o.cV vX3_151 (c_whyNoRun (x := nI m) hnb e4) (fun w' rv _ hpo => ?_)
    obtain ⟨rfl, rfl⟩ := hpo
    rw [whR_0 hz]
    refine o.run 100 [24] ⟨fun _ => ?_, fun q => absurd nI_0 q⟩
    have hrl : ∀ p, p < S.1.1 3 → ruT S.1 p < S.1.1 2 := fun p hp => (hT.2.2.2.1 p hp).1
    have hrc : 0 < S.1.1 2 := by have := hrl 0 hn0; omega
    let f : Nat → Int32 := fun r => rFn S.1 (allR S.1 r) m
    have ef : ∀ r, r < S.1.1 2 → frI RL (Y.1 0) (S.1.1 0) (S.1.1 3) (S.1.1 4) 0 (S.1.1 1) (S.1.1 5) (S.1.2.2.1 0) (S.1.2.2.1 1) (rPart (S.1.1 3) r r 0 (ruT S.1)) m = f r := fun r hr => rep_fr hI hT (rPart_lt hr hr)
    have call : ∀ r, r < S.1.1 2 → ∀ best most x6 M, (∀ M2, Z 48 (yamW 53 (setJ Y 3 M2) ++ pol 53 RL) [some (.ref 0), some (.int (nI m)), some (.int (nI 0)), some (.int best), some (.int most), some (.int (nI r)), some (.int (f r))] []) → Z 43 (yamW 53 (setJ Y 3 M) ++ pol 53 RL) [some (.ref 0), some (.int (nI m)), some (.int (nI 0)), some (.int best), some (.int most), some (.int (nI r)), x6] [.int (nI m), .int (nI 0), .int (nI r), .int (nI r), .ref 0] := fun r hr best most x6 M kk => by
      obtain ⟨ra, hra⟩ := rep_rule hI hr
      refine o.cV vX3_185 (c_faresInParts (Y := setJ Y 3 M) (a := r) (b := r) (k := 0) hM (by omega) (by omega) (by omega) hra hra) (fun w' rv _ hpo => ?_)
      obtain ⟨⟨M2, rfl⟩, rfl⟩ := hpo
      have := kk M2
      rw [← ef r hr] at this
      exact o.run 100 [48] this
    have loop : ∀ j k, k + 1 + j = S.1.1 2 → ∀ x6 M, Z 24 (yamW 53 (setJ Y 3 M) ++ pol 53 RL) [some (.ref 0), some (.int (nI m)), some (.int (nI 0)), some (.int (nI (amx f k))), some (.int (f (amx f k))), some (.int (nI (k + 1))), x6] [] := by
      intro j
      induction j with
      | zero =>
        intro k hk x6 M
        have e : sBestRule S (nI m) = (nI (amx f k), S) := by
          rw [sBestRule, hA, show S.1.1 2 - 1 = k by omega]
        exact o.run 100 [] ⟨fun _ => ⟨⟨_, rfl, rfl⟩, rfl, ⟨setJ Y 3 M, rfl, by rw [e]; exact rep_mono h (Nat.le_succ c)⟩, by rw [e]⟩, fun q => absurd (by show (Y.1 0).1 3 ≤ _; rw [e3]; exact nI_le (by omega) (by omega)) q⟩
      | succ j ih =>
        intro k hk x6 M
        refine o.run 100 [43] ⟨fun q => absurd q (by show ¬ (Y.1 0).1 3 ≤ _; rw [e3]; exact nI_ge (by omega) (by omega)), fun _ => call (k + 1) (by omega) _ _ x6 M (fun M2 => ?_)⟩
        refine o.run 100 [24] ⟨fun q => ?_, fun q => ?_⟩
        · have := ih (k + 1) (by omega) (some (.int (f (k + 1)))) M2
          have q : f (k + 1) ≤ f (amx f k) := q
          rw [show amx f (k + 1) = amx f k by rw [amx, if_neg (Int32.not_lt.mpr q)], ← nI_1 (k + 1)] at this
          exact this
        · have := ih (k + 1) (by omega) (some (.int (f (k + 1)))) M2
          have q : ¬ f (k + 1) ≤ f (amx f k) := q
          rw [show amx f (k + 1) = k + 1 by rw [amx, if_pos (Int32.not_le.mp q)], ← nI_1 (k + 1)] at this
          exact this
    show Z 24 (yamW 53 Y ++ pol 53 RL) [some (.ref 0), some (.int (nI m)), some (.int (nI 0)), some (.int (nI 0)), some (.int (zi (-1))), some (.int (nI 0)), none] []
    refine o.run 100 [43] ⟨fun q => absurd q (by show ¬ (Y.1 0).1 3 ≤ nI 0; rw [e3]; exact nI_ge (by omega) (by omega)), fun _ => call 0 hrc (nI 0) (zi (-1)) none (Y.1 3) (fun M2 => ?_)⟩
    refine o.run 100 [24] ⟨fun q => ?_, fun q => loop (S.1.1 2 - 1) 0 (by omega) _ M2⟩
    have q : f 0 ≤ zi (-1) := q
    exact absurd (Int32.le_trans (rF_pos hT hm2 _ _ _ _ _) q) (by decide)
  · obtain ⟨hk1, hkp, hk7, hk0⟩ := whR_k hz
    refine o.run 100 [] ?_
    show Z _ _ _ _
    refine o.cV vX3_151 (c_whyNoRun (x := x) hnb e4) (fun w' rv _ hpo => ?_)
    obtain ⟨rfl, rfl⟩ := hpo
    rw [hk1]
    refine o.run 100 [] ⟨fun q => absurd q hk0, fun _ => ?_⟩
    show Z _ _ _ _
    refine o.cV vX3_48 (c_refuse (k := (whK x (S.1.1 3))) hkp hk7) (fun w' rv _ hpo => ?_)
    obtain ⟨rfl, rfl⟩ := hpo
    exact o.run 100 [] (pret (A' := sRf S (whK x (S.1.1 3))) (by rw [sBestRule, sRun, if_neg hz]) _ (rep_rf h (whK x (S.1.1 3))))

set_option maxRecDepth 10000 in
theorem y_blind (h : repY RL Y S c) (hc : c ≤ 100) {x : Int32} : zPub l D C yX3_blind cX3_blind 7 5 [.int x] Y RL c (sBlind S x) := by
  have hI := h.2.1.1
  have hT := h.2.1.2
  have hWb : S.1.1 0 ≤ 6 := hT.1.1
  have hnb : S.1.1 3 ≤ 8 := hT.1.2.2.2.2.1
  have hrb : S.1.1 2 ≤ 10 := hT.1.2.2.2.1
  have e0 : (Y.1 0).1 0 = nI (S.1.1 0) := hI.1.1
  have e3 : (Y.1 0).1 3 = nI (S.1.1 2) := hI.1.2.2.2.1
  have e4 : (Y.1 0).1 4 = nI (S.1.1 3) := hI.1.2.2.2.2.1
  have hR := h.1
  refine zFun_of (by decide) oX3_blind tbX3 (Nat.le_of_ble_eq_true rfl) (fun Z o => ?_)
  by_cases hz : whK x (S.1.1 3) = 0
  · obtain ⟨m, rfl, hm1, hm2, hn0⟩ := wh0 hz
    have hcl : cl (nI m) = m := nI_clamp (by omega)
    have hM := rep_okM hR hI hT hc hm2
    have hA : ∀ f, sRun S (nI m) f = f m := fun f => by rw [sRun, if_pos hz, hcl]
    refine o.run 100 [] ?_
    show Z _ _ _ _
    refine o.cV vX3_151 (c_whyNoRun (x := nI m) hnb e4) (fun w' rv _ hpo => ?_)
    obtain ⟨rfl, rfl⟩ := hpo
    rw [whR_0 hz]
    refine o.run 100 [24] ⟨fun _ => ?_, fun q => absurd nI_0 q⟩
    have hrl : ∀ p, p < S.1.1 3 → ruT S.1 p < S.1.1 2 := fun p hp => (hT.2.2.2.1 p hp).1
    let f : Nat → Int32 := fun p => rF S.1 (fun o => decide (p = o)) (S.1.2.2.2.1 0) (S.1.1 5) (ruT S.1) (tT S.1) m
    have call : ∀ p, p < S.1.1 3 → ∀ best most x6 M, (∀ M2, Z 65 (yamW 53 (setJ Y 3 M2) ++ pol 53 RL) [some (.ref 0), some (.int (nI m)), some (.int (nI 0)), some (.int best), some (.int most), some (.int (nI p)), some (.int (f p))] []) → Z 36 (yamW 53 (setJ Y 3 M) ++ pol 53 RL) [some (.ref 0), some (.int (nI m)), some (.int (nI 0)), some (.int best), some (.int most), some (.int (nI p)), x6] [] := fun p hp best most x6 M kk => by
      refine o.run 100 [] ?_
      show Z _ _ _ _
      refine o.yC 3 0 (Y := setJ Y 3 M) (by omega) (by omega) (by omega) vX3_163 (c_imagine (I := M) hM.2.2.2.2) (fun rv hpo => ?_)
      subst hpo
      refine o.run 100 [] ?_
      show Z 60 (yamW 53 (setJ Y 3 (setS (imI M (Y.1 0)) 7 (nI 1 <<< (nI p &&& 31)))) ++ pol 53 RL) _ [.int (nI m), .ref 0]
      refine o.cV vX3_204 (c_faresInMind (Y := setJ Y 3 (setS (imI M (Y.1 0)) 7 (nI 1 <<< (nI p &&& 31)))) (W := S.1.1 0) (n := S.1.1 3) (y := S.1.1 4) (s0 := 0) (L := S.1.1 1) (sh := S.1.1 5) (m := m) (sk := S.1.2.2.1 0) (v := S.1.2.2.1 1) (ru := ruT S.1) hM rfl) (fun w' rv _ hpo => ?_)
      obtain ⟨⟨M2, rfl⟩, rfl⟩ := hpo
      have ef : frI RL (setS (imI M (Y.1 0)) 7 (nI 1 <<< (nI p &&& 31))) (S.1.1 0) (S.1.1 3) (S.1.1 4) 0 (S.1.1 1) (S.1.1 5) (S.1.2.2.1 0) (S.1.2.2.1 1) (ruT S.1) m = f p := congrArg (fun g => sm g (S.1.1 3)) (ga_eq (I := setS (imI M (Y.1 0)) 7 (nI 1 <<< (nI p &&& 31))) (t := S.1) hI.2.1.1 (rep_dn hI hrl) (rep_see2 (RL := RL) hT (fun q _ => by show (Y.1 0).2.1 4 q = _; rw [hI.2.1.2.2.2.2.1]) (fun o ho => by show sb (nI 1 <<< (nI p &&& 31)) o = _; rw [sb_shift (by omega) ho])))
      have := kk M2
      rw [← ef] at this
      exact o.run 100 [65] this
    have loop : ∀ j k, k + 1 + j = S.1.1 3 → ∀ x6 M, Z 24 (yamW 53 (setJ Y 3 M) ++ pol 53 RL) [some (.ref 0), some (.int (nI m)), some (.int (nI 0)), some (.int (nI (amx f k))), some (.int (f (amx f k))), some (.int (nI (k + 1))), x6] [] := by
      intro j
      induction j with
      | zero =>
        intro k hk x6 M
        have e : sBlind S (nI m) = (nI (amx f k), S) := by
          rw [sBlind, hA, show S.1.1 3 - 1 = k by omega]
        exact o.run 100 [] ⟨fun _ => ⟨⟨_, rfl, rfl⟩, rfl, ⟨setJ Y 3 M, rfl, by rw [e]; exact rep_mono h (Nat.le_succ c)⟩, by rw [e]⟩, fun q => absurd (by show (Y.1 0).1 4 ≤ _; rw [e4]; exact nI_le (by omega) (by omega)) q⟩
      | succ j ih =>
        intro k hk x6 M
        refine o.run 100 [36] ⟨fun q => absurd q (by show ¬ (Y.1 0).1 4 ≤ _; rw [e4]; exact nI_ge (by omega) (by omega)), fun _ => call (k + 1) (by omega) _ _ x6 M (fun M2 => ?_)⟩
        refine o.run 100 [24] ⟨fun q => ?_, fun q => ?_⟩
        · have := ih (k + 1) (by omega) (some (.int (f (k + 1)))) M2
          have q : f (k + 1) ≤ f (amx f k) := q
          rw [show amx f (k + 1) = amx f k by rw [amx, if_neg (Int32.not_lt.mpr q)], ← nI_1 (k + 1)] at this
          exact this
        · have := ih (k + 1) (by omega) (some (.int (f (k + 1)))) M2
          have q : ¬ f (k + 1) ≤ f (amx f k) := q
          rw [show amx f (k + 1) = k + 1 by rw [amx, if_pos (Int32.not_le.mp q)], ← nI_1 (k + 1)] at this
          exact this
    show Z 24 (yamW 53 Y ++ pol 53 RL) [some (.ref 0), some (.int (nI m)), some (.int (nI 0)), some (.int (nI 0)), some (.int (zi (-1))), some (.int (nI 0)), none] []
    refine o.run 100 [36] ⟨fun q => absurd q (by show ¬ (Y.1 0).1 4 ≤ nI 0; rw [e4]; exact nI_ge (by omega) (by omega)), fun _ => call 0 hn0 (nI 0) (zi (-1)) none (Y.1 3) (fun M2 => ?_)⟩
    refine o.run 100 [24] ⟨fun q => ?_, fun q => loop (S.1.1 3 - 1) 0 (by omega) _ M2⟩
    have q : f 0 ≤ zi (-1) := q
    exact absurd (Int32.le_trans (rF_pos hT hm2 _ _ _ _ _) q) (by decide)
  · obtain ⟨hk1, hkp, hk7, hk0⟩ := whR_k hz
    refine o.run 100 [] ?_
    show Z _ _ _ _
    refine o.cV vX3_151 (c_whyNoRun (x := x) hnb e4) (fun w' rv _ hpo => ?_)
    obtain ⟨rfl, rfl⟩ := hpo
    rw [hk1]
    refine o.run 100 [] ⟨fun q => absurd q hk0, fun _ => ?_⟩
    show Z _ _ _ _
    refine o.cV vX3_48 (c_refuse (k := (whK x (S.1.1 3))) hkp hk7) (fun w' rv _ hpo => ?_)
    obtain ⟨rfl, rfl⟩ := hpo
    exact o.run 100 [] (pret (A' := sRf S (whK x (S.1.1 3))) (by rw [sBlind, sRun, if_neg hz]) _ (rep_rf h (whK x (S.1.1 3))))

set_option maxRecDepth 10000 in
theorem y_lessSeen (h : repY RL Y S c) (hc : c ≤ 100) {k x : Int32} : zPub l D C yX3_lessSeen cX3_lessSeen 5 6 [.int k, .int x] Y RL c (sLess S k x) := by
  have hI := h.2.1.1
  have hT := h.2.1.2
  have hWb : S.1.1 0 ≤ 6 := hT.1.1
  have hnb : S.1.1 3 ≤ 8 := hT.1.2.2.2.2.1
  have hrb : S.1.1 2 ≤ 10 := hT.1.2.2.2.1
  have e0 : (Y.1 0).1 0 = nI (S.1.1 0) := hI.1.1
  have e3 : (Y.1 0).1 3 = nI (S.1.1 2) := hI.1.2.2.2.1
  have e4 : (Y.1 0).1 4 = nI (S.1.1 3) := hI.1.2.2.2.2.1
  have hR := h.1
  refine zFun_of (by decide) oX3_lessSeen tbX3 (Nat.le_of_ble_eq_true rfl) (fun Z o => ?_)
  obtain ⟨hwe, hw7, hw0⟩ := whW_eq (v := k) (hi := nI 7) (x := x) (n := S.1.1 3)
  refine o.run 100 [] ?_
  show Z _ _ _ _
  refine o.cV vX3_198 (c_whyNoRunWith (v := k) (hi := nI 7) (x := x) hnb e4) (fun w' rv _ hpo => ?_)
  obtain ⟨rfl, rfl⟩ := hpo
  by_cases hz : whKW k (nI 7) x (S.1.1 3) = 0
  · rw [if_pos hz] at hwe
    rw [hwe]
    obtain ⟨hzr, hv0, hv6⟩ := whKW_0 hz
    obtain ⟨m, rfl, hm1, hm2, hn0⟩ := wh0 hzr
    have hcl : cl (nI m) = m := nI_clamp (by omega)
    have hM := rep_okM hR hI hT hc hm2
    have hrl : ∀ p, p < S.1.1 3 → ruT S.1 p < S.1.1 2 := fun p hp => (hT.2.2.2.1 p hp).1
    obtain ⟨kn, hkn, rfl⟩ := nI_of hv0
    rw [nI_ltI (by omega) (by omega)] at hv6
    have hclk : cl (nI kn) = kn := nI_clamp (by omega)
    refine o.run 100 [] ⟨fun _ => ?_, fun q => absurd nI_0 q⟩
    show Z _ _ _ _
    refine o.cV vX3_160 (c_faresNow hM) (fun w' rv _ hpo => ?_)
    obtain ⟨⟨M, rfl⟩, rfl⟩ := hpo
    refine o.run 100 [] ?_
    show Z _ _ _ _
    refine o.yC 3 0 (Y := setJ Y 3 M) (by omega) (by omega) (by omega) vX3_163 (c_imagine (I := M) hM.2.2.2.2) (fun rv hpo => ?_)
    subst hpo
    refine o.run 100 [] ?_
    show Z _ _ _ _
    refine o.yA 3 (Y := setJ Y 3 (imI M (Y.1 0))) (Q := fun M' rv => M' = setA (imI M (Y.1 0)) 4 (mix (S.1.1 3) (fun p => ahB (S.1.1 3) p kn) ((Y.1 0).2.1 4)) ∧ rv = none) (by omega) vX3_201 (c_seeAhead (I := imI M (Y.1 0)) (n := S.1.1 3) (k := kn) hnb (by omega) e4) (fun w rv hpo => ⟨_, hpo.1, rfl, hpo.2⟩) (fun M' rv hq => ?_)
    obtain ⟨rfl, rfl⟩ := hq
    refine o.run 100 [] ?_
    show Z _ _ _ _
    refine o.cV vX3_204 (c_faresInMind (Y := setJ Y 3 (setA (imI M (Y.1 0)) 4 (mix (S.1.1 3) (fun p => ahB (S.1.1 3) p kn) ((Y.1 0).2.1 4)))) (W := S.1.1 0) (n := S.1.1 3) (y := S.1.1 4) (s0 := 0) (L := S.1.1 1) (sh := S.1.1 5) (m := m) (sk := S.1.2.2.1 0) (v := S.1.2.2.1 1) (ru := ruT S.1) hM rfl) (fun w' rv _ hpo => ?_)
    obtain ⟨⟨M2, rfl⟩, rfl⟩ := hpo
    have ef : frI RL (setA (imI M (Y.1 0)) 4 (mix (S.1.1 3) (fun p => ahB (S.1.1 3) p kn) ((Y.1 0).2.1 4))) (S.1.1 0) (S.1.1 3) (S.1.1 4) 0 (S.1.1 1) (S.1.1 5) (S.1.2.2.1 0) (S.1.2.2.1 1) (ruT S.1) m = rF S.1 nob (fun p => ahB (S.1.1 3) p kn) (S.1.1 5) (ruT S.1) (tT S.1) m := congrArg (fun g => sm g (S.1.1 3)) (ga_eq (I := setA (imI M (Y.1 0)) 4 (mix (S.1.1 3) (fun p => ahB (S.1.1 3) p kn) ((Y.1 0).2.1 4))) (t := S.1) hI.2.1.1 (rep_dn hI hrl) (rep_see2 (RL := RL) hT (fun q hq => by show mix (S.1.1 3) (fun p => ahB (S.1.1 3) p kn) ((Y.1 0).2.1 4) q = _; rw [mix_lt hq]) (fun o ho => by show sb ((Y.1 0).1 7) o = _; rw [hI.1.2.2.2.2.2.2.2, sb_zero]; rfl)))
    have e : sLess S (nI kn) (nI m) = (frI RL (setA (imI M (Y.1 0)) 4 (mix (S.1.1 3) (fun p => ahB (S.1.1 3) p kn) ((Y.1 0).2.1 4))) (S.1.1 0) (S.1.1 3) (S.1.1 4) 0 (S.1.1 1) (S.1.1 5) (S.1.2.2.1 0) (S.1.2.2.1 1) (ruT S.1) m - frI RL (Y.1 0) (S.1.1 0) (S.1.1 3) (S.1.1 4) 0 (S.1.1 1) (S.1.1 5) (S.1.2.2.1 0) (S.1.2.2.1 1) (ruT S.1) m, S) := by
      rw [sLess, sRunF, if_pos hz, hcl, hclk, ef, rep_fr hI hT hrl]
    exact o.run 100 [] ⟨⟨_, rfl, rfl⟩, rfl, ⟨setJ Y 3 M2, rfl, by rw [e]; exact rep_mono h (Nat.le_succ c)⟩, by rw [e]; rfl⟩
  · rw [if_neg hz] at hwe
    rw [if_neg hz] at hw0
    rw [hwe]
    refine o.run 100 [] ⟨fun q => absurd q hw0, fun _ => ?_⟩
    show Z _ _ _ _
    refine o.cV vX3_174 (c_refuseFar (k := (whKW k (nI 7) x (S.1.1 3))) (by omega) hw7) (fun w' rv _ hpo => ?_)
    obtain ⟨rfl, rfl⟩ := hpo
    exact o.run 100 [] (pret (A' := sRff S (whKW k (nI 7) x (S.1.1 3))) (by rw [sLess, sRunF, if_neg hz]) _ (rep_rf h (whKW k (nI 7) x (S.1.1 3))))

set_option maxRecDepth 10000 in
theorem y_shown (h : repY RL Y S c) (hc : c ≤ 100) {s x : Int32} : zPub l D C yX3_shown cX3_shown 5 6 [.int s, .int x] Y RL c (sShown S s x) := by
  have hI := h.2.1.1
  have hT := h.2.1.2
  have hWb : S.1.1 0 ≤ 6 := hT.1.1
  have hnb : S.1.1 3 ≤ 8 := hT.1.2.2.2.2.1
  have hrb : S.1.1 2 ≤ 10 := hT.1.2.2.2.1
  have e0 : (Y.1 0).1 0 = nI (S.1.1 0) := hI.1.1
  have e3 : (Y.1 0).1 3 = nI (S.1.1 2) := hI.1.2.2.2.1
  have e4 : (Y.1 0).1 4 = nI (S.1.1 3) := hI.1.2.2.2.2.1
  have hR := h.1
  refine zFun_of (by decide) oX3_shown tbX3 (Nat.le_of_ble_eq_true rfl) (fun Z o => ?_)
  obtain ⟨hwe, hw7, hw0⟩ := whW_eq (v := s) (hi := nI 24) (x := x) (n := S.1.1 3)
  refine o.run 100 [] ?_
  show Z _ _ _ _
  refine o.cV vX3_198 (c_whyNoRunWith (v := s) (hi := nI 24) (x := x) hnb e4) (fun w' rv _ hpo => ?_)
  obtain ⟨rfl, rfl⟩ := hpo
  by_cases hz : whKW s (nI 24) x (S.1.1 3) = 0
  · rw [if_pos hz] at hwe
    rw [hwe]
    obtain ⟨hzr, hv0, hv6⟩ := whKW_0 hz
    obtain ⟨m, rfl, hm1, hm2, hn0⟩ := wh0 hzr
    have hcl : cl (nI m) = m := nI_clamp (by omega)
    have hM := rep_okM hR hI hT hc hm2
    have hrl : ∀ p, p < S.1.1 3 → ruT S.1 p < S.1.1 2 := fun p hp => (hT.2.2.2.1 p hp).1
    obtain ⟨kn, hkn, rfl⟩ := nI_of hv0
    rw [nI_ltI (by omega) (by omega)] at hv6
    have hclk : cl (nI kn) = kn := nI_clamp (by omega)
    refine o.run 100 [] ⟨fun _ => ?_, fun q => absurd nI_0 q⟩
    show Z _ _ _ _
    refine o.cV vX3_160 (c_faresNow hM) (fun w' rv _ hpo => ?_)
    obtain ⟨⟨M, rfl⟩, rfl⟩ := hpo
    refine o.run 100 [] ?_
    show Z _ _ _ _
    refine o.yC 3 0 (Y := setJ Y 3 M) (by omega) (by omega) (by omega) vX3_163 (c_imagine (I := M) hM.2.2.2.2) (fun rv hpo => ?_)
    subst hpo
    refine o.run 100 [] ?_
    show Z 47 (yamW 53 (setJ Y 3 (setS (imI M (Y.1 0)) 6 (nI kn))) ++ pol 53 RL) _ [.int (nI m), .ref 0]
    have hM2 : okM RL (setS (imI M (Y.1 0)) 6 (nI kn)) (S.1.1 0) (S.1.1 3) (S.1.1 4) 0 (S.1.1 1) kn (S.1.2.2.1 0) (S.1.2.2.1 1) (ruT S.1) m := ⟨hM.1, ⟨hM.2.1.1, hM.2.1.2.1, hM.2.1.2.2.1, hM.2.1.2.2.2.1, ⟨rfl, by omega⟩, hM.2.1.2.2.2.2.2⟩, hM.2.2⟩
    refine o.cV vX3_204 (c_faresInMind (Y := setJ Y 3 (setS (imI M (Y.1 0)) 6 (nI kn))) (W := S.1.1 0) (n := S.1.1 3) (y := S.1.1 4) (s0 := 0) (L := S.1.1 1) (sh := kn) (m := m) (sk := S.1.2.2.1 0) (v := S.1.2.2.1 1) (ru := ruT S.1) hM2 rfl) (fun w' rv _ hpo => ?_)
    obtain ⟨⟨M2, rfl⟩, rfl⟩ := hpo
    have ef : frI RL (setS (imI M (Y.1 0)) 6 (nI kn)) (S.1.1 0) (S.1.1 3) (S.1.1 4) 0 (S.1.1 1) kn (S.1.2.2.1 0) (S.1.2.2.1 1) (ruT S.1) m = rF S.1 nob (S.1.2.2.2.1 0) kn (ruT S.1) (tT S.1) m := congrArg (fun g => sm g (S.1.1 3)) (ga_eq (I := setS (imI M (Y.1 0)) 6 (nI kn)) (t := S.1) hI.2.1.1 (rep_dn hI hrl) (rep_see2 (RL := RL) hT (fun q _ => by show (Y.1 0).2.1 4 q = _; rw [hI.2.1.2.2.2.2.1]) (fun o ho => by show sb ((Y.1 0).1 7) o = _; rw [hI.1.2.2.2.2.2.2.2, sb_zero]; rfl)))
    have e : sShown S (nI kn) (nI m) = (frI RL (setS (imI M (Y.1 0)) 6 (nI kn)) (S.1.1 0) (S.1.1 3) (S.1.1 4) 0 (S.1.1 1) kn (S.1.2.2.1 0) (S.1.2.2.1 1) (ruT S.1) m - frI RL (Y.1 0) (S.1.1 0) (S.1.1 3) (S.1.1 4) 0 (S.1.1 1) (S.1.1 5) (S.1.2.2.1 0) (S.1.2.2.1 1) (ruT S.1) m, S) := by
      rw [sShown, sRunF, if_pos hz, hcl, hclk, ef, rep_fr hI hT hrl]
    exact o.run 100 [] ⟨⟨_, rfl, rfl⟩, rfl, ⟨setJ Y 3 M2, rfl, by rw [e]; exact rep_mono h (Nat.le_succ c)⟩, by rw [e]; rfl⟩
  · rw [if_neg hz] at hwe
    rw [if_neg hz] at hw0
    rw [hwe]
    refine o.run 100 [] ⟨fun q => absurd q hw0, fun _ => ?_⟩
    show Z _ _ _ _
    refine o.cV vX3_174 (c_refuseFar (k := (whKW s (nI 24) x (S.1.1 3))) (by omega) hw7) (fun w' rv _ hpo => ?_)
    obtain ⟨rfl, rfl⟩ := hpo
    exact o.run 100 [] (pret (A' := sRff S (whKW s (nI 24) x (S.1.1 3))) (by rw [sShown, sRunF, if_neg hz]) _ (rep_rf h (whKW s (nI 24) x (S.1.1 3))))

set_option maxRecDepth 10000 in
theorem y_next (h : repY RL Y S c) (hc : c ≤ 100) {p : Int32} : zPub l D C yX3_next cX3_next 2 3 [.int p] Y RL c (sNext S p) := by
  have hI := h.2.1.1
  have hT := h.2.1.2
  have hWb : S.1.1 0 ≤ 6 := hT.1.1
  have hnb : S.1.1 3 ≤ 8 := hT.1.2.2.2.2.1
  have hrb : S.1.1 2 ≤ 10 := hT.1.2.2.2.1
  have e0 : (Y.1 0).1 0 = nI (S.1.1 0) := hI.1.1
  have e3 : (Y.1 0).1 3 = nI (S.1.1 2) := hI.1.2.2.2.1
  have e4 : (Y.1 0).1 4 = nI (S.1.1 3) := hI.1.2.2.2.2.1
  have hR := h.1
  refine zFun_of (by decide) oX3_next tbX3 (Nat.le_of_ble_eq_true rfl) (fun Z o => ?_)
  have hM := rep_okM (m := 1) hR hI hT hc (by omega)
  have hrl : ∀ p, p < S.1.1 3 → ruT S.1 p < S.1.1 2 := fun p hp => (hT.2.2.2.1 p hp).1
  refine o.run 100 [] ?_
  show Z _ _ _ _
  refine o.cV vX3_120 (c_isPerson (x := p) e4) (fun w' rv _ hpo => ?_)
  obtain ⟨rfl, rfl⟩ := hpo
  refine o.run 100 [] ⟨fun q => ?_, fun q => ?_⟩
  · have hp := zB_t q
    obtain ⟨ep, hpl⟩ := isN_cl (by omega) hp
    obtain ⟨pn, hpn⟩ : ∃ k, k = cl p := ⟨_, rfl⟩
    rw [← hpn] at ep hpl
    subst ep
    obtain ⟨ra, hra, hra2⟩ := rep_rule hI (hrl pn hpl)
    have hy30 : S.1.1 4 < 2 ^ 30 := by have := hT.1.2.2.2.2.2.1; omega
    let H : zI := setA (setA (Y.1 0) 7 (mix (S.1.1 3) (fun p => seB (S.1.1 5) (S.1.1 4) ((Y.1 0).2.1 4 p) ((Y.1 0).1 7) p) ((Y.1 0).2.1 7))) 6 (mix (S.1.1 3) (fun p => (Y.1 0).2.1 0 (S.1.2.2.1 1 p * 4 + S.1.2.2.1 0 ((S.1.1 4 - 0) % S.1.1 1))) ((Y.1 0).2.1 6))
    show Z _ _ _ _
    refine o.yA 0 (Q := fun I rv => I = H ∧ rv = none) (by omega) vX3_145 (c_harvest (I := Y.1 0) (v := S.1.2.2.1 1) (sk := S.1.2.2.1 0) (n := S.1.1 3) (y := S.1.1 4) (s0 := 0) (L := S.1.1 1) (sh := S.1.1 5) hnb hy30 (Nat.zero_le _) hT.1.2.1 hT.1.2.2.1 hT.1.2.2.2.2.2.2 hI.1.2.1 hI.1.2.2.1 e4 hI.1.2.2.2.2.2.1 hI.1.2.2.2.2.2.2.1 (fun j => by rw [hI.2.1.2.1]) (fun j => (hT.2.2.1 j).1) (fun j => by rw [hI.2.1.2.2.1]) (fun j => (hT.2.2.1 j).2.1)) (fun w rv hpo => ⟨_, hpo.1, rfl, hpo.2⟩) (fun I rv hq => ?_)
    obtain ⟨rfl, rfl⟩ := hq
    refine o.run 100 [] ?_
    show Z _ _ _ _
    refine o.yB 0 (Y := setJ Y 0 H) (by omega) (Q := fun I rv => (∃ pl, I = setA H 9 pl) ∧ rv = some (.int (nI (cho (S.1.1 3) (S.1.1 0) (S.1.1 4) (S.1.2.2.1 1) (sb (H.2.1 7 pn)) (H.2.1 6) pn (dnI RL H.2.2 (ruT S.1 pn) (H.2.1 6 pn)).1 (dnI RL H.2.2 (ruT S.1 pn) (H.2.1 6 pn)).2)))) vX3_148 (c_choiceOf (I := H) (n := S.1.1 3) (p := pn) (W := S.1.1 0) (y := S.1.1 4) (r := ra) (v := S.1.2.2.1 1) (ru := ruT S.1) hR hnb hpl hWb hy30 e4 e0 hI.1.2.2.2.2.2.1 (fun j => by show (Y.1 0).2.1 2 j = _; rw [hI.2.1.2.2.1]) (fun j => (hT.2.2.1 j).2.1) (by show (Y.1 0).2.1 3 pn = _; rw [hI.2.1.2.2.2.1]) (hT.2.2.1 pn).2.2 hra hra2) (fun w rv hpo => ?_) (fun I rv hq => ?_)
    · obtain ⟨⟨pl, rfl⟩, rfl⟩ := hpo
      exact ⟨_, rfl, ⟨pl, rfl⟩, rfl⟩
    · obtain ⟨⟨pl, rfl⟩, rfl⟩ := hq
      have eV : rVn S.1 (ruT S.1) 1 pn = cho (S.1.1 3) (S.1.1 0) (S.1.1 4) (S.1.2.2.1 1) (sb (H.2.1 7 pn)) (H.2.1 6) pn (dnI RL H.2.2 (ruT S.1 pn) (H.2.1 6 pn)).1 (dnI RL H.2.2 (ruT S.1 pn) (H.2.1 6 pn)).2 := by
        have hVe : vI RL (Y.1 0) (S.1.1 0) (S.1.1 3) (S.1.1 4) 0 (S.1.1 1) (S.1.1 5) (S.1.2.2.1 0) (S.1.2.2.1 1) (ruT S.1) 1 = rVn S.1 (ruT S.1) 1 := vI_eq hI.2.1.1 (rep_dn hI hrl) (rep_see hI hT)
        rw [← hVe]
        show yst (S.1.1 3) (S.1.1 0) ((Y.1 0).2.1 0) (fun p o => sb (seB (S.1.1 5) (S.1.1 4) ((Y.1 0).2.1 4 p) ((Y.1 0).1 7) p) o) (fun p x => dnI RL (Y.1 0).2.2 (ruT S.1 p) x) (S.1.2.2.1 0 ((S.1.1 4 + 0 - 0) % S.1.1 1)) (S.1.1 4) (S.1.2.2.1 1) pn = _
        unfold yst
        rw [if_pos hpl]
        have g7 : H.2.1 7 pn = seB (S.1.1 5) (S.1.1 4) ((Y.1 0).2.1 4 pn) ((Y.1 0).1 7) pn := by
          have : H.2.1 7 = mix (S.1.1 3) (fun p => seB (S.1.1 5) (S.1.1 4) ((Y.1 0).2.1 4 p) ((Y.1 0).1 7) p) ((Y.1 0).2.1 7) := rfl
          rw [this, mix_lt hpl]
        have g6 : ∀ q, q < S.1.1 3 → H.2.1 6 q = (Y.1 0).2.1 0 (S.1.2.2.1 1 q * 4 + S.1.2.2.1 0 ((S.1.1 4 - 0) % S.1.1 1)) := fun q hq => by
          have : H.2.1 6 = mix (S.1.1 3) (fun p => (Y.1 0).2.1 0 (S.1.2.2.1 1 p * 4 + S.1.2.2.1 0 ((S.1.1 4 - 0) % S.1.1 1))) ((Y.1 0).2.1 6) := rfl
          rw [this, mix_lt hq]
        rw [g7, g6 pn hpl]
        exact cho_congr hpl (fun q hq => (g6 q hq).symm)
      have e : sNext S (nI pn) = (nI (cho (S.1.1 3) (S.1.1 0) (S.1.1 4) (S.1.2.2.1 1) (sb (H.2.1 7 pn)) (H.2.1 6) pn (dnI RL H.2.2 (ruT S.1 pn) (H.2.1 6 pn)).1 (dnI RL H.2.2 (ruT S.1 pn) (H.2.1 6 pn)).2), S) := by
        rw [sNext, if_pos hp, ← hpn, eV]
      refine o.run 100 [] ⟨⟨_, rfl, rfl⟩, rfl, ⟨setJ Y 0 (setA H 9 pl), rfl, ?_⟩, by rw [e]⟩
      rw [e]
      exact repY_J (I := setA H 9 pl) (t := S.1) h (repI_set hI rfl rfl rfl hI.1 hI.2.1) (okT_mono hT (Nat.le_succ c)) (Nat.le_succ c)
  · show Z _ _ _ _
    refine o.cV vX3_48 (c_refuse (k := 1) (by omega) (by omega)) (fun w' rv _ hpo => ?_)
    obtain ⟨rfl, rfl⟩ := hpo
    exact o.run 100 [] (pret (A' := sRf S 1) (by rw [sNext, (zB_0 _).mp q]; rfl) _ (rep_rf h 1))

end PUB4
