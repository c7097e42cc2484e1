/-! who gains; parts at rest -/
def skE (L x y : Nat) (sk : Nat → Nat) : Nat → Nat := fun j => if j < L then x else if L ≤ j ∧ j < L + L then y else sk j
def allN (f : Nat → Bool) : Nat → Bool
  | 0 => true
  | k + 1 => allN f k && f k
def fnd (f : Nat → Bool) : Nat → Nat → Option Nat
  | 0, _ => none
  | c + 1, k => if f k = true then some k else fnd f c (k + 1)
def fndI : Option Nat → Int32
  | some k => nI k
  | none => zi (-9)
theorem okI_one {I : zI} {W n y s0 L sh p r : Nat} {sk v ru : Nat → Nat} (h : okI I W n y s0 L sh sk v ru) (hr : r < 10) : okI (setA I 3 (upd (I.2.1 3) p (nI r))) W n y s0 L sh sk v (rOne p r ru) := by
  obtain ⟨h1, h2, h3, h4, h5, h6, h7, h8⟩ := h
  refine ⟨h1, h2, h3, h4, h5, h6, h7, fun j => ?_⟩
  show upd (I.2.1 3) p (nI r) j = nI (rOne p r ru j) ∧ _
  unfold upd rOne
  by_cases hj : j = p
  · rw [if_pos hj, if_pos hj]; exact ⟨rfl, hr⟩
  · rw [if_neg hj, if_neg hj]; exact h8 j
theorem okL_one {RL : List zRu} {rl : Nat → Option Nat} {n p r ra : Nat} {ru : Nat → Nat} (h : okL RL rl n ru) (hr : rl r = some ra ∧ ra < RL.length) : okL RL rl n (rOne p r ru) := fun q hq => by
  unfold rOne
  split
  · exact ⟨ra, hr⟩
  · exact h q hq
theorem allN_false {f : Nat → Bool} {p : Nat} : ∀ {n : Nat}, p < n → f p = false → allN f n = false
  | 0, h, _ => absurd h (Nat.not_lt_zero _)
  | n + 1, h, hf => by
    unfold allN
    by_cases hp : p = n
    · subst hp; rw [hf, Bool.and_false]
    · rw [allN_false (by omega) hf, Bool.false_and]
/-- the place of the greatest among 0 .. k, of several the least -/
def amx (f : Nat → Int32) : Nat → Nat
  | 0 => 0
  | k + 1 => if f (amx f k) < f (k + 1) then k + 1 else amx f k
section GN
variable {l : Launch} {D : va_G} {C : zC} {Y : zY} {RL : List zRu}
set_option maxRecDepth 10000 in
theorem c_faresUnder {W n y s0 L sh m T x z r ra : Nat} {sk v ru : Nat → Nat} (h : okM RL (Y.1 0) W n y s0 L sh sk v ru m) (hT : T ≤ 12) (hT0 : 0 < T) (hx : x < 4) (hz : z < 4) (hr : r < 10) (hra : (Y.1 0).2.2 r = some ra ∧ ra < RL.length) : zFun l D C yX3_faresUnder cX3_faresUnder 6 (some .int) (zR 5) [.ref 0, .int (nI T), .int (nI x), .int (nI z), .int (nI r), .int (nI m)] (yamW 53 Y ++ pol 53 RL) (fun w rv => (∃ M, w = yamW 53 (setJ Y 3 M) ++ pol 53 RL) ∧ rv = some (.int (frI RL (Y.1 0) W n y y (2 * T) sh (skE T x z sk) v (rPart n r r 0 ru) m))) := by
  refine zFun_of (by decide) oX3_faresUnder tbX3 (Nat.le_of_ble_eq_true rfl) (fun Z o => o.run 100 [] ?_)
  show Z _ _ _ _
  refine o.yC 3 0 (by omega) (by omega) (by omega) vX3_163 (c_imagine (I := Y.1 3) h.2.2.2.2) (fun rv hpo => ?_)
  subst hpo
  refine o.run 100 [] ?_
  show Z _ _ _ _
  refine o.yA 3 (Y := setJ Y 3 (imI (Y.1 3) (Y.1 0))) (Q := fun M rv => M = setS (setS (setA (imI (Y.1 3) (Y.1 0)) 1 (tsk T T (nI x) (nI z) ((Y.1 0).2.1 1))) 1 (nI (2 * T))) 2 ((Y.1 0).1 5) ∧ rv = none) (by omega) vX3_226 (c_turnSky (I := imI (Y.1 3) (Y.1 0)) (L := T) (x := nI x) (y := nI z) hT) (fun w rv hpo => ⟨_, hpo.1, rfl, hpo.2⟩) (fun M rv hq => ?_)
  obtain ⟨hM, rfl⟩ := hq
  have e4 : M.1 4 = nI n := by rw [hM]; exact h.2.1.2.1.1
  refine o.run 100 [] ?_
  show Z _ _ _ _
  refine o.yA 3 (Y := setJ Y 3 M) (Q := fun M' rv => M' = setA M 3 (mix n (fun p => if p < 0 then nI r else nI r) (M.2.1 3)) ∧ rv = none) (by omega) vX3_222 (c_liveInParts (I := M) (a := nI r) (b := nI r) (k := 0) h.2.1.2.1.2 (by omega) e4) (fun w rv hpo => ⟨_, hpo.1, rfl, hpo.2⟩) (fun M' rv hq => ?_)
  obtain ⟨hM', rfl⟩ := hq
  have hI : okI M W n y y (2 * T) sh (skE T x z sk) v ru := by
    obtain ⟨h1, h2, h3, h4, h5, h6, h7, h8⟩ := h.2.1
    rw [hM]
    refine ⟨h1, h2, ⟨h3.1, h3.1, Nat.le_refl _⟩, ⟨rfl, by omega, by omega⟩, h5, fun j => ?_, h7, h8⟩
    show tsk T T (nI x) (nI z) ((Y.1 0).2.1 1) j = nI (skE T x z sk j) ∧ _
    unfold tsk skE
    split
    · exact ⟨rfl, hx⟩
    · split
      · exact ⟨rfl, hz⟩
      · exact h6 j
  have hr2 : M.2.2 = (Y.1 0).2.2 := by rw [hM]; rfl
  refine o.run 100 [] ?_
  show Z _ _ _ _
  refine o.cV vX3_204 (c_faresInMind (Y := setJ Y 3 M') (W := W) (n := n) (y := y) (s0 := y) (L := 2 * T) (sh := sh) (m := m) (sk := skE T x z sk) (v := v) (ru := rPart n r r 0 ru) ⟨h.1, ?_, ?_, h.2.2.2.1, ?_⟩ ?_) (fun w rv _ hpo => ?_)
  · show okI M' _ _ _ _ _ _ _ _ _
    rw [hM']
    exact okI_part hI hr hr
  · show okL RL M'.2.2 n _
    rw [hM']
    refine okL_part (I := M) (ra := ra) (rb := ra) ?_ ?_
    · rw [hr2]; exact hra
    · rw [hr2]; exact hra
  · show okN RL M'
    rw [hM']
    show ∀ k, k < 10 → ∀ r, M.2.2 k = some r → r < RL.length
    rw [hr2]
    exact h.2.2.2.2
  · show M'.2.1 5 = _
    rw [hM', hM]; rfl
  obtain ⟨⟨M2, rfl⟩, rfl⟩ := hpo
  refine o.run 100 [] ⟨⟨_, rfl, rfl⟩, rfl, ⟨M2, rfl⟩, ?_⟩
  show some (Value.int (frI RL M' W n y y (2 * T) sh (skE T x z sk) v (rPart n r r 0 ru) m)) = _
  rw [hM', hM]
  rfl
set_option maxRecDepth 10000 in
theorem c_broughtBy {W n y s0 L sh m k p r ra : Nat} {sk v ru : Nat → Nat} (hk : k < 3) (h : okM RL (Y.1 k) W n y s0 L sh sk v ru m) (hp : p < n) (hr : r < 10) (hra : (Y.1 k).2.2 r = some ra ∧ ra < RL.length) : zFun l D C yX3_broughtBy cX3_broughtBy 5 (some .int) (zR 4) [.ref 0, .ref (1 + 12 * k), .int (nI p), .int (nI r), .int (nI m)] (yamW 53 Y ++ pol 53 RL) (fun w rv => (∃ M, w = yamW 53 (setJ Y 3 M) ++ pol 53 RL) ∧ rv = some (.int (gaI RL (Y.1 k) W n y s0 L sh sk v (rOne p r ru) m p))) := by
  have hn : n ≤ 8 := h.2.1.2.1.2
  refine zFun_of (by decide) oX3_broughtBy tbX3 (Nat.le_of_ble_eq_true rfl) (fun Z o => o.run 100 [] ?_)
  show Z _ _ _ _
  refine o.yC 3 k (by omega) (by omega) (by omega) vX3_163 (c_imagine (I := Y.1 3) h.2.2.2.2) (fun rv hpo => ?_) (hst := by rw [sgC_2 (by omega) (by omega), show 12 - 12 + (1 + 12 * k) = 1 + 12 * k by omega]; rfl)
  subst hpo
  refine o.run 100 [] ⟨p, rfl, by omega, ?_⟩
  show Z 24 (yamW 53 (setJ Y 3 (setA (imI (Y.1 3) (Y.1 k)) 3 (upd ((Y.1 k).2.1 3) p (nI r)))) ++ pol 53 RL) _ [.int (nI m), .ref 37]
  have hI : okI (setA (imI (Y.1 3) (Y.1 k)) 3 (upd ((Y.1 k).2.1 3) p (nI r))) W n y s0 L sh sk v (rOne p r ru) := okI_one (I := imI (Y.1 3) (Y.1 k)) h.2.1 hr
  refine o.yB 3 (Y := setJ Y 3 (setA (imI (Y.1 3) (Y.1 k)) 3 (upd ((Y.1 k).2.1 3) p (nI r)))) (by omega) (Q := fun M rv => M.2.1 5 = gaI RL (Y.1 k) W n y s0 L sh sk v (rOne p r ru) m ∧ rv = none) vX3_154 (c_passYears (I := setA (imI (Y.1 3) (Y.1 k)) 3 (upd ((Y.1 k).2.1 3) p (nI r))) h.1 hI (okL_one h.2.2.1 hra) h.2.2.2.1) (fun w rv hpo => ?_) (fun M rv hq => ?_)
  · obtain ⟨⟨M, rfl, ha⟩, rfl⟩ := hpo
    exact ⟨M, rfl, ha.2.2.2.2, rfl⟩
  · obtain ⟨ha, rfl⟩ := hq
    refine o.run 100 [] ⟨p, rfl, by omega, ⟨_, rfl, rfl⟩, rfl, ⟨M, rfl⟩, ?_⟩
    rw [← ha]
    rfl
set_option maxRecDepth 10000 in
theorem c_learnOwn {W n y s0 L sh m k : Nat} {sk v ru : Nat → Nat} (hk : k < 3) (h : okM RL (Y.1 k) W n y s0 L sh sk v ru m) : zFun l D C yX3_learnOwn cX3_learnOwn 3 none (zR 4) [.ref 0, .ref (1 + 12 * k), .int (nI m)] (yamW 53 Y ++ pol 53 RL) (fun w rv => (∃ M, w = yamW 53 (setY (setJ Y 3 M) 0 (gaI RL (Y.1 k) W n y s0 L sh sk v ru m)) ++ pol 53 RL) ∧ rv = none) := by
  refine zFun_of (by decide) oX3_learnOwn tbX3 (Nat.le_of_ble_eq_true rfl) (fun Z o => o.run 100 [] ?_)
  show Z _ _ _ _
  refine o.yC 3 k (by omega) (by omega) (by omega) vX3_163 (c_imagine (I := Y.1 3) h.2.2.2.2) (fun rv hpo => ?_) (hst := by rw [sgC_2 (by omega) (by omega), show 12 - 12 + (1 + 12 * k) = 1 + 12 * k by omega]; rfl)
  subst hpo
  refine o.run 100 [] ?_
  show Z _ _ _ _
  refine o.yB 3 (Y := setJ Y 3 (imI (Y.1 3) (Y.1 k))) (by omega) (Q := fun M rv => M.2.1 5 = gaI RL (Y.1 k) W n y s0 L sh sk v ru m ∧ rv = none) vX3_154 (c_passYears (I := imI (Y.1 3) (Y.1 k)) h.1 h.2.1 h.2.2.1 h.2.2.2.1) (fun w rv hpo => ?_) (fun M rv hq => ?_)
  · obtain ⟨⟨M, rfl, ha⟩, rfl⟩ := hpo
    exact ⟨M, rfl, ha.2.2.2.2, rfl⟩
  · obtain ⟨ha, rfl⟩ := hq
    refine o.run 100 [] ?_
    show Z 31 (yamW 53 (setJ Y 3 M) ++ pol 53 RL) _ [.int (nI 8), .int (nI 0), .ref 49, .int (nI 0), .ref 44]
    refine o.cp (a0 := 44) (a1 := 49) (n0 := 8) (n1 := 8) (f := M.2.1 5) (g := Y.2.1 0) 0 0 8 cpX3 rfl rfl (by omega) (by omega) (by omega) (by omega) ?_
    refine o.xi 49 (gaI RL (Y.1 k) W n y s0 L sh sk v ru m) rfl (fun j hj => by rw [cpy_mix, mix_lt hj, ha]) (o.run 100 [] ⟨rfl, rfl, ⟨M, rfl⟩, rfl⟩)
/-- nobody gains by the other rule -/
def nbG (RL : List zRu) (I : zI) (W n y s0 L sh : Nat) (sk v ru : Nat → Nat) (a b k m : Nat) (p : Nat) : Bool :=
  decide (¬ gaI RL I W n y s0 L sh sk v ru m p < gaI RL I W n y s0 L sh sk v (rOne p (if p < k then b else a) ru) m p)
set_option maxRecDepth 10000 in
theorem c_nobodyGains {W n y s0 L sh m a b k ra rb : Nat} {sk v ru : Nat → Nat} (h : okM RL (Y.1 2) W n y s0 L sh sk v ru m) (ha : a < 10) (hb : b < 10) (hk : k ≤ 8) (hra : (Y.1 2).2.2 a = some ra ∧ ra < RL.length) (hrb : (Y.1 2).2.2 b = some rb ∧ rb < RL.length) : zFun l D C yX3_nobodyGains cX3_nobodyGains 6 (some .boolean) (zR 5) [.ref 0, .int (nI a), .int (nI b), .int (nI k), .int (nI m)] (yamW 53 Y ++ pol 53 RL) (fun w rv => (∃ M g, w = yamW 53 (setY (setJ Y 3 M) 0 g) ++ pol 53 RL) ∧ rv = some (.int (zB (allN (nbG RL (Y.1 2) W n y s0 L sh sk v ru a b k m) n)))) := by
  have hn : n ≤ 8 := h.2.1.2.1.2
  have e4 : (Y.1 2).1 4 = nI n := h.2.1.2.1.1
  refine zFun_of (by decide) oX3_nobodyGains tbX3 (Nat.le_of_ble_eq_true rfl) (fun Z o => ?_)
  let own := gaI RL (Y.1 2) W n y s0 L sh sk v ru m
  let nb := nbG RL (Y.1 2) W n y s0 L sh sk v ru a b k m
  have loop : ∀ j p, p + j = n → allN nb p = true → ∀ M, Z 13 (yamW 53 (setY (setJ Y 3 M) 0 own) ++ pol 53 RL) [some (.ref 0), some (.int (nI a)), some (.int (nI b)), some (.int (nI k)), some (.int (nI m)), some (.int (nI p))] [] := by
    intro j
    induction j with
    | zero =>
      intro p hp hal M
      obtain rfl : p = n := by omega
      refine o.run 100 [] ⟨fun _ => ⟨zB_rt true, rfl, ⟨M, own, rfl⟩, ?_⟩, fun h => absurd (by show (Y.1 2).1 4 ≤ _; rw [e4]; exact nI_le (Nat.le_refl _) (by omega)) h⟩
      rw [show allN (nbG RL (Y.1 2) W p y s0 L sh sk v ru a b k m) p = true from hal]; rfl
    | succ j ih =>
      intro p hp hal M
      have go : ∀ r rr, (if p < k then b else a) = r → r < 10 → (Y.1 2).2.2 r = some rr ∧ rr < RL.length → Z 45 (yamW 53 (setY (setJ Y 3 M) 0 own) ++ pol 53 RL) [some (.ref 0), some (.int (nI a)), some (.int (nI b)), some (.int (nI k)), some (.int (nI m)), some (.int (nI p))] [.int (nI m), .int (nI r), .int (nI p), .ref 25, .ref 0] := by
        intro r rr hr hr10 hrr
        refine o.cV (As := [.ref 25, .int (nI p), .int (nI r), .int (nI m)]) vX3_177 (c_broughtBy (Y := setY (setJ Y 3 M) 0 own) (k := 2) (p := p) (r := r) (ra := rr) (by omega) h (by omega) hr10 hrr) (fun w rv _ hpo => ?_)
        obtain ⟨⟨M2, rfl⟩, rfl⟩ := hpo
        refine o.run 100 [13] ⟨p, rfl, by omega, fun h1 => ?_, fun h1 => ⟨zB_rt false, rfl, ⟨M2, own, rfl⟩, ?_⟩⟩
        · have hnb : nb p = true := by
            refine decide_eq_true ?_
            rw [hr]
            exact Int32.not_lt.mpr h1
          have := ih (p + 1) (by omega) (by rw [allN, hal, hnb]; rfl) M2
          rw [← nI_1 p] at this
          exact this
        · have hnb : nb p = false := by
            refine decide_eq_false ?_
            rw [hr]
            exact fun q => q (Int32.not_le.mp h1)
          rw [show allN (nbG RL (Y.1 2) W n y s0 L sh sk v ru a b k m) n = false from allN_false (show p < n by omega) hnb]; rfl
      refine o.run 100 [45] ⟨fun h => absurd h (by show ¬ (Y.1 2).1 4 ≤ _; rw [e4]; exact nI_ge (by omega) (by omega)), fun _ => ⟨fun h1 => ?_, fun h1 => ?_⟩⟩
      · rw [nI_leI (by omega) (by omega)] at h1
        exact go a ra (if_neg (by omega)) ha hra
      · rw [nI_leI (by omega) (by omega)] at h1
        exact go b rb (if_pos (by omega)) hb hrb
  refine o.run 100 [] ?_
  show Z _ _ _ _
  refine o.cV (As := [.ref 25, .int (nI m)]) vX3_181 (c_learnOwn (k := 2) (by omega) h) (fun w rv _ hpo => ?_)
  obtain ⟨⟨M, rfl⟩, rfl⟩ := hpo
  exact o.run 100 [13] (loop n 0 (by omega) rfl M)
set_option maxRecDepth 10000 in
theorem c_partAtRest {W n y s0 L sh m a b ra rb : Nat} {sk v ru : Nat → Nat} (h : okM RL (Y.1 0) W n y s0 L sh sk v ru m) (ha : a < 10) (hb : b < 10) (hra : (Y.1 0).2.2 a = some ra ∧ ra < RL.length) (hrb : (Y.1 0).2.2 b = some rb ∧ rb < RL.length) : zFun l D C yX3_partAtRest cX3_partAtRest 5 (some .int) (zR 6) [.ref 0, .int (nI a), .int (nI b), .int (nI m)] (yamW 53 Y ++ pol 53 RL) (fun w rv => (∃ P M g, w = yamW 53 (setY (setJ (setJ Y 2 P) 3 M) 0 g) ++ pol 53 RL) ∧ rv = some (.int (fndI (fnd (fun k => allN (nbG RL (Y.1 0) W n y s0 L sh sk v (rPart n a b k ru) a b k m) n) (n + 1) 0)))) := by
  have hn : n ≤ 8 := h.2.1.2.1.2
  have e4 : (Y.1 0).1 4 = nI n := h.2.1.2.1.1
  refine zFun_of (by decide) oX3_partAtRest tbX3 (Nat.le_of_ble_eq_true rfl) (fun Z o => ?_)
  let f : Nat → Bool := fun k => allN (nbG RL (Y.1 0) W n y s0 L sh sk v (rPart n a b k ru) a b k m) n
  have loop : ∀ j k, k + j = n + 1 → fnd f j k = fnd f (n + 1) 0 → ∀ P M g, Z 3 (yamW 53 (setY (setJ (setJ Y 2 P) 3 M) 0 g) ++ pol 53 RL) [some (.ref 0), some (.int (nI a)), some (.int (nI b)), some (.int (nI m)), some (.int (nI k))] [] := by
    intro j
    induction j with
    | zero =>
      intro k hk hf P M g
      obtain rfl : k = n + 1 := by omega
      refine o.run 100 [] ⟨fun _ => ⟨⟨_, rfl, rfl⟩, rfl, ⟨P, M, g, rfl⟩, ?_⟩, fun h => absurd (by show (Y.1 0).1 4 < _; rw [e4]; exact nI_lt (by omega) (by omega)) h⟩
      rw [show fnd (fun k => allN (nbG RL (Y.1 0) W n y s0 L sh sk v (rPart n a b k ru) a b k m) n) (n + 1) 0 = none from hf.symm]; rfl
    | succ j ih =>
      intro k hk hf P M g
      refine o.run 100 [] ⟨fun h => absurd h (by show ¬ (Y.1 0).1 4 < _; rw [e4]; exact nI_nlt (by omega) (by omega)), fun _ => ?_⟩
      show Z _ _ _ _
      refine o.yC 2 0 (Y := setY (setJ (setJ Y 2 P) 3 M) 0 g) (by omega) (by omega) (by omega) vX3_163 (c_imagine (I := P) h.2.2.2.2) (fun rv hpo => ?_)
      subst hpo
      refine o.run 100 [] ?_
      show Z 34 (yamW 53 (setY (setJ (setJ Y 2 (imI P (Y.1 0))) 3 M) 0 g) ++ pol 53 RL) _ _
      refine o.yA 2 (Y := setY (setJ (setJ Y 2 (imI P (Y.1 0))) 3 M) 0 g) (Q := fun M rv => M = setA (imI P (Y.1 0)) 3 (mix n (fun p => if p < k then nI a else nI b) ((Y.1 0).2.1 3)) ∧ rv = none) (by omega) vX3_222 (c_liveInParts (I := imI P (Y.1 0)) (a := nI a) (b := nI b) (k := k) hn (by omega) e4) (fun w rv hpo => ⟨_, hpo.1, rfl, hpo.2⟩) (fun Q rv hq => ?_)
      obtain ⟨rfl, rfl⟩ := hq
      refine o.run 100 [] ?_
      show Z 43 (yamW 53 (setY (setJ (setJ Y 2 (setA (imI P (Y.1 0)) 3 (mix n (fun p => if p < k then nI a else nI b) ((Y.1 0).2.1 3)))) 3 M) 0 g) ++ pol 53 RL) _ _
      refine o.cV vX3_229 (c_nobodyGains (Y := setY (setJ (setJ Y 2 (setA (imI P (Y.1 0)) 3 (mix n (fun p => if p < k then nI a else nI b) ((Y.1 0).2.1 3)))) 3 M) 0 g) (W := W) (n := n) (y := y) (s0 := s0) (L := L) (sh := sh) (m := m) (sk := sk) (v := v) (ru := rPart n a b k ru) (k := k) ⟨h.1, okI_part (I := imI P (Y.1 0)) h.2.1 ha hb, okL_part (I := Y.1 0) hra hrb, h.2.2.2.1, h.2.2.2.2⟩ ha hb (by omega) hra hrb) (fun w rv _ hpo => ?_)
      obtain ⟨⟨M2, g2, rfl⟩, rfl⟩ := hpo
      refine o.run 100 [3] ⟨fun h1 => ?_, fun h1 => ⟨⟨_, rfl, rfl⟩, rfl, ⟨_, M2, g2, rfl⟩, ?_⟩⟩
      · have hfk : f k = false := (zB_0 _).mp h1
        have := ih (k + 1) (by omega) (by rw [← hf, fnd, hfk]; rfl) (setA (imI P (Y.1 0)) 3 (mix n (fun p => if p < k then nI a else nI b) ((Y.1 0).2.1 3))) M2 g2
        rw [← nI_1 k] at this
        exact this
      · have hfk : f k = true := by
          cases hq : f k with
          | true => rfl
          | false => exact absurd ((zB_0 _).mpr hq) h1
        have : fnd f (n + 1) 0 = some k := by rw [← hf, fnd, if_pos hfk]
        rw [show fnd (fun k => allN (nbG RL (Y.1 0) W n y s0 L sh sk v (rPart n a b k ru) a b k m) n) (n + 1) 0 = some k from this]; rfl
  exact o.run 100 [3] (loop (n + 1) 0 (by omega) rfl (Y.1 2) (Y.1 3) (Y.2.1 0))
set_option maxRecDepth 10000 in
theorem c_bestPart {W n y s0 L sh m a b ra rb : Nat} {sk v ru : Nat → Nat} (h : okM RL (Y.1 0) W n y s0 L sh sk v ru m) (ha : a < 10) (hb : b < 10) (hra : (Y.1 0).2.2 a = some ra ∧ ra < RL.length) (hrb : (Y.1 0).2.2 b = some rb ∧ rb < RL.length) (hpos : 0 ≤ frI RL (Y.1 0) W n y s0 L sh sk v (rPart n a b 0 ru) m) : zFun l D C yX3_bestPart cX3_bestPart 8 (some .int) (zR 6) [.ref 0, .int (nI a), .int (nI b), .int (nI m)] (yamW 53 Y ++ pol 53 RL) (fun w rv => (∃ M, w = yamW 53 (setJ Y 3 M) ++ pol 53 RL) ∧ rv = some (.int (nI (amx (fun k => frI RL (Y.1 0) W n y s0 L sh sk v (rPart n a b k ru) m) n)))) := by
  have hn : n ≤ 8 := h.2.1.2.1.2
  have e4 : (Y.1 0).1 4 = nI n := h.2.1.2.1.1
  refine zFun_of (by decide) oX3_bestPart tbX3 (Nat.le_of_ble_eq_true rfl) (fun Z o => ?_)
  let f : Nat → Int32 := fun k => frI RL (Y.1 0) W n y s0 L sh sk v (rPart n a b k ru) m
  have loop : ∀ j k, k + j = n → ∀ x7 M, Z 9 (yamW 53 (setJ Y 3 M) ++ pol 53 RL) [some (.ref 0), some (.int (nI a)), some (.int (nI b)), some (.int (nI m)), some (.int (nI (amx f k))), some (.int (f (amx f k))), some (.int (nI (k + 1))), x7] [] := by
    intro j
    induction j with
    | zero =>
      intro k hk x7 M
      obtain rfl : k = n := by omega
      exact o.run 100 [] ⟨fun _ => ⟨⟨_, rfl, rfl⟩, rfl, ⟨M, rfl⟩, rfl⟩, fun h => absurd (by show (Y.1 0).1 4 < _; rw [e4]; exact nI_lt (by omega) (by omega)) h⟩
    | succ j ih =>
      intro k hk x7 M
      refine o.run 100 [] ⟨fun h => absurd h (by show ¬ (Y.1 0).1 4 < _; rw [e4]; exact nI_nlt (by omega) (by omega)), fun _ => ?_⟩
      show Z _ _ _ _
      refine o.cV vX3_185 (c_faresInParts (Y := setJ Y 3 M) (k := k + 1) h ha hb (by omega) hra hrb) (fun w rv _ hpo => ?_)
      obtain ⟨⟨M2, rfl⟩, rfl⟩ := hpo
      refine o.run 100 [9] ⟨fun h1 => ?_, fun h1 => ?_⟩
      · have := ih (k + 1) (by omega) (some (.int (f (k + 1)))) M2
        have h1 : f (k + 1) ≤ f (amx f k) := h1
        have e : amx f (k + 1) = amx f k := by rw [amx, if_neg (Int32.not_lt.mpr h1)]
        rw [e, ← nI_1 (k + 1)] at this
        exact this
      · have := ih (k + 1) (by omega) (some (.int (f (k + 1)))) M2
        have h1 : ¬ f (k + 1) ≤ f (amx f k) := h1
        have e : amx f (k + 1) = k + 1 := by rw [amx, if_pos (Int32.not_le.mp h1)]
        rw [e, ← nI_1 (k + 1)] at this
        exact this
  refine o.run 100 [9] ?_
  show Z 9 (yamW 53 Y ++ pol 53 RL) _ _
  refine o.run 100 [] ⟨fun h => absurd h (by show ¬ (Y.1 0).1 4 < nI 0; rw [e4]; exact nI_nlt (by omega) (by omega)), fun _ => ?_⟩
  show Z _ _ _ _
  refine o.cV vX3_185 (c_faresInParts (Y := Y) (k := 0) h ha hb (by omega) hra hrb) (fun w rv _ hpo => ?_)
  obtain ⟨⟨M2, rfl⟩, rfl⟩ := hpo
  refine o.run 100 [9] ⟨fun h1 => ?_, fun h1 => ?_⟩
  · have h1 : f 0 ≤ zi (-1) := h1
    exact absurd (Int32.le_trans hpos h1) (by decide)
  · exact loop n 0 (by omega) (some (.int (f 0))) M2
end GN
