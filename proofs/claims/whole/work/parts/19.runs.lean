/-! the class's own helpers: refusals, runs in mind -/
def frI (RL : List zRu) (I : zI) (W n y s0 L sh : Nat) (sk v ru : Nat → Nat) (m : Nat) : Int32 := sm (tot n (I.2.1 0) (vI RL I W n y s0 L sh sk v ru) (fun i => sk ((y + i - s0) % L)) (fun _ => nI 0) m) n
def gaI (RL : List zRu) (I : zI) (W n y s0 L sh : Nat) (sk v ru : Nat → Nat) (m : Nat) : Nat → Int32 := tot n (I.2.1 0) (vI RL I W n y s0 L sh sk v ru) (fun i => sk ((y + i - s0) % L)) (fun _ => nI 0) m
def rPart (n a b k : Nat) (ru : Nat → Nat) : Nat → Nat := fun p => if p < n then (if p < k then a else b) else ru p
def rOne (p r : Nat) (ru : Nat → Nat) : Nat → Nat := fun q => if q = p then r else ru q
/-- all rules that an island names are there -/
def okN (RL : List zRu) (I : zI) : Prop := ∀ k, k < 10 → ∀ r, I.2.2 k = some r → r < RL.length
/-- why not: -4 below, -6 above, 0 -/
def whO (x lo hi : Int32) : Int32 := if x < lo then zi (-4) else if hi < x then zi (-6) else nI 0
def whR (x : Int32) (n : Nat) : Int32 := if x < nI 1 then zi (-4) else if nI 60 < x then zi (-6) else if n = 0 then zi (-3) else nI 0
def whW (v hi x : Int32) (n : Nat) : Int32 := if v < 0 then zi (-4) else if whR x n = zi (-4) then zi (-4) else if hi < v then zi (-6) else whR x n
/-- a refusal more -/
def rfu (f : Nat → Int32) (k : Nat) : Nat → Int32 := upd f k (f k + nI 1)
section MM
variable {l : Launch} {D : va_G} {C : zC} {Y : zY} {RL : List zRu}
theorem i0_le {x : Int32} (h : ¬ x < 0) (k : Nat) (h2 : ¬ nI k ≤ x) (hk : k < 2 ^ 31) : ∃ j, j < k ∧ x = nI j := by
  rcases pk_ix x hk with h3 | h3 | h3
  · exact absurd h3 h
  · exact absurd h3 h2
  · exact h3
/-- x is one of 0 .. k-1 -/
def isN (x : Int32) (k : Nat) : Bool := decide (¬ x < 0 ∧ ¬ nI k ≤ x)
theorem isN_t {x : Int32} {k : Nat} (hk : k < 2 ^ 31) (h : isN x k = true) : ∃ j, j < k ∧ x = nI j := by
  have := of_decide_eq_true h
  exact i0_le this.1 k this.2 hk
set_option maxRecDepth 10000 in
theorem c_isWeather {x : Int32} : zFun l D C yX3_isWeather cX3_isWeather 1 (some .boolean) (zR 0) [.int x] [] (fun _ rv => rv = some (.int (zB (isN x 4)))) := by
  refine zFun_of (by decide) oX3_isWeather tbX3 (Nat.le_of_ble_eq_true rfl) (fun Z o => o.run 100 [] ⟨fun h => ⟨zB_rt false, rfl, ?_⟩, fun h => ⟨fun h2 => ⟨zB_rt false, rfl, ?_⟩, fun h2 => ⟨zB_rt true, rfl, ?_⟩⟩⟩)
  · rw [show isN x 4 = false from decide_eq_false (fun q => q.1 h)]; rfl
  · rw [show isN x 4 = false from decide_eq_false (fun q => q.2 h2)]; rfl
  · rw [show isN x 4 = true from decide_eq_true ⟨h, h2⟩]; rfl
set_option maxRecDepth 10000 in
theorem c_isWay {x : Int32} {W : Nat} (e : (Y.1 0).1 0 = nI W) : zFun l D C yX3_isWay cX3_isWay 2 (some .boolean) (zR 0) [.ref 0, .int x] (yamW 53 Y ++ pol 53 RL) (fun w rv => w = yamW 53 Y ++ pol 53 RL ∧ rv = some (.int (zB (isN x W)))) := by
  refine zFun_of (by decide) oX3_isWay tbX3 (Nat.le_of_ble_eq_true rfl) (fun Z o => o.run 100 [] ⟨fun h => ⟨zB_rt false, rfl, rfl, ?_⟩, fun h => ⟨fun h2 => ⟨zB_rt false, rfl, rfl, ?_⟩, fun h2 => ⟨zB_rt true, rfl, rfl, ?_⟩⟩⟩)
  · rw [show isN x W = false from decide_eq_false (fun q => q.1 h)]; rfl
  · have h2 : (Y.1 0).1 0 ≤ x := h2
    rw [e] at h2
    rw [show isN x W = false from decide_eq_false (fun q => q.2 h2)]; rfl
  · have h2 : ¬ (Y.1 0).1 0 ≤ x := h2
    rw [e] at h2
    rw [show isN x W = true from decide_eq_true ⟨h, h2⟩]; rfl
set_option maxRecDepth 10000 in
theorem c_isPerson {x : Int32} {n : Nat} (e : (Y.1 0).1 4 = nI n) : zFun l D C yX3_isPerson cX3_isPerson 2 (some .boolean) (zR 0) [.ref 0, .int x] (yamW 53 Y ++ pol 53 RL) (fun w rv => w = yamW 53 Y ++ pol 53 RL ∧ rv = some (.int (zB (isN x n)))) := by
  refine zFun_of (by decide) oX3_isPerson tbX3 (Nat.le_of_ble_eq_true rfl) (fun Z o => o.run 100 [] ⟨fun h => ⟨zB_rt false, rfl, rfl, ?_⟩, fun h => ⟨fun h2 => ⟨zB_rt false, rfl, rfl, ?_⟩, fun h2 => ⟨zB_rt true, rfl, rfl, ?_⟩⟩⟩)
  · rw [show isN x n = false from decide_eq_false (fun q => q.1 h)]; rfl
  · have h2 : (Y.1 0).1 4 ≤ x := h2
    rw [e] at h2
    rw [show isN x n = false from decide_eq_false (fun q => q.2 h2)]; rfl
  · have h2 : ¬ (Y.1 0).1 4 ≤ x := h2
    rw [e] at h2
    rw [show isN x n = true from decide_eq_true ⟨h, h2⟩]; rfl
set_option maxRecDepth 10000 in
theorem c_isRule {x : Int32} {n : Nat} (e : (Y.1 0).1 3 = nI n) : zFun l D C yX3_isRule cX3_isRule 2 (some .boolean) (zR 0) [.ref 0, .int x] (yamW 53 Y ++ pol 53 RL) (fun w rv => w = yamW 53 Y ++ pol 53 RL ∧ rv = some (.int (zB (isN x n)))) := by
  refine zFun_of (by decide) oX3_isRule tbX3 (Nat.le_of_ble_eq_true rfl) (fun Z o => o.run 100 [] ⟨fun h => ⟨zB_rt false, rfl, rfl, ?_⟩, fun h => ⟨fun h2 => ⟨zB_rt false, rfl, rfl, ?_⟩, fun h2 => ⟨zB_rt true, rfl, rfl, ?_⟩⟩⟩)
  · rw [show isN x n = false from decide_eq_false (fun q => q.1 h)]; rfl
  · have h2 : (Y.1 0).1 3 ≤ x := h2
    rw [e] at h2
    rw [show isN x n = false from decide_eq_false (fun q => q.2 h2)]; rfl
  · have h2 : ¬ (Y.1 0).1 3 ≤ x := h2
    rw [e] at h2
    rw [show isN x n = true from decide_eq_true ⟨h, h2⟩]; rfl
set_option maxRecDepth 10000 in
theorem c_whyOutside {x lo hi : Int32} : zFun l D C yX3_whyOutside cX3_whyOutside 3 (some .int) (zR 0) [.int x, .int lo, .int hi] [] (fun _ rv => rv = some (.int (whO x lo hi))) := by
  refine zFun_of (by decide) oX3_whyOutside tbX3 (Nat.le_of_ble_eq_true rfl) (fun Z o => o.run 100 [] ⟨fun h => ⟨fun h2 => ⟨⟨_, rfl, rfl⟩, rfl, ?_⟩, fun h2 => ⟨⟨_, rfl, rfl⟩, rfl, ?_⟩⟩, fun h => ⟨⟨_, rfl, rfl⟩, rfl, ?_⟩⟩)
  · rw [whO, if_neg (Int32.not_lt.mpr h), if_neg (Int32.not_lt.mpr h2)]; rfl
  · rw [whO, if_neg (Int32.not_lt.mpr h), if_pos (Int32.not_le.mp h2)]
  · rw [whO, if_pos (Int32.not_le.mp h)]
set_option maxRecDepth 10000 in
theorem c_whyNoRun {x : Int32} {n : Nat} (hn : n ≤ 8) (e : (Y.1 0).1 4 = nI n) : zFun l D C yX3_whyNoRun cX3_whyNoRun 3 (some .int) (zR 1) [.ref 0, .int x] (yamW 53 Y ++ pol 53 RL) (fun w rv => w = yamW 53 Y ++ pol 53 RL ∧ rv = some (.int (whR x n))) := by
  refine zFun_of (by decide) oX3_whyNoRun tbX3 (Nat.le_of_ble_eq_true rfl) (fun Z o => o.run 100 [] ?_)
  show Z _ _ _ _
  refine o.cS vX3_67 (c_whyOutside (x := x) (lo := nI 1) (hi := nI 60)) (fun rv hpo => ?_)
  subst hpo
  refine o.run 100 [] ⟨fun h => ⟨⟨_, rfl, rfl⟩, rfl, rfl, ?_⟩, fun h => ⟨fun h2 => ⟨⟨_, rfl, rfl⟩, rfl, rfl, ?_⟩, fun h2 => ⟨⟨_, rfl, rfl⟩, rfl, rfl, ?_⟩⟩⟩
  · congr 2
    unfold whO at h ⊢
    unfold whR
    by_cases g1 : x < nI 1
    · rw [if_pos g1, if_pos g1]
    · rw [if_neg g1] at h ⊢
      rw [if_neg g1]
      by_cases g2 : nI 60 < x
      · rw [if_pos g2, if_pos g2]
      · rw [if_neg g2] at h; exact absurd (by decide) h
  · have h2 : ¬ (Y.1 0).1 4 = 0 := h2
    have hn0 : n ≠ 0 := fun q => h2 (by rw [e, q]; decide)
    congr 2
    unfold whO whR
    rw [if_neg hn0]
  · have h2 : (Y.1 0).1 4 = 0 := h2
    have hn0 : n = 0 := by
      rcases Nat.eq_zero_or_pos n with q | q
      · exact q
      · rw [e] at h2; exact absurd h2 (nI_ne0 q (by omega))
    congr 2
    unfold whO at h
    unfold whR
    by_cases g1 : x < nI 1
    · rw [if_pos g1] at h; exact absurd h (by decide)
    · rw [if_neg g1] at h ⊢
      by_cases g2 : nI 60 < x
      · rw [if_pos g2] at h; exact absurd h (by decide)
      · rw [if_neg g2, if_pos hn0]
set_option maxRecDepth 10000 in
theorem c_whyNoRunWith {v hi x : Int32} {n : Nat} (hn : n ≤ 8) (e : (Y.1 0).1 4 = nI n) : zFun l D C yX3_whyNoRunWith cX3_whyNoRunWith 5 (some .int) (zR 2) [.ref 0, .int v, .int hi, .int x] (yamW 53 Y ++ pol 53 RL) (fun w rv => w = yamW 53 Y ++ pol 53 RL ∧ rv = some (.int (whW v hi x n))) := by
  refine zFun_of (by decide) oX3_whyNoRunWith tbX3 (Nat.le_of_ble_eq_true rfl) (fun Z o => o.run 100 [] ⟨fun h => ?_, fun h => ⟨⟨_, rfl, rfl⟩, rfl, rfl, ?_⟩⟩)
  · show Z _ _ _ _
    refine o.cV vX3_151 (c_whyNoRun (x := x) hn e) (fun w rv _ hpo => ?_)
    obtain ⟨rfl, rfl⟩ := hpo
    refine o.run 100 [] ⟨fun h1 => ⟨⟨_, rfl, rfl⟩, rfl, rfl, ?_⟩, fun h1 => ⟨fun h2 => ⟨⟨_, rfl, rfl⟩, rfl, rfl, ?_⟩, fun h2 => ⟨⟨_, rfl, rfl⟩, rfl, rfl, ?_⟩⟩⟩
    · have h1 : whR x n = zi (-4) := h1
      rw [whW, if_neg (Int32.not_lt.mpr h), if_pos h1, h1]
    · have h1 : ¬ whR x n = zi (-4) := h1
      rw [whW, if_neg (Int32.not_lt.mpr h), if_neg h1, if_neg (Int32.not_lt.mpr h2)]
    · have h1 : ¬ whR x n = zi (-4) := h1
      rw [whW, if_neg (Int32.not_lt.mpr h), if_neg h1, if_pos (Int32.not_le.mp h2)]
  · rw [whW, if_pos (Int32.not_le.mp h)]
set_option maxRecDepth 10000 in
theorem c_refuse {k : Nat} (hk : 0 < k) (hk2 : k < 7) : zFun l D C yX3_refuse cX3_refuse 3 (some .int) (zR 0) [.ref 0, .int (-(nI k))] (yamW 53 Y ++ pol 53 RL) (fun w rv => w = yamW 53 (setY Y 2 (rfu (Y.2.1 2) k)) ++ pol 53 RL ∧ rv = some (.int (-(nI k)))) := by
  refine zFun_of (by decide) oX3_refuse tbX3 (Nat.le_of_ble_eq_true rfl) (fun Z o => ?_)
  have e : - -nI k = nI k := by simp
  refine o.run 100 [] ⟨fun h => ?_, fun h => ⟨fun h2 => ?_, fun h2 => ⟨k, e, hk2, k, e, hk2, ⟨_, rfl, rfl⟩, rfl, rfl, rfl⟩⟩⟩
  · have h : - -nI k ≤ 0 := h
    rw [e] at h
    exact absurd h (nI_nle hk (by omega))
  · have h2 : nI 7 ≤ - -nI k := h2
    rw [e] at h2
    exact absurd h2 (nI_ge hk2 (by omega))
set_option maxRecDepth 10000 in
theorem c_refuseFar {k : Nat} (hk : 0 < k) (hk2 : k < 7) : zFun l D C yX3_refuseFar cX3_refuseFar 2 (some .int) (zR 1) [.ref 0, .int (-(nI k))] (yamW 53 Y ++ pol 53 RL) (fun w rv => w = yamW 53 (setY Y 2 (rfu (Y.2.1 2) k)) ++ pol 53 RL ∧ rv = some (.int (-1000000000 + -(nI k)))) := by
  refine zFun_of (by decide) oX3_refuseFar tbX3 (Nat.le_of_ble_eq_true rfl) (fun Z o => o.run 100 [] ?_)
  show Z _ _ _ _
  refine o.cV (rest := [.int (-1000000000)]) vX3_48 (c_refuse hk hk2) (fun w rv _ hpo => ?_)
  obtain ⟨rfl, rfl⟩ := hpo
  exact o.run 100 [] ⟨⟨_, rfl, rfl⟩, rfl, rfl, rfl⟩
set_option maxRecDepth 10000 in
theorem c_exchange {m j : Nat} {f : Nat → Int32} {x : Int32} (hm : m < 2 ^ 31) (hj : j < m) : zFun l D C yX3_exchange cX3_exchange 4 (some .int) (zR 0) [.ref 0, .int (nI j), .int x] [.inl (0, m, f)] (fun w rv => w = [.inl (0, m, upd f j x)] ∧ rv = some (.int (f j))) := by
  refine zFun_of (by decide) oX3_exchange tbX3 (Nat.le_of_ble_eq_true rfl) (fun Z o => o.run 100 [2] ?_)
  show Z _ _ _ _
  refine o.ial (a := 0) rfl hm hj (o.run 100 [7] ?_)
  show Z _ _ _ _
  refine o.ias (a := 0) rfl hm hj (o.run 100 [] ⟨⟨_, rfl, rfl⟩, rfl, rfl, rfl⟩)
/-- what a run in mind needs of an island -/
def okM (RL : List zRu) (I : zI) (W n y s0 L sh : Nat) (sk v ru : Nat → Nat) (m : Nat) : Prop := okR RL ∧ okI I W n y s0 L sh sk v ru ∧ okL RL I.2.2 n ru ∧ y + m < 2 ^ 30 ∧ okN RL I
set_option maxRecDepth 10000 in
theorem c_faresInMind {W n y s0 L sh m : Nat} {sk v ru : Nat → Nat} (h : okM RL (Y.1 3) W n y s0 L sh sk v ru m) (h5 : (Y.1 3).2.1 5 = fun _ => nI 0) : zFun l D C yX3_faresInMind cX3_faresInMind 2 (some .int) (zR 4) [.ref 0, .int (nI m)] (yamW 53 Y ++ pol 53 RL) (fun w rv => (∃ M, w = yamW 53 (setJ Y 3 M) ++ pol 53 RL) ∧ rv = some (.int (frI RL (Y.1 3) W n y s0 L sh sk v ru m))) := by
  obtain ⟨hR, hI, hl, hy, -⟩ := h
  refine zFun_of (by decide) oX3_faresInMind tbX3 (Nat.le_of_ble_eq_true rfl) (fun Z o => o.run 100 [] ?_)
  show Z _ _ _ _
  refine o.yB 3 (by omega) (Q := fun M rv => aft (Y.1 3) M (y + m) (vI RL (Y.1 3) W n y s0 L sh sk v ru m) (tI RL (Y.1 3) W n y s0 L sh sk v ru m) ∧ rv = none) vX3_154 (c_passYears hR hI hl hy) (fun w rv hpo => ?_) (fun M rv hq => ?_)
  · obtain ⟨⟨M, rfl, ha⟩, rfl⟩ := hpo
    exact ⟨M, rfl, ha, rfl⟩
  · obtain ⟨ha, rfl⟩ := hq
    have e4 : M.1 4 = nI n := by rw [ha.1, ← hI.2.1.1]; rfl
    refine o.run 100 [] ?_
    show Z _ _ _ _
    refine o.yAr 3 (Y := setJ Y 3 M) (by omega) vX3_217 (c_allBrought (I := M) hI.2.1.2 e4) (fun rv hpo => ?_)
    subst hpo
    refine o.run 100 [] ⟨⟨_, rfl, rfl⟩, rfl, ⟨M, rfl⟩, ?_⟩
    rw [ha.2.2.2.2, frI]
    show some (Value.int (sm (tot n ((Y.1 3).2.1 0) _ _ ((Y.1 3).2.1 5) m) n)) = _
    rw [h5]
set_option maxRecDepth 10000 in
theorem c_faresNow {W n y s0 L sh m : Nat} {sk v ru : Nat → Nat} (h : okM RL (Y.1 0) W n y s0 L sh sk v ru m) : zFun l D C yX3_faresNow cX3_faresNow 2 (some .int) (zR 5) [.ref 0, .int (nI m)] (yamW 53 Y ++ pol 53 RL) (fun w rv => (∃ M, w = yamW 53 (setJ Y 3 M) ++ pol 53 RL) ∧ rv = some (.int (frI RL (Y.1 0) W n y s0 L sh sk v ru m))) := by
  refine zFun_of (by decide) oX3_faresNow tbX3 (Nat.le_of_ble_eq_true rfl) (fun Z o => o.run 100 [] ?_)
  show Z _ _ _ _
  refine o.yC 3 0 (by omega) (by omega) (by omega) vX3_163 (c_imagine (I := Y.1 3) h.2.2.2.2) (fun rv hpo => ?_)
  subst hpo
  refine o.run 100 [] ?_
  show Z _ _ _ _
  refine o.cV vX3_204 (c_faresInMind (Y := setJ Y 3 (imI (Y.1 3) (Y.1 0))) (W := W) (n := n) (y := y) (s0 := s0) (L := L) (sh := sh) (m := m) (sk := sk) (v := v) (ru := ru) h rfl) (fun w rv _ hpo => ?_)
  obtain ⟨⟨M, rfl⟩, rfl⟩ := hpo
  exact o.run 100 [] ⟨⟨_, rfl, rfl⟩, rfl, ⟨M, rfl⟩, rfl⟩
theorem okL_part {RL : List zRu} {I : zI} {n a b k : Nat} {ru : Nat → Nat} {ra rb : Nat} (ha : I.2.2 a = some ra ∧ ra < RL.length) (hb : I.2.2 b = some rb ∧ rb < RL.length) : okL RL I.2.2 n (rPart n a b k ru) := fun p hp => by
  unfold rPart
  rw [if_pos hp]
  split
  · exact ⟨ra, ha⟩
  · exact ⟨rb, hb⟩
theorem okI_part {I : zI} {W n y s0 L sh a b k : Nat} {sk v ru : Nat → Nat} (h : okI I W n y s0 L sh sk v ru) (ha : a < 10) (hb : b < 10) : okI (setA I 3 (mix n (fun p => if p < k then nI a else nI b) (I.2.1 3))) W n y s0 L sh sk v (rPart n a b k ru) := by
  obtain ⟨h1, h2, h3, h4, h5, h6, h7, h8⟩ := h
  refine ⟨h1, h2, h3, h4, h5, h6, h7, fun j => ?_⟩
  show mix n (fun p => if p < k then nI a else nI b) (I.2.1 3) j = nI (rPart n a b k ru j) ∧ _
  unfold rPart
  by_cases hj : j < n
  · rw [mix_lt hj, if_pos hj]
    split <;> exact ⟨rfl, by omega⟩
  · rw [mix_ge (by omega), if_neg hj]
    exact h8 j
set_option maxRecDepth 10000 in
theorem c_faresInParts {W n y s0 L sh m a b k ra rb : Nat} {sk v ru : Nat → Nat} (h : okM RL (Y.1 0) W n y s0 L sh sk v ru m) (ha : a < 10) (hb : b < 10) (hk : k ≤ 8) (hra : (Y.1 0).2.2 a = some ra ∧ ra < RL.length) (hrb : (Y.1 0).2.2 b = some rb ∧ rb < RL.length) : zFun l D C yX3_faresInParts cX3_faresInParts 5 (some .int) (zR 5) [.ref 0, .int (nI a), .int (nI b), .int (nI k), .int (nI m)] (yamW 53 Y ++ pol 53 RL) (fun w rv => (∃ M, w = yamW 53 (setJ Y 3 M) ++ pol 53 RL) ∧ rv = some (.int (frI RL (Y.1 0) W n y s0 L sh sk v (rPart n a b k ru) m))) := by
  refine zFun_of (by decide) oX3_faresInParts tbX3 (Nat.le_of_ble_eq_true rfl) (fun Z o => o.run 100 [] ?_)
  show Z _ _ _ _
  refine o.yC 3 0 (by omega) (by omega) (by omega) vX3_163 (c_imagine (I := Y.1 3) h.2.2.2.2) (fun rv hpo => ?_)
  subst hpo
  refine o.run 100 [] ?_
  show Z _ _ _ _
  refine o.yA 3 (Y := setJ Y 3 (imI (Y.1 3) (Y.1 0))) (Q := fun M rv => M = setA (imI (Y.1 3) (Y.1 0)) 3 (mix n (fun p => if p < k then nI a else nI b) ((Y.1 0).2.1 3)) ∧ rv = none) (by omega) vX3_222 (c_liveInParts (I := imI (Y.1 3) (Y.1 0)) (a := nI a) (b := nI b) (k := k) h.2.1.2.1.2 (by omega) h.2.1.2.1.1) (fun w rv hpo => ⟨_, hpo.1, rfl, hpo.2⟩) (fun M rv hq => ?_)
  obtain ⟨rfl, rfl⟩ := hq
  refine o.run 100 [] ?_
  show Z _ _ _ _
  refine o.cV vX3_204 (c_faresInMind (Y := setJ Y 3 (setA (imI (Y.1 3) (Y.1 0)) 3 (mix n (fun p => if p < k then nI a else nI b) ((Y.1 0).2.1 3)))) (W := W) (n := n) (y := y) (s0 := s0) (L := L) (sh := sh) (m := m) (sk := sk) (v := v) (ru := rPart n a b k ru) ⟨h.1, okI_part (I := imI (Y.1 3) (Y.1 0)) h.2.1 ha hb, okL_part (I := Y.1 0) hra hrb, h.2.2.2.1, h.2.2.2.2⟩ rfl) (fun w rv _ hpo => ?_)
  obtain ⟨⟨M, rfl⟩, rfl⟩ := hpo
  exact o.run 100 [] ⟨⟨_, rfl, rfl⟩, rfl, ⟨M, rfl⟩, rfl⟩
end MM
