/-! what there is, without any machine: the state, and what each call answers and makes of it -/
/-- numbers (0 ways, 1 weathers in the sky, 2 rules, 3 people, 4 the year, 5 show); what ways bring; rows (0 sky, 1 way of each, 2 rule of each); rows (0 sees, 1 brought); the rules -/
abbrev zT : Type := (Nat → Nat) × (Nat → Int32) × (Nat → Nat → Nat) × (Nat → Nat → Int32) × (Nat → Int32 → Int32 × Nat)
/-- now; the image; the text; refusals -/
abbrev zF : Type := zT × Option zT × (Nat × (Nat → Int32)) × (Nat → Int32)
def updN (f : Nat → Nat) (k x : Nat) : Nat → Nat := fun j => if j = k then x else f j
def tN (t : zT) (k x : Nat) : zT := (updN t.1 k x, t.2)
def tB (t : zT) (f : Nat → Int32) : zT := (t.1, f, t.2.2)
def tR (t : zT) (k : Nat) (f : Nat → Nat) : zT := (t.1, t.2.1, fun j => if j = k then f else t.2.2.1 j, t.2.2.2)
def tX (t : zT) (k : Nat) (f : Nat → Int32) : zT := (t.1, t.2.1, t.2.2.1, fun j => if j = k then f else t.2.2.2.1 j, t.2.2.2.2)
def tD (t : zT) (f : Nat → Int32 → Int32 × Nat) : zT := (t.1, t.2.1, t.2.2.1, t.2.2.2.1, f)
abbrev cl (x : Int32) : Nat := x.toNatClampNeg
def okT (t : zT) (c : Nat) : Prop := (t.1 0 ≤ 6 ∧ 0 < t.1 1 ∧ t.1 1 ≤ 24 ∧ t.1 2 ≤ 10 ∧ t.1 3 ≤ 8 ∧ t.1 4 ≤ 60 * c ∧ t.1 5 ≤ 24) ∧ (∀ j, ∃ k, k < 100 ∧ t.2.1 j = nI k) ∧ (∀ j, t.2.2.1 0 j < 4 ∧ t.2.2.1 1 j < 6 ∧ t.2.2.1 2 j < 10) ∧ (∀ p, p < t.1 3 → t.2.2.1 2 p < t.1 2 ∧ t.2.2.1 1 p < t.1 0) ∧ (∀ r x, r < t.1 2 → (t.2.2.2.2 r x).2 < 100 ∧ ((t.2.2.2.2 r x).1 = nI 116 → 0 < (t.2.2.2.2 r x).2))
-- runs
def nob : Nat → Bool := fun _ => false
def tT (t : zT) : Nat → Nat := fun i => t.2.2.1 0 ((t.1 4 + i) % t.1 1)
def rV (t : zT) (bl : Nat → Bool) (se : Nat → Int32) (sh : Nat) (ru tw : Nat → Nat) (i : Nat) : Nat → Nat := vat (t.1 3) (t.1 0) t.2.1 (seeS sh bl se) (fun p x => t.2.2.2.2 (ru p) x) tw (t.1 4) (t.2.2.1 1) i
def rG (t : zT) (bl : Nat → Bool) (se : Nat → Int32) (sh : Nat) (ru tw : Nat → Nat) (m : Nat) : Nat → Int32 := tot (t.1 3) t.2.1 (rV t bl se sh ru tw) tw (fun _ => nI 0) m
def rF (t : zT) (bl : Nat → Bool) (se : Nat → Int32) (sh : Nat) (ru tw : Nat → Nat) (m : Nat) : Int32 := sm (rG t bl se sh ru tw m) (t.1 3)
/-- as it is now, but for the rules lived by -/
abbrev rVn (t : zT) (ru : Nat → Nat) (i : Nat) : Nat → Nat := rV t nob (t.2.2.2.1 0) (t.1 5) ru (tT t) i
abbrev rGn (t : zT) (ru : Nat → Nat) (m : Nat) : Nat → Int32 := rG t nob (t.2.2.2.1 0) (t.1 5) ru (tT t) m
abbrev rFn (t : zT) (ru : Nat → Nat) (m : Nat) : Int32 := rF t nob (t.2.2.2.1 0) (t.1 5) ru (tT t) m
abbrev ruT (t : zT) : Nat → Nat := t.2.2.1 2
def alk (n : Nat) (v : Nat → Nat) : Bool := decide (cnt (fun p => decide (v p = v 0)) n = n)
def wrg (t : zT) (i : Nat) : Bool := alk (t.1 3) (rVn t (ruT t) i) && decide (t.2.1 (rVn t (ruT t) i 0 * 4 + tT t i) < t.2.1 (bst t.2.1 (tT t i) (t.1 0 - 1) * 4 + tT t i))
/-- the refusal of a run of x years: 0 none -/
def whK (x : Int32) (n : Nat) : Nat := if x < nI 1 then 4 else if nI 60 < x then 6 else if n = 0 then 3 else 0
def whKW (v hi x : Int32) (n : Nat) : Nat := if v < 0 then 4 else if x < nI 1 then 4 else if hi < v then 6 else if nI 60 < x then 6 else if n = 0 then 3 else 0
-- calls
abbrev zA : Type := Int32 × zF
def sRf (S : zF) (k : Nat) : zA := (-(nI k), (S.1, S.2.1, S.2.2.1, rfu S.2.2.2 k))
def sRff (S : zF) (k : Nat) : zA := (-1000000000 + -(nI k), (S.1, S.2.1, S.2.2.1, rfu S.2.2.2 k))
def sW (S : zF) (t : zT) : zF := (t, S.2)
def sRun (S : zF) (x : Int32) (f : Nat → zA) : zA := if whK x (S.1.1 3) = 0 then f (cl x) else sRf S (whK x (S.1.1 3))
def sWay (S : zF) (a b c d : Int32) : zA := if a < 0 ∨ b < 0 ∨ c < 0 ∨ d < 0 then sRf S 4 else if nI 99 < a ∨ nI 99 < b ∨ nI 99 < c ∨ nI 99 < d ∨ S.1.1 0 = 6 then sRf S 6
  else (nI (S.1.1 0), sW S (tN (tB S.1 (upd (upd (upd (upd S.1.2.1 (S.1.1 0 * 4) a) (S.1.1 0 * 4 + 1) b) (S.1.1 0 * 4 + 2) c) (S.1.1 0 * 4 + 3) d)) 0 (S.1.1 0 + 1)))
def sBrings (S : zF) (w t v : Int32) : zA := if (isN w (S.1.1 0) && isN t 4) = true then (if v < 0 then sRf S 4 else if nI 99 < v then sRf S 6 else (S.1.2.1 (cl w * 4 + cl t), sW S (tB S.1 (upd S.1.2.1 (cl w * 4 + cl t) v)))) else sRf S 1
def sBestWay (S : zF) (t : Int32) : zA := if isN t 4 = true then (if S.1.1 0 = 0 then sRf S 3 else (nI (bst S.1.2.1 (cl t) (S.1.1 0 - 1)), S)) else sRf S 1
/-- two bits of x, eight bits of x -/
def wb2 (x : Int64) (j : Nat) : Nat := x.toBitVec.toNat / 2 ^ (2 * j) % 4
def wb8 (x : Int64) (j : Nat) : Nat := x.toBitVec.toNat / 2 ^ (8 * j) % 256
def mixN (k : Nat) (g f : Nat → Nat) : Nat → Nat := fun j => if j < k then g j else f j
def sSky (S : zF) (n : Int32) (x : Int64) : zA := if n < nI 1 then sRf S 4 else if nI 24 < n then sRf S 6 else (nI (S.1.1 1), sW S (tN (tR S.1 0 (mixN (cl n) (wb2 x) (S.1.2.2.1 0))) 1 (cl n)))
def sWeather (S : zF) (y : Int32) : zA := if y < 0 then sRf S 4 else if 999999 < y then sRf S 6 else (nI (S.1.2.2.1 0 (cl y % S.1.1 1)), S)
def sFeed (S : zF) (n : Int32) (x : Int64) : zA := if n < nI 1 then sRf S 4 else if nI 8 < n then sRf S 6 else if 24 < S.2.2.1.1 + cl n then sRf S 6
  else (nI (S.2.2.1.1 + cl n), (S.1, S.2.1, (S.2.2.1.1 + cl n, fun j => if j < S.2.2.1.1 then S.2.2.1.2 j else nI (wb8 x (j - S.2.2.1.1))), S.2.2.2))
def sPerson (S : zF) (w r : Int32) : zA := if (isN w (S.1.1 0) && isN r (S.1.1 2)) = true then (if S.1.1 3 = 8 then sRf S 6 else (nI (S.1.1 3), sW S (tN (tX (tX (tR (tR S.1 1 (updN (S.1.2.2.1 1) (S.1.1 3) (cl w))) 2 (updN (S.1.2.2.1 2) (S.1.1 3) (cl r))) 0 (upd (S.1.2.2.2.1 0) (S.1.1 3) (nI 255))) 1 (upd (S.1.2.2.2.1 1) (S.1.1 3) (nI 0))) 3 (S.1.1 3 + 1)))) else sRf S 1
def sSees (S : zF) (p x : Int32) : zA := if isN p (S.1.1 3) = true then (if x < 0 then sRf S 4 else if nI 255 < x then sRf S 6 else (S.1.2.2.2.1 0 (cl p), sW S (tX S.1 0 (upd (S.1.2.2.2.1 0) (cl p) x)))) else sRf S 1
def sLives (S : zF) (p r : Int32) : zA := if (isN p (S.1.1 3) && isN r (S.1.1 2)) = true then (nI (ruT S.1 (cl p)), sW S (tR S.1 2 (updN (ruT S.1) (cl p) (cl r)))) else sRf S 1
def sPlants (S : zF) (p w : Int32) : zA := if (isN p (S.1.1 3) && isN w (S.1.1 0)) = true then (nI (S.1.2.2.1 1 (cl p)), sW S (tR S.1 1 (updN (S.1.2.2.1 1) (cl p) (cl w)))) else sRf S 1
def sShow (S : zF) (x : Int32) : zA := if x < 0 then sRf S 4 else if nI 24 < x then sRf S 6 else (nI (S.1.1 5), sW S (tN S.1 5 (cl x)))
def sOf (S : zF) (p w : Int32) : zA := if isN p (S.1.1 3) = true then (if w = nI 0 then (nI (S.1.2.2.1 1 (cl p)), S) else if w = nI 1 then (nI (ruT S.1 (cl p)), S) else if w = nI 2 then (S.1.2.2.2.1 0 (cl p), S) else if w = nI 3 then (S.1.2.1 (S.1.2.2.1 1 (cl p) * 4 + tT S.1 0), S) else if w = nI 4 then (S.1.2.2.2.1 1 (cl p), S) else sRf S 2) else sRf S 1
def sNext (S : zF) (p : Int32) : zA := if isN p (S.1.1 3) = true then (nI (rVn S.1 (ruT S.1) 1 (cl p)), S) else sRf S 1
def goT (t : zT) (m : Nat) : zT := tN (tX (tR t 1 (rVn t (ruT t) m)) 1 (mix (t.1 3) (fun p => t.2.2.2.1 1 p + rGn t (ruT t) m p) (t.2.2.2.1 1))) 4 (t.1 4 + m)
def sGo (S : zF) (x : Int32) : zA := sRun S x fun m => (nI (S.1.1 4 + m), sW S (goT S.1 m))
def sShare (S : zF) (w : Int32) : zA := if isN w (S.1.1 0) = true then (nI (cnt (fun p => decide (S.1.2.2.1 1 p = cl w)) (S.1.1 3)), S) else sRf S 1
def sFares (S : zF) (x : Int32) : zA := sRun S x fun m => (rFn S.1 (ruT S.1) m, S)
def sWrong (S : zF) (x : Int32) : zA := sRun S x fun m => (nI (cnt (wrg S.1) m), S)
def sAlike (S : zF) (x : Int32) : zA := sRun S x fun m => (fndI (fnd (fun i => alk (S.1.1 3) (rVn S.1 (ruT S.1) i)) (m + 1) 0), S)
def sGain (S : zF) (p r x : Int32) : zA := if (isN p (S.1.1 3) && isN r (S.1.1 2)) = true then (if whK x (S.1.1 3) = 0 then (rGn S.1 (rOne (cl p) (cl r) (ruT S.1)) (cl x) (cl p) - rGn S.1 (ruT S.1) (cl x) (cl p), S) else sRff S (whK x (S.1.1 3))) else sRff S 1
/-- person p would gain by rule r -/
def gnr (t : zT) (m p r : Nat) : Bool := decide (rGn t (ruT t) m p < rGn t (rOne p r (ruT t)) m p)
def fnd2 (f : Nat → Nat → Bool) (rc : Nat) : Nat → Nat → Option (Nat × Nat)
  | 0, _ => none
  | c + 1, p => match fnd (f p) rc 0 with
    | some r => some (p, r)
    | none => fnd2 f rc c (p + 1)
def fnd2I : Option (Nat × Nat) → Int32
  | some (p, r) => nI (10 * p + r)
  | none => zi (-9)
def sRest (S : zF) (x : Int32) : zA := sRun S x fun m => (fnd2I (fnd2 (gnr S.1 m) (S.1.1 2) (S.1.1 3) 0), S)
def allR (t : zT) (r : Nat) : Nat → Nat := rPart (t.1 3) r r 0 (ruT t)
def sIfAll (S : zF) (r x : Int32) : zA := if isN r (S.1.1 2) = true then sRun S x (fun m => (rFn S.1 (allR S.1 (cl r)) m, S)) else sRf S 1
def sBestRule (S : zF) (x : Int32) : zA := sRun S x fun m => (nI (amx (fun r => rFn S.1 (allR S.1 r) m) (S.1.1 2 - 1)), S)
/-- nobody gains by the other rule, in parts -/
def nbT (t : zT) (a b m k : Nat) (p : Nat) : Bool := decide (¬ rGn t (rPart (t.1 3) a b k (ruT t)) m p < rGn t (rOne p (if p < k then b else a) (rPart (t.1 3) a b k (ruT t))) m p)
def sPart (S : zF) (a b w x : Int32) : zA := if (isN a (S.1.1 2) && isN b (S.1.1 2)) = true then (if w = nI 0 then sRun S x (fun m => (nI (amx (fun k => rFn S.1 (rPart (S.1.1 3) (cl a) (cl b) k (ruT S.1)) m) (S.1.1 3)), S)) else if w = nI 1 then sRun S x (fun m => (fndI (fnd (fun k => allN (nbT S.1 (cl a) (cl b) m k) (S.1.1 3)) (S.1.1 3 + 1) 0), S)) else sRf S 2) else sRf S 1
def edT (t : zT) (L x y : Nat) : Nat → Nat := fun i => skE L x y (t.2.2.1 0) (i % (2 * L))
def edF (t : zT) (x y m r L : Nat) : Int32 := rF t nob (t.2.2.2.1 0) (t.1 5) (allR t r) (edT t L x y) m
def sEdge (S : zF) (a b w x : Int32) : zA := if (isN a (S.1.1 2) && isN b (S.1.1 2)) = true ∧ ¬ w < 0 ∧ cl w / 10 < 4 ∧ cl w % 10 < 4 then sRun S x (fun m => (fndI (fnd (fun L => decide (edF S.1 (cl w / 10) (cl w % 10) m (cl b) L < edF S.1 (cl w / 10) (cl w % 10) m (cl a) L)) 12 1), S)) else sRf S 1
def sRunF (S : zF) (v hi x : Int32) (f : Nat → zA) : zA := if whKW v hi x (S.1.1 3) = 0 then f (cl x) else sRff S (whKW v hi x (S.1.1 3))
def sLess (S : zF) (k x : Int32) : zA := sRunF S k (nI 7) x fun m => (rF S.1 nob (fun p => ahB (S.1.1 3) p (cl k)) (S.1.1 5) (ruT S.1) (tT S.1) m - rFn S.1 (ruT S.1) m, S)
def sShown (S : zF) (s x : Int32) : zA := sRunF S s (nI 24) x fun m => (rF S.1 nob (S.1.2.2.2.1 0) (cl s) (ruT S.1) (tT S.1) m - rFn S.1 (ruT S.1) m, S)
def sBlind (S : zF) (x : Int32) : zA := sRun S x fun m => (nI (amx (fun p => rF S.1 (fun o => decide (p = o)) (S.1.2.2.2.1 0) (S.1.1 5) (ruT S.1) (tT S.1) m) (S.1.1 3 - 1)), S)
def sImage (S : zF) : zA := (nI (S.1.1 4), (S.1, some S.1, S.2.2))
def sRestore (S : zF) : zA := match S.2.1 with
  | some t => (nI (t.1 4), (t, S.2))
  | none => sRf S 3
def sCount (S : zF) (w : Int32) : zA := if w = nI 0 then (nI (S.1.1 0), S) else if w = nI 1 then (nI (S.1.1 3), S) else if w = nI 2 then (nI (S.1.1 2), S) else if w = nI 3 then (nI (S.1.1 4), S) else if w = nI 4 then (nI (S.1.1 1), S) else if w = nI 5 then (nI (S.1.1 5), S) else if w = nI 6 then (sm (S.1.2.2.2.1 1) (S.1.1 3), S) else if w = nI 7 then (nI S.2.2.1.1, S) else if nI 11 ≤ w ∧ w ≤ nI 16 then (S.2.2.2 (cl w - 10), S) else (zi (-9), S)
-- the class's island as such a state
def repI (RL : List zRu) (I : zI) (t : zT) : Prop :=
  (I.1 0 = nI (t.1 0) ∧ I.1 1 = nI (t.1 1) ∧ I.1 2 = nI 0 ∧ I.1 3 = nI (t.1 2) ∧ I.1 4 = nI (t.1 3) ∧ I.1 5 = nI (t.1 4) ∧ I.1 6 = nI (t.1 5) ∧ I.1 7 = nI 0) ∧
  (I.2.1 0 = t.2.1 ∧ I.2.1 1 = (fun j => nI (t.2.2.1 0 j)) ∧ I.2.1 2 = (fun j => nI (t.2.2.1 1 j)) ∧ I.2.1 3 = (fun j => nI (t.2.2.1 2 j)) ∧ I.2.1 4 = t.2.2.2.1 0 ∧ I.2.1 5 = t.2.2.2.1 1) ∧
  (∀ r, r < t.1 2 → ∃ i, I.2.2 r = some i ∧ i < RL.length ∧ ∀ x, dnI RL I.2.2 r x = t.2.2.2.2 r x) ∧ okN RL I
def repY (RL : List zRu) (Y : zY) (S : zF) (c : Nat) : Prop :=
  okR RL ∧ (repI RL (Y.1 0) S.1 ∧ okT S.1 c) ∧ (match S.2.1 with
    | some t => repI RL (Y.1 1) t ∧ okT t c ∧ Y.2.2 2 = nI 1
    | none => Y.2.2 2 = nI 0) ∧ (Y.2.2 0 = nI S.2.2.1.1 ∧ S.2.2.1.1 ≤ 24 ∧ ∀ j, j < S.2.2.1.1 → Y.2.1 1 j = S.2.2.1.2 j) ∧ Y.2.1 2 = S.2.2.2
theorem ga_eq {RL : List zRu} {I : zI} {t : zT} {bl : Nat → Bool} {se : Nat → Int32} {sh s0 L m : Nat} {ru sk : Nat → Nat} (hb : I.2.1 0 = t.2.1) (hd : ∀ p x, p < t.1 3 → dnI RL I.2.2 (ru p) x = t.2.2.2.2 (ru p) x) (hs : ∀ y p o, p < t.1 3 → o < t.1 3 → sb (seB sh y (I.2.1 4 p) (I.1 7) p) o = seeS sh bl se y p o) :
    gaI RL I (t.1 0) (t.1 3) (t.1 4) s0 L sh sk (t.2.2.1 1) ru m = rG t bl se sh ru (fun i => sk ((t.1 4 + i - s0) % L)) m := by
  unfold gaI rG
  rw [hb]
  refine tot_congr m (fun i _ => ⟨?_, rfl⟩)
  unfold vI rV
  rw [hb]
  exact vat_congr hs hd i (fun _ _ => rfl)
theorem vI_eq {RL : List zRu} {I : zI} {t : zT} {bl : Nat → Bool} {se : Nat → Int32} {sh s0 L i : Nat} {ru sk : Nat → Nat} (hb : I.2.1 0 = t.2.1) (hd : ∀ p x, p < t.1 3 → dnI RL I.2.2 (ru p) x = t.2.2.2.2 (ru p) x) (hs : ∀ y p o, p < t.1 3 → o < t.1 3 → sb (seB sh y (I.2.1 4 p) (I.1 7) p) o = seeS sh bl se y p o) :
    vI RL I (t.1 0) (t.1 3) (t.1 4) s0 L sh sk (t.2.2.1 1) ru i = rV t bl se sh ru (fun i => sk ((t.1 4 + i - s0) % L)) i := by
  unfold vI rV
  rw [hb]
  exact vat_congr hs hd i (fun _ _ => rfl)
theorem rep_see {RL : List zRu} {I : zI} {t : zT} {c sh : Nat} (h : repI RL I t) (ht : okT t c) : ∀ y p o, p < t.1 3 → o < t.1 3 → sb (seB sh y (I.2.1 4 p) (I.1 7) p) o = seeS sh nob (t.2.2.2.1 0) y p o := fun y p o hp ho => by
  have hn : t.1 3 ≤ 8 := ht.1.2.2.2.2.1
  rw [see_class (by omega) (by omega), h.1.2.2.2.2.2.2.2, sb_zero, h.2.1.2.2.2.2.1]
  rfl
theorem rep_dn {RL : List zRu} {I : zI} {t : zT} (h : repI RL I t) {ru : Nat → Nat} (hr : ∀ p, p < t.1 3 → ru p < t.1 2) : ∀ p x, p < t.1 3 → dnI RL I.2.2 (ru p) x = t.2.2.2.2 (ru p) x := fun p x hp => by
  obtain ⟨i, -, -, h3⟩ := h.2.2.1 (ru p) (hr p hp)
  exact h3 x
theorem rep_ga {RL : List zRu} {I : zI} {t : zT} {c m : Nat} {ru : Nat → Nat} (h : repI RL I t) (ht : okT t c) (hr : ∀ p, p < t.1 3 → ru p < t.1 2) : gaI RL I (t.1 0) (t.1 3) (t.1 4) 0 (t.1 1) (t.1 5) (t.2.2.1 0) (t.2.2.1 1) ru m = rGn t ru m := ga_eq h.2.1.1 (rep_dn h hr) (rep_see h ht)
theorem rep_fr {RL : List zRu} {I : zI} {t : zT} {c m : Nat} {ru : Nat → Nat} (h : repI RL I t) (ht : okT t c) (hr : ∀ p, p < t.1 3 → ru p < t.1 2) : frI RL I (t.1 0) (t.1 3) (t.1 4) 0 (t.1 1) (t.1 5) (t.2.2.1 0) (t.2.2.1 1) ru m = rFn t ru m := congrArg (fun f => sm f (t.1 3)) (rep_ga h ht hr)
theorem rep_okM {RL : List zRu} {I : zI} {t : zT} {c m : Nat} (hR : okR RL) (h : repI RL I t) (ht : okT t c) (hc : c ≤ 100) (hm : m ≤ 60) : okM RL I (t.1 0) (t.1 3) (t.1 4) 0 (t.1 1) (t.1 5) (t.2.2.1 0) (t.2.2.1 1) (ruT t) m := by
  obtain ⟨⟨a0, a1, a2, a3, a4, a5, a6, a7⟩, ⟨b0, b1, b2, b3, b4, b5⟩, h3, h4⟩ := h
  obtain ⟨⟨c0, c1, c2, c3, c4, c5, c6⟩, d1, d2, d3, d4⟩ := ht
  refine ⟨hR, ⟨⟨a0, c0⟩, ⟨a4, c4⟩, ⟨a5, a2, Nat.zero_le _⟩, ⟨a1, c1, c2⟩, ⟨a6, c6⟩, fun j => ⟨by rw [b1], (d2 j).1⟩, fun j => ⟨by rw [b2], (d2 j).2.1⟩, fun j => ⟨by rw [b3], (d2 j).2.2⟩⟩, fun p hp => ?_, ?_, h4⟩
  · obtain ⟨i, g1, g2, -⟩ := h3 (ruT t p) (d3 p hp).1
    exact ⟨i, g1, g2⟩
  · have : 60 * c ≤ 6000 := by omega
    omega
