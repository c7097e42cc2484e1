/-! the choice of one, years gone by -/
section ZOQ3
variable {l : Launch} {D : va_G} {C : zC} {d : Nat} {tab : List (Nat × Instr)} {fl : Nat → Option (Nat × Nat × Nat)} {ki : Nat → Option Int32} {kj : Nat → Option Int64} {Kr : zS → Option Value → Prop} {Z : zP} {own : String} {idx pc : Nat} {ws : zS} {lv : zL}
theorem zOps.aal (o : zOps l D C own tab fl ki kj d Kr Z) {a n j : Nat} {f : Nat → Option Nat} {r : List Value} (ha : ws[a]? = some (.inr (.inl (n, f)))) (hj : j < n) (hn : n < 2 ^ 31) (kk : Z (pc + 1) ws lv (va_rf (f j) :: r)) (hd : zfd tab pc = some .aaload := by rfl) : Z pc ws lv (.int (nI j) :: .ref a :: r) := o.2.2.2.2.1 pc ws lv a n j f r hd ha hj hn kk
theorem zOps.aas (o : zOps l D C own tab fl ki kj d Kr Z) {a n j : Nat} {f : Nat → Option Nat} {ov : Option Nat} {r : List Value} (ha : ws[a]? = some (.inr (.inl (n, f)))) (hj : j < n) (hn : n < 2 ^ 31) (hv : ∀ v, ov = some v → ∃ fs, ws[v]? = some (.inr (.inr (2, fs)))) (kk : Z (pc + 1) (ws.set a (.inr (.inl (n, va_up f j ov)))) lv r) (hd : zfd tab pc = some .aastore := by rfl) : Z pc ws lv (va_rf ov :: .int (nI j) :: .ref a :: r) := o.2.2.2.2.2.1 pc ws lv a n j f ov r hd ha hj hn hv kk
theorem zOps.cp (o : zOps l D C own tab fl ki kj d Kr Z) {a0 a1 n0 n1 : Nat} (sp dp n : Nat) {f g : Nat → Int32} (hl : Jvm.Cond.methodLink own idx arraycopyName ∈ zG) (h0 : ws[a0]? = some (.inl (0, n0, f))) (h1 : ws[a1]? = some (.inl (0, n1, g))) (h2 : sp + n ≤ n0) (h3 : dp + n ≤ n1) (h4 : n0 < 2 ^ 31) (h5 : n1 < 2 ^ 31) (kk : Z (pc + 3) (ws.set a1 (.inl (0, n1, va_cpy f g sp dp n))) lv []) (hd : zfd tab pc = some (.invokestatic idx) := by rfl) (hd0 : 0 < d := by exact Nat.le_of_ble_eq_true rfl) : Z pc ws lv [.int (nI n), .int (nI dp), .ref a1, .int (nI sp), .ref a0] := o.2.2.2.1 pc idx ws lv a0 a1 n0 n1 sp dp n f g hd hl h0 h1 h2 h3 h4 h5 hd0 kk
theorem zOps.xi (o : zOps l D C own tab fl ki kj d Kr Z) {st : List Value} {k n : Nat} {f : Nat → Int32} (a : Nat) (g : Nat → Int32) (ha : ws[a]? = some (.inl (k, n, f))) (hx : ∀ j, j < n → f j = g j) (kk : Z pc (ws.set a (.inl (k, n, g))) lv st) : Z pc ws lv st := o.2.2.2.2.2.2.1 pc ws lv st a k n f g ha hx kk
theorem zOps.xr (o : zOps l D C own tab fl ki kj d Kr Z) {st : List Value} {n : Nat} {f : Nat → Option Nat} (a : Nat) (g : Nat → Option Nat) (ha : ws[a]? = some (.inr (.inl (n, f)))) (hx : ∀ j, j < n → f j = g j) (kk : Z pc (ws.set a (.inr (.inl (n, g)))) lv st) : Z pc ws lv st := o.2.2.2.2.2.2.2 pc ws lv st a n f g ha hx kk
end ZOQ3
theorem cpy_mix (f g : Nat → Int32) (n : Nat) : va_cpy f g 0 0 n = mix n f g := by
  funext k
  unfold va_cpy mix
  by_cases h : k < n
  · rw [if_pos ⟨Nat.zero_le _, by omega⟩, if_pos h]; congr 1; omega
  · rw [if_neg (by omega), if_neg h]
theorem cpX0 : Jvm.Cond.methodLink RX0 55 arraycopyName ∈ zG := zin_mem (h := 407) (by decide +kernel)
theorem cpX3 : Jvm.Cond.methodLink RX3 233 arraycopyName ∈ zG := zin_mem (h := 482) (by decide +kernel)
/-- the rules as they stand: numbers 0 .. -/
def okR (RL : List zRu) : Prop := wfR RL ∧ ∀ (i : Nat) (u : zRu), RL[i]? = some u → ∃ K, K < 100 ∧ u.2.1 = nI K
def dnI (RL : List zRu) (rl : Nat → Option Nat) (r : Nat) (x : Int32) : Int32 × Nat := match rl r with
  | some i => (match RL[smp RL x 4 i]? with
    | some u => (u.1, u.2.1.toNatClampNeg)
    | none => (0, 0))
  | none => (0, 0)
def yst (n W : Nat) (b : Nat → Int32) (see : Nat → Nat → Bool) (dn : Nat → Int32 → Int32 × Nat) (t y : Nat) (v : Nat → Nat) : Nat → Nat := fun p =>
  if p < n then cho n W y v (see p) (fun o => b (v o * 4 + t)) p (dn p (b (v p * 4 + t))).1 (dn p (b (v p * 4 + t))).2 else v p
def vat (n W : Nat) (b : Nat → Int32) (see : Nat → Nat → Nat → Bool) (dn : Nat → Int32 → Int32 × Nat) (tw : Nat → Nat) (y0 : Nat) (v : Nat → Nat) : Nat → Nat → Nat
  | 0 => v
  | i + 1 => yst n W b (see (y0 + i)) dn (tw i) (y0 + i) (vat n W b see dn tw y0 v i)
def tot (n : Nat) (b : Nat → Int32) (vv : Nat → Nat → Nat) (tw : Nat → Nat) (t0 : Nat → Int32) : Nat → Nat → Int32
  | 0 => t0
  | i + 1 => mix n (fun p => tot n b vv tw t0 i p + b (vv i p * 4 + tw i)) (tot n b vv tw t0 i)
theorem yst_lt {n W : Nat} {b : Nat → Int32} {see : Nat → Nat → Bool} {dn : Nat → Int32 → Int32 × Nat} {t y : Nat} {v : Nat → Nat} (hW : W ≤ 6) (hv : ∀ j, v j < 6) : ∀ j, yst n W b see dn t y v j < 6 := fun j => by
  unfold yst
  split
  · exact cho_lt hW hv
  · exact hv j
theorem vat_lt {n W : Nat} {b : Nat → Int32} {see : Nat → Nat → Nat → Bool} {dn : Nat → Int32 → Int32 × Nat} {tw : Nat → Nat} {y0 : Nat} {v : Nat → Nat} (hW : W ≤ 6) (hv : ∀ j, v j < 6) : ∀ i j, vat n W b see dn tw y0 v i j < 6
  | 0 => hv
  | i + 1 => yst_lt hW (vat_lt hW hv i)
theorem bsn_congr {see : Nat → Bool} {b1 b2 : Nat → Int32} {p n : Nat} (hp : p < n) (h : ∀ q, q < n → b1 q = b2 q) : ∀ k, k ≤ n → bsn see b1 p k = bsn see b2 p k
  | 0, _ => rfl
  | k + 1, hk => by
    have h1 := bsn_congr hp h k (by omega) (see := see)
    have h2 := bsn_lt (see := see) (br := b2) hp k (by omega)
    unfold bsn
    rw [h1, h _ h2, h k (by omega)]
theorem cho_congr {n W y : Nat} {v : Nat → Nat} {see : Nat → Bool} {b1 b2 : Nat → Int32} {p : Nat} {sg : Int32} {K : Nat} (hp : p < n) (h : ∀ q, q < n → b1 q = b2 q) : cho n W y v see b1 p sg K = cho n W y v see b2 p sg K := by
  unfold cho
  rw [bsn_congr hp h n (Nat.le_refl n)]
section PY
variable {l : Launch} {D : va_G} {C : zC} {RB : Nat} {I : zI} {RL : List zRu}
set_option maxRecDepth 10000 in
theorem c_choiceOf {n p W y r : Nat} {v ru : Nat → Nat} (hR : okR RL) (hn : n ≤ 8) (hp : p < n) (hW : W ≤ 6) (hy : y < 2 ^ 30) (e4 : I.1 4 = nI n) (e0 : I.1 0 = nI W) (e5 : I.1 5 = nI y) (ev : ∀ j, I.2.1 2 j = nI (v j)) (hv : ∀ j, v j < 6) (er : I.2.1 3 p = nI (ru p)) (hru : ru p < 10) (erl : I.2.2 (ru p) = some r) (hr : r < RL.length) :
    zFun l D C yX0_choiceOf cX0_choiceOf 5 (some .int) (zR 2) [.ref 0, .int (nI p)] (isl 0 12 I ++ pol 12 RL) (fun w' rv => (∃ pl, w' = isl 0 12 (setA I 9 pl) ++ pol 12 RL) ∧ rv = some (.int (nI (cho n W y v (sb (I.2.1 7 p)) (I.2.1 6) p (dnI RL I.2.2 (ru p) (I.2.1 6 p)).1 (dnI RL I.2.2 (ru p) (I.2.1 6 p)).2)))) := by
  refine zFun_of (by decide) oX0_choiceOf tbX0 (Nat.le_of_ble_eq_true rfl) (fun Z o => ?_)
  have hs := smp_lt hR.1 (x := I.2.1 6 p) 4 r hr
  obtain ⟨⟨sg, num, o1, o2⟩, hu⟩ : ∃ u, RL[smp RL (I.2.1 6 p) 4 r]? = some u := ⟨_, List.getElem?_eq_getElem hs⟩
  obtain ⟨K, hK, eK⟩ := hR.2 _ _ hu
  have eK : num = nI K := eK
  have ed : dnI RL I.2.2 (ru p) (I.2.1 6 p) = (sg, K) := by
    unfold dnI
    rw [erl]
    show (match RL[smp RL (I.2.1 6 p) 4 r]? with
      | some u => (u.1, u.2.1.toNatClampNeg)
      | none => (0, 0)) = _
    rw [hu]
    show (sg, num.toNatClampNeg) = _
    rw [eK, nI_clamp (by omega)]
  have fin : ∀ x, cho n W y v (sb (I.2.1 7 p)) (I.2.1 6) p sg K = x → some (Value.int (nI x)) = some (Value.int (nI (cho n W y v (sb (I.2.1 7 p)) (I.2.1 6) p (dnI RL I.2.2 (ru p) (I.2.1 6 p)).1 (dnI RL I.2.2 (ru p) (I.2.1 6 p)).2))) := fun x h => by rw [ed, h]
  have hc : (isl 0 12 I ++ pol 12 RL)[smp RL (I.2.1 6 p) 4 r + 12]? = some (.inr (.inr (2, [.int sg, .int num, va_rf (o1.map (fun i => i + 12)), va_rf (o2.map (fun i => i + 12))]))) := by
    rw [List.getElem?_append_right (by rw [isl_len]; omega), isl_len, Nat.add_sub_cancel, pol_at, hu]; rfl
  obtain ⟨ur, hur⟩ : ∃ u, RL[r]? = some u := ⟨_, List.getElem?_eq_getElem hr⟩
  refine o.run 100 [] ⟨p, rfl, by omega, p, rfl, by omega, ?_⟩
  show Z _ _ _ _
  rw [er, ev p]
  refine o.aal (a := 3) rfl hru (by omega) ?_
  rw [erl]
  refine o.run 100 [] ⟨p, rfl, by omega, ?_⟩
  show Z _ _ _ _
  have hsb := zsb_pol (pre := isl 0 12 I) (RB := 12) RL rfl
  refine o.cVs (fun i => i + 12) (As := [.int (I.2.1 6 p)]) (b0 := r) (rest := []) vX0_117 (c_simpleFor hR.1 (x := I.2.1 6 p) hr) hsb (fun w rv _ hpo => ?_) ⟨2, _, _, by rw [pol_at, hur]; rfl, rfl, rfl⟩
  obtain ⟨rfl, rfl⟩ := hpo
  refine ⟨_, zpl_same hsb, ?_⟩
  refine o.run 100 [39] ?_
  show Z _ _ _ _
  refine o.gf (ci := 2) (j := 0) (kd := 2) rfl hc rfl ?_
  have hself : isl 0 12 I = isl 0 12 (setA I 9 (I.2.1 9)) := rfl
  refine o.run 100 [104] ⟨⟨fun h => ?_, fun h => ?_, fun h => ?_, fun h => ?_, trivial⟩, fun h => ?_⟩
  · have h : sg = nI 98 := h
    show Z _ _ _ _
    refine o.cVp (wc := isl 0 12 I) (tl := pol 12 RL) vX0_125 (c_bestSeen (v := v) hn hp e4) (fun w rv _ hpo => ?_)
    obtain ⟨rfl, rfl⟩ := hpo
    refine o.run 100 [] ⟨⟨_, rfl, rfl⟩, rfl, ⟨_, by rw [← hself]⟩, ?_⟩
    rw [ev]
    exact fin _ (by rw [cho, if_pos h])
  · have h : sg = nI 109 := h
    show Z _ _ _ _
    refine o.cVp (wc := isl 0 12 I) (tl := pol 12 RL) vX0_128 (c_mostSeen (v := v) hn hp hW e4 e0 ev hv) (fun w rv _ hpo => ?_)
    obtain ⟨⟨pl, rfl⟩, rfl⟩ := hpo
    refine o.run 100 [] ⟨⟨_, rfl, rfl⟩, rfl, ⟨pl, rfl⟩, ?_⟩
    exact fin _ (by rw [cho, if_neg (by rw [h]; decide), if_pos h])
  · have h : sg = nI 110 := h
    show Z _ _ _ _
    refine o.cVp (wc := isl 0 12 I) (tl := pol 12 RL) vX0_131 (c_nearSeen hn hp e4) (fun w rv _ hpo => ?_)
    obtain ⟨rfl, rfl⟩ := hpo
    refine o.run 100 [] ⟨⟨_, rfl, rfl⟩, rfl, ⟨_, by rw [← hself]⟩, ?_⟩
    rw [ev]
    exact fin _ (by rw [cho, if_neg (by rw [h]; decide), if_neg (by rw [h]; decide), if_pos h])
  · have h : sg = nI 116 := h
    show Z _ _ _ _
    refine o.gf (ci := 2) (j := 1) (kd := 2) rfl hc rfl ?_
    refine o.run 100 [] ?_
    show Z _ _ _ _
    rw [eK, e5]
    refine o.cS vX0_113 (c_isDivisor (k := K) (y := y) (by omega) hy) (fun rv hpo => ?_)
    subst hpo
    have ec : cho n W y v (sb (I.2.1 7 p)) (I.2.1 6) p sg K = (if 0 < K ∧ y % K = 0 then (if v p + 1 < W then v p + 1 else 0) else v p) := by
      rw [cho, if_neg (by rw [h]; decide), if_neg (by rw [h]; decide), if_neg (by rw [h]; decide), if_pos h]
    refine o.run 100 [] ⟨fun h1 => ?_, fun h1 => ?_⟩
    · have h1 := of_decide_eq_false ((zB_0 _).mp h1)
      refine ⟨⟨_, rfl, rfl⟩, rfl, ⟨_, by rw [← hself]⟩, ?_⟩
      exact fin _ (by rw [ec, if_neg h1])
    · have h1 : 0 < K ∧ y % K = 0 := by
        by_cases hq : 0 < K ∧ y % K = 0
        · exact hq
        · exact absurd ((zB_0 _).mpr (decide_eq_false hq)) h1
      show Z _ _ _ _
      refine o.cVp (wc := isl 0 12 I) (tl := pol 12 RL) vX0_137 (c_wayBehind (w := v p) (hv p) hW e0) (fun w rv _ hpo => ?_)
      obtain ⟨rfl, rfl⟩ := hpo
      refine o.run 100 [] ⟨⟨_, rfl, rfl⟩, rfl, ⟨_, by rw [← hself]⟩, ?_⟩
      exact fin _ (by rw [ec, if_pos h1])
  · obtain ⟨h1, h2, h3, h4, -⟩ := h
    have h1 : ¬ sg = nI 98 := h1
    have h2 : ¬ sg = nI 109 := h2
    have h3 : ¬ sg = nI 110 := h3
    have h4 : ¬ sg = nI 116 := h4
    refine ⟨⟨_, rfl, rfl⟩, rfl, ⟨_, by rw [← hself]⟩, ?_⟩
    exact fin _ (by rw [cho, if_neg h1, if_neg h2, if_neg h3, if_neg h4])
/-- an island behind some years: the year, the ways, what was brought have changed, and the rows for reckoning -/
def aft (I I' : zI) (y : Nat) (v : Nat → Nat) (tt : Nat → Int32) : Prop := I'.1 = upd I.1 5 (nI y) ∧ I'.2.2 = I.2.2 ∧ (I'.2.1 0 = I.2.1 0 ∧ I'.2.1 1 = I.2.1 1 ∧ I'.2.1 3 = I.2.1 3 ∧ I'.2.1 4 = I.2.1 4) ∧ I'.2.1 2 = (fun j => nI (v j)) ∧ I'.2.1 5 = tt
/-- the island can be lived on: W ways, n people, the year y, a sky of L weathers that began in year s0, shows -/
def okI (I : zI) (W n y s0 L sh : Nat) (sk v ru : Nat → Nat) : Prop :=
  (I.1 0 = nI W ∧ W ≤ 6) ∧ (I.1 4 = nI n ∧ n ≤ 8) ∧ (I.1 5 = nI y ∧ I.1 2 = nI s0 ∧ s0 ≤ y) ∧ (I.1 1 = nI L ∧ 0 < L ∧ L ≤ 24) ∧ (I.1 6 = nI sh ∧ sh ≤ 24) ∧ (∀ j, I.2.1 1 j = nI (sk j) ∧ sk j < 4) ∧ (∀ j, I.2.1 2 j = nI (v j) ∧ v j < 6) ∧ (∀ j, I.2.1 3 j = nI (ru j) ∧ ru j < 10)
/-- every one lives by a rule that is there -/
def okL (RL : List zRu) (rl : Nat → Option Nat) (n : Nat) (ru : Nat → Nat) : Prop := ∀ p, p < n → ∃ r, rl (ru p) = some r ∧ r < RL.length
/-- the ways after i years -/
abbrev vI (RL : List zRu) (I : zI) (W n y s0 L sh : Nat) (sk v ru : Nat → Nat) (i : Nat) : Nat → Nat :=
  vat n W (I.2.1 0) (fun y p o => sb (seB sh y (I.2.1 4 p) (I.1 7) p) o) (fun p x => dnI RL I.2.2 (ru p) x) (fun i => sk ((y + i - s0) % L)) y v i
abbrev tI (RL : List zRu) (I : zI) (W n y s0 L sh : Nat) (sk v ru : Nat → Nat) (i : Nat) : Nat → Int32 :=
  tot n (I.2.1 0) (vI RL I W n y s0 L sh sk v ru) (fun i => sk ((y + i - s0) % L)) (I.2.1 5) i
set_option maxRecDepth 10000 in
theorem c_passYears {W n y s0 L sh m : Nat} {sk v ru : Nat → Nat} (hR : okR RL) (hI : okI I W n y s0 L sh sk v ru) (hl : okL RL I.2.2 n ru) (hy : y + m < 2 ^ 30) :
    zFun l D C yX0_passYears cX0_passYears 4 none (zR 3) [.ref 0, .int (nI m)] (isl 0 12 I ++ pol 12 RL) (fun w' rv => (∃ I', w' = isl 0 12 I' ++ pol 12 RL ∧ aft I I' (y + m) (vI RL I W n y s0 L sh sk v ru m) (tI RL I W n y s0 L sh sk v ru m)) ∧ rv = none) := by
  obtain ⟨⟨e0, hW⟩, ⟨e4, hn⟩, ⟨e5, e2, h0⟩, ⟨e1, hL, hL2⟩, ⟨e6, hsh⟩, hsk, hv, hru⟩ := hI
  refine zFun_of (by decide) oX0_passYears tbX0 (Nat.le_of_ble_eq_true rfl) (fun Z o => ?_)
  have hvl : ∀ i j, vI RL I W n y s0 L sh sk v ru i j < 6 := fun i => vat_lt hW (fun j => (hv j).2) i
  have outer : ∀ j i, i + j = m → ∀ I', aft I I' (y + i) (vI RL I W n y s0 L sh sk v ru i) (tI RL I W n y s0 L sh sk v ru i) → ∀ x3, Z 2 (isl 0 12 I' ++ pol 12 RL) [some (.ref 0), some (.int (nI m)), some (.int (nI i)), x3] [] := by
    intro j
    induction j with
    | zero =>
      intro i hi I' hI' x3
      obtain rfl : i = m := by omega
      exact o.run 100 [] ⟨fun _ => ⟨rfl, rfl, ⟨I', rfl, hI'⟩, rfl⟩, fun h => absurd (nI_le (Nat.le_refl _) (by omega)) h⟩
    | succ j ih =>
      intro i hi I' hI' x3
      obtain ⟨a1, a2, ⟨a30, a31, a33, a34⟩, a4, a5⟩ := hI'
      -- the numbers of I'
      have f0 : I'.1 0 = nI W := by rw [a1, ← e0]; rfl
      have f1 : I'.1 1 = nI L := by rw [a1, ← e1]; rfl
      have f2 : I'.1 2 = nI s0 := by rw [a1, ← e2]; rfl
      have f4 : I'.1 4 = nI n := by rw [a1, ← e4]; rfl
      have f5 : I'.1 5 = nI (y + i) := by rw [a1]; rfl
      have f6 : I'.1 6 = nI sh := by rw [a1, ← e6]; rfl
      have f7 : I'.1 7 = I.1 7 := by rw [a1]; rfl
      have fv : ∀ j, I'.2.1 2 j = nI (vI RL I W n y s0 L sh sk v ru i j) := fun j => by rw [a4]
      have hvi := hvl i
      let t := sk ((y + i - s0) % L)
      let br : Nat → Int32 := fun p => I.2.1 0 (vI RL I W n y s0 L sh sk v ru i p * 4 + t)
      let nw : Nat → Nat := vI RL I W n y s0 L sh sk v ru (i + 1)
      let H : zI := setA (setA I' 7 (mix n (fun p => seB sh (y + i) (I'.2.1 4 p) (I'.1 7) p) (I'.2.1 7))) 6 (mix n (fun p => I'.2.1 0 (vI RL I W n y s0 L sh sk v ru i p * 4 + sk ((y + i - s0) % L))) (I'.2.1 6))
      have hbr : ∀ p, p < n → H.2.1 6 p = br p := fun p hp => by
        have hH6 : H.2.1 6 = mix n (fun p => I'.2.1 0 (vI RL I W n y s0 L sh sk v ru i p * 4 + sk ((y + i - s0) % L))) (I'.2.1 6) := rfl
        rw [hH6, mix_lt hp, a30]
      -- the people, one by one
      let G : Nat → (Nat → Int32) → zI := fun k pl => setA (setA (setA H 5 (mix k (fun p => I'.2.1 5 p + br p) (I'.2.1 5))) 8 (mix k (fun p => nI (nw p)) (I'.2.1 8))) 9 pl
      have inner : ∀ j k, k + j = n → ∀ pl, Z 13 (isl 0 12 (G k pl) ++ pol 12 RL) [some (.ref 0), some (.int (nI m)), some (.int (nI i)), some (.int (nI k))] [] := by
        intro j
        induction j with
        | zero =>
          intro k hk pl
          obtain rfl : k = n := by omega
          refine o.run 100 [] ⟨fun _ => ?_, fun h => absurd (by show I'.1 4 ≤ _; rw [f4]; exact nI_le (Nat.le_refl _) (by omega)) h⟩
          show Z 67 _ _ [.int (I'.1 4), .int (nI 0), .ref 4, .int (nI 0), .ref 10]
          rw [f4]
          refine o.cp (a0 := 10) (a1 := 4) 0 0 k cpX0 rfl rfl (by omega) (by omega) (by omega) (by omega) ?_
          rw [cpy_mix]
          refine o.run 100 [2] ?_
          have hI2 : aft I (setS (setA (G k pl) 2 (mix k (mix k (fun p => nI (nw p)) (I'.2.1 8)) (I'.2.1 2))) 5 (I'.1 5 + nI 1)) (y + (i + 1)) (vI RL I W k y s0 L sh sk v ru (i + 1)) (tI RL I W k y s0 L sh sk v ru (i + 1)) := by
            refine ⟨?_, a2, ⟨a30, a31, a33, a34⟩, ?_, ?_⟩
            · show upd I'.1 5 (I'.1 5 + nI 1) = _
              rw [f5, nI_add, a1]
              funext q
              unfold upd
              by_cases hq : q = 5
              · simp [hq, Nat.add_assoc]
              · simp [hq]
            · show mix k (mix k (fun p => nI (nw p)) (I'.2.1 8)) (I'.2.1 2) = _
              funext q
              by_cases hq : q < k
              · rw [mix_lt hq, mix_lt hq]
              · rw [mix_ge (by omega), fv]
                show _ = nI (yst k W _ _ _ _ _ _ q)
                unfold yst
                rw [if_neg hq]
            · show mix k (fun p => I'.2.1 5 p + br p) (I'.2.1 5) = _
              rw [a5]
              rfl
          have := ih (i + 1) (by omega) _ hI2 (some (.int (nI k)))
          rw [← nI_1 i] at this
          exact this
        | succ j ihj =>
          intro k hk pl
          have hkn : k < n := by omega
          obtain ⟨r, hr1, hr2⟩ := hl k hkn
          refine o.run 100 [] ⟨fun h => absurd h (by show ¬ I'.1 4 ≤ _; rw [f4]; exact nI_ge (by omega) (by omega)), fun _ => ⟨k, rfl, by omega, k, rfl, by omega, k, rfl, by omega, ?_⟩⟩
          show Z 43 _ _ [.int (nI k), .ref 0, .int (nI k), .ref 10]
          have et : upd (mix k (fun p => I'.2.1 5 p + br p) (I'.2.1 5)) k (mix k (fun p => I'.2.1 5 p + br p) (I'.2.1 5) k + H.2.1 6 k) = mix (k + 1) (fun p => I'.2.1 5 p + br p) (I'.2.1 5) := by
            rw [← mix_upd, mix_ge (Nat.le_refl k), hbr k hkn]
          let Gt : zI := setA (setA (setA H 5 (mix (k + 1) (fun p => I'.2.1 5 p + br p) (I'.2.1 5))) 8 (mix k (fun p => nI (nw p)) (I'.2.1 8))) 9 pl
          have hw : ∀ (A B : zS), A = B → Z 43 B [some (.ref 0), some (.int (nI m)), some (.int (nI i)), some (.int (nI k))] [.int (nI k), .ref 0, .int (nI k), .ref 10] → Z 43 A [some (.ref 0), some (.int (nI m)), some (.int (nI i)), some (.int (nI k))] [.int (nI k), .ref 0, .int (nI k), .ref 10] := fun A B e h => e ▸ h
          refine hw _ (isl 0 12 Gt ++ pol 12 RL) ?_ ?_
          · show isl 0 12 (setA (setA (setA H 5 (upd (mix k (fun p => I'.2.1 5 p + br p) (I'.2.1 5)) k (mix k (fun p => I'.2.1 5 p + br p) (I'.2.1 5) k + H.2.1 6 k))) 8 (mix k (fun p => nI (nw p)) (I'.2.1 8))) 9 pl) ++ pol 12 RL = _
            rw [et]
          · refine o.cV (rest := [.int (nI k), .ref 10]) vX0_110 (c_choiceOf (I := Gt) (n := n) (W := W) (y := y + i) (r := r) (v := vI RL I W n y s0 L sh sk v ru i) (ru := ru) hR hn hkn hW (by omega) f4 f0 f5 fv hvi (by show I'.2.1 3 k = _; rw [a33]; exact (hru k).1) (hru k).2 (by show I'.2.2 _ = _; rw [a2]; exact hr1) hr2) (fun w rv _ hpo => ?_)
            obtain ⟨⟨pl2, rfl⟩, rfl⟩ := hpo
            refine o.run 100 [13] ⟨k, rfl, by omega, ?_⟩
            have := ihj (k + 1) (by omega) pl2
            have en : nI (nw k) = nI (cho n W (y + i) (vI RL I W n y s0 L sh sk v ru i) (sb (Gt.2.1 7 k)) (Gt.2.1 6) k (dnI RL Gt.2.2 (ru k) (Gt.2.1 6 k)).1 (dnI RL Gt.2.2 (ru k) (Gt.2.1 6 k)).2) := by
              show nI (yst n W (I.2.1 0) (fun p o => sb (seB sh (y + i) (I.2.1 4 p) (I.1 7) p) o) (fun p x => dnI RL I.2.2 (ru p) x) t (y + i) (vI RL I W n y s0 L sh sk v ru i) k) = _
              unfold yst
              rw [if_pos hkn]
              have g7 : Gt.2.1 7 k = seB sh (y + i) (I.2.1 4 k) (I.1 7) k := by
                have hG7 : Gt.2.1 7 = mix n (fun p => seB sh (y + i) (I'.2.1 4 p) (I'.1 7) p) (I'.2.1 7) := rfl
                rw [hG7, mix_lt hkn, a34, f7]
              have g6 : Gt.2.1 6 k = I.2.1 0 (vI RL I W n y s0 L sh sk v ru i k * 4 + t) := hbr k hkn
              have g2 : Gt.2.2 = I.2.2 := a2
              rw [g7, g6, g2]
              congr 1
              exact cho_congr hkn (fun q hq => (hbr q hq).symm)
            have e8 : mix (k + 1) (fun p => nI (nw p)) (I'.2.1 8) = upd (mix k (fun p => nI (nw p)) (I'.2.1 8)) k (nI (nw k)) := (mix_upd k (fun p => nI (nw p)) (I'.2.1 8)).symm
            have eG : G (k + 1) pl2 = setA (setA (setA H 5 (mix (k + 1) (fun p => I'.2.1 5 p + br p) (I'.2.1 5))) 8 (upd (mix k (fun p => nI (nw p)) (I'.2.1 8)) k (nI (nw k)))) 9 pl2 := by rw [← e8]
            rw [eG, en, ← nI_1 k] at this
            exact this
      refine o.run 100 [] ⟨fun h => absurd h (nI_ge (by omega) (by omega)), fun _ => ?_⟩
      show Z _ _ _ _
      refine o.cVp (wc := isl 0 12 I') (tl := pol 12 RL) vX0_107 (c_harvest (v := vI RL I W n y s0 L sh sk v ru i) (sk := sk) hn (by omega) (by omega) hL hL2 hsh f1 f2 f4 f5 f6 (fun j => by rw [a31]; exact (hsk j).1) (fun j => (hsk j).2) fv hvi) (fun w rv _ hpo => ?_)
      obtain ⟨rfl, rfl⟩ := hpo
      have := inner n 0 (by omega) (I'.2.1 9)
      have eG : G 0 (I'.2.1 9) = setA (setA (setA H 5 (I'.2.1 5)) 8 (I'.2.1 8)) 9 (I'.2.1 9) := by
        show setA (setA (setA H 5 (mix 0 (fun p => I'.2.1 5 p + br p) (I'.2.1 5))) 8 (mix 0 (fun p => nI (nw p)) (I'.2.1 8))) 9 (I'.2.1 9) = _
        rw [mix_0, mix_0]
      rw [eG] at this
      exact o.run 100 [13] this
  refine o.run 100 [2] ?_
  refine outer m 0 (by omega) I ⟨?_, rfl, ⟨rfl, rfl, rfl, rfl⟩, ?_, rfl⟩ none
  · funext q
    unfold upd
    by_cases hq : q = 5
    · simp [hq, e5]
    · simp [hq]
  · funext j
    exact (hv j).1
end PY
