/-! reading rules: readRule, readMixed, readAll -/
def rcap : Nat → Nat
  | 0 => 1
  | d + 1 => 2 * rcap d + 1
theorem rcap_pos : ∀ d, 1 ≤ rcap d
  | 0 => Nat.le_refl 1
  | d + 1 => by show 1 ≤ 2 * rcap d + 1; omega
theorem shR_0 (NL : List zRu) : shR 0 NL = NL := by
  unfold shR
  refine (List.map_congr_left (fun u _ => ?_)).trans (List.map_id' NL)
  obtain ⟨s, n, o1, o2⟩ := u
  cases o1 <;> cases o2 <;> rfl
theorem okR_nil : okR [] := ⟨fun i u h => by simp at h, fun i u h => by simp at h⟩
theorem chr_ok {k : Nat} (hk : k < 65536) : zft .char (.int (nI k)) := fun q => by
  have e : (nI k).toBitVec.toNat % 65536 = k := by rw [pk_tn (by omega)]; omega
  have h := pk_char (nI k)
  rw [e] at h
  constructor
  · have := pk_nc (nI k); rw [h] at this; exact this
  · have := pk_fc (nI k); rw [h] at this; exact this
theorem chr_eq {k : Nat} (hk : k < 65536) : ((nI k).toUInt32 % 65536).toInt32 = nI k := by
  rw [pk_char, pk_tn (by omega), Nat.mod_eq_of_lt hk]
theorem rdr_le {f : Nat → Int32} {a b : Int32} (T : zS) : 2 ≤ (rdr f a b ++ T).length := by rw [List.length_append]; exact Nat.le_add_right 2 _
section RUL
variable {l : Launch} {D : va_G} {C : zC} {f : Nat → Int32} {len : Nat}
variable {d RC RS kc ks pc idx nL' d' n n0 : Nat} {own : String} {tab : List (Nat × Instr)} {fl : Nat → Option (Nat × Nat × Nat)} {ki : Nat → Option Int32} {kj : Nat → Option Int64} {Kr : zS → Option Value → Prop} {Z : Nat → Nat → zP} {y' : MethodName} {cc' : ByteArray} {lv : zL} {ret' : Option FieldType}
theorem zOpA.cVp (o : zOpA l D C own tab fl ki kj d RC RS n0 Kr Z) {wc tl : zS} {Po : zS → Option Value → Prop} {As st rest : List Value} {b0 : Nat} (hW : zCV own idx y' cc' nL' ret' n) (hM : zFun l D C y' cc' nL' ret' (zR d') (.ref b0 :: As) wc Po) (kk : ∀ (w : zS) (rv : Option Value), w.length = wc.length → Po w rv → Z kc ks (pc + 3) (w ++ tl) lv (rv.toList ++ rest)) (hrc : ∃ (ci : Nat) (fs : List Value) (r : vw_C), wc[b0]? = some (.inr (.inr (ci, fs))) ∧ vwCl[ci]? = some r ∧ r.1 = y'.cls)
    (hd : zfd tab pc = some (.invokevirtual idx)) (hst : st = As.reverse ++ .ref b0 :: rest) (hn : As.length = n) (hrest : (rest.map fun v => v.category).sum ≤ 8) (hdd : d' < d) (hL : nL' ≤ 21) (hkc : kc ≤ RC) (hks : ks ≤ RS) : Z kc ks pc (wc ++ tl) lv st :=
  o.2.1 kc ks y' cc' nL' n idx pc ret' d' (fun i => i) wc (wc ++ tl) lv Po As st rest b0 hW hM zsb_pre hrc hd (by rw [zas_id]; exact hst) hn hrest hdd hL hkc hks (fun w rv h1 h2 => ⟨w ++ tl, zpl_pre h1, by rw [zrv_id]; exact kk w rv h1 h2⟩)
/-- a call of the reader on itself -/
theorem zOpA.cR (o : zOpA l D C RX1 tab fl ki kj d RC RS n0 Kr Z) {P : List zRu} {a b b' : Int32} {As : List Value} {v : Value} (hW : zCV RX1 idx y' cc' nL' ret' n) (hM : zFun l D C y' cc' nL' ret' (zR d') (.ref 0 :: As) (rdr f a b) (fun w rv => w = rdr f a b' ∧ rv = some v)) (hy : RX1 = y'.cls) (kk : Z kc ks (pc + 3) (rdr f a b' ++ pol 2 P) lv [v])
    (hd : zfd tab pc = some (.invokevirtual idx)) (hn : As.length = n) (hdd : d' < d) (hL : nL' ≤ 21) (hkc : kc ≤ RC) (hks : ks ≤ RS) : Z kc ks pc (rdr f a b ++ pol 2 P) lv (As.reverse ++ [.ref 0]) :=
  o.cVp (b0 := 0) (As := As) (rest := []) hW hM (fun w rv _ hpo => by
    obtain ⟨rfl, rfl⟩ := hpo
    exact kk) ⟨1, _, _, rfl, rfl, hy⟩ hd rfl hn (by decide) hdd hL hkc hks
set_option maxRecDepth 10000 in
theorem c_readRule_of {op dd cap p : Nat} {alt : Nat × Option zDn} (hl : len ≤ 24) (hp : p ≤ len) (hcap : 1 ≤ cap) (hd2 : 3 ≤ d) (hRC : 1 ≤ RC) (hRS : 4 ≤ RS)
    (br : hrC f len p = nI 40 → ∀ Z : Nat → Nat → zP, zOpA l D C RX1 kX1_readRule (zfl FX1) (zkI IX1) (zkJ JX1) d RC RS 2 (fun ws rv => zRt (some (.object RX2)) rv ∧ 2 ≤ ws.length ∧ rdP f len dd cap alt ws rv) Z → Z 0 0 123 (rdr f (nI len) (nI p)) [some (.ref 0), some (.int (nI op)), some (.int (nI 40)), none] []) :
    zFunB l D C yX1_readRule cX1_readRule 4 (some (.object RX2)) (zRA d RC RS) [.ref 0, .int (nI op)] (rdr f (nI len) (nI p)) (rdP f len dd cap (pS f len p alt)) := by
  refine zFunB_of (by decide) oX1_readRule tbX1 (Nat.le_of_ble_eq_true rfl) (fun Z o => ?_)
  obtain ⟨c, hc⟩ : ∃ c, c = hrC f len p := ⟨_, rfl⟩
  have leaf : ∀ k, k < 65536 → (nI k = nI 115 ∨ nI k = nI 98 ∨ nI k = nI 109 ∨ nI k = nI 110) → nI k = hrC f len p → Z 0 0 64 (rdr f (nI len) (nI p)) [some (.ref 0), some (.int (nI op)), some (.int (nI k)), none] [] := by
    intro k hk hk4 hkc
    have hp1 : p < len := hr_lt (k := k) (by omega) hkc.symm
    have er : pS f len p alt = (p + 1, some (fun _ => (nI k, 0))) := by
      unfold pS; rw [← hkc, if_pos hk4]
    refine o.1 0 0 100 [] 64 _ _ _ (Nat.zero_le _) (Nat.zero_le _) ?_
    show Z 0 0 74 (rdr f (nI len) (nI p + nI 1)) _ []
    rw [nI_add]
    show Z 0 0 74 (rdr f (nI len) (nI (p + 1)) ++ pol 2 []) _ []
    refine o.nw okR_nil.1 (by decide) (zcL_s (zcV_r (Nat.le_of_ble_eq_true rfl)) (zcL_s zcV_i (zcL_s zcV_i (zcL_n zcL_nil)))) zcS_nil ?_ rfl hRC hRS
    refine o.1 1 4 100 [] 77 _ _ _ hRC hRS ?_
    show Z 1 4 83 (rdr f (nI len) (nI (p + 1)) ++ pol 2 [] ++ [nru]) _ [.null, .null, .int (nI 0), .int ((nI k).toUInt32 % 65536).toInt32, .ref 2, .ref 2]
    rw [chr_eq hk]
    refine o.mk (P := []) (u := (nI k, nI 0, none, none)) (chr_ok hk) ?_ rfl (by omega) hRC hRS
    refine o.1 1 4 100 [] 86 _ _ _ hRC hRS ⟨⟨_, rfl⟩, rdr_le _, [(nI k, nI 0, none, none)], ?_, hcap, okR_one (P := []) okR_nil (fun a h => by cases h) (fun a h => by cases h) ⟨0, by omega, rfl⟩, ?_⟩
    · rw [er]; rfl
    · rw [er]
      refine ⟨0, rfl, Nat.le_of_ble_eq_true rfl, ?_⟩
      have hlf : lfR [(nI k, nI 0, none, none)] 0 (fun _ => (nI k, 0)) := ⟨nI k, 0, rfl, by omega, rfl⟩
      cases dd with
      | zero => exact hlf
      | succ dd => exact Or.inl hlf
  have none0 : (pS f len p alt) = (p, none) → ∀ q, q = 140 → ∀ x2 x3, Z 0 0 q (rdr f (nI len) (nI p)) [some (.ref 0), some (.int (nI op)), x2, x3] [] := by
    intro er q hq x2 x3
    subst hq
    refine o.1 0 0 100 [] 140 _ _ _ (Nat.zero_le _) (Nat.zero_le _) ⟨⟨_, rfl⟩, Nat.le_refl 2, [], ?_, Nat.zero_le _, okR_nil, ?_⟩
    · rw [er]; rfl
    · rw [er]
  refine o.1 0 0 100 [] 0 _ _ _ (Nat.zero_le _) (Nat.zero_le _) ?_
  show Z 0 0 1 (rdr f (nI len) (nI p) ++ pol 2 []) _ ([].reverse ++ [.ref 0])
  refine o.cR vX1_26 (c_here (p := p) hl (by omega)) rfl ?_ rfl rfl (by omega) (by decide) (Nat.zero_le _) (Nat.zero_le _)
  rw [← hc]
  refine o.1 0 0 100 [123, 64, 87, 140] 4 _ _ _ (Nat.zero_le _) (Nat.zero_le _) ⟨⟨fun a => ?_, fun a => ?_, fun a => ?_, fun a => ?_, fun a => ?_, fun a => ?_, trivial⟩, fun a => ?_⟩
  · have a : c = nI 40 := a
    subst a
    have er : pS f len p alt = alt := by
      unfold pS
      rw [← hc, if_neg (by decide), if_neg (by decide), if_pos rfl]
    refine br hc.symm Z ?_
    rw [er] at o
    exact o
  · have a : c = nI 98 := a
    subst a
    exact leaf 98 (by omega) (by decide) hc
  · have a : c = nI 109 := a
    subst a
    exact leaf 109 (by omega) (by decide) hc
  · have a : c = nI 110 := a
    subst a
    exact leaf 110 (by omega) (by decide) hc
  · have a : c = nI 115 := a
    subst a
    exact leaf 115 (by omega) (by decide) hc
  · have a : c = nI 116 := a
    subst a
    have hp1 : p < len := hr_lt (k := 116) (by omega) hc.symm
    have hnl := rdN_le (f := f) (len := len) (p := p + 1) hp1
    refine o.1 0 0 100 [] 87 _ _ _ (Nat.zero_le _) (Nat.zero_le _) ?_
    show Z 0 0 98 (rdr f (nI len) (nI p + nI 1)) _ [.ref 0]
    rw [nI_add]
    show Z 0 0 98 (rdr f (nI len) (nI (p + 1)) ++ pol 2 []) _ ([].reverse ++ [.ref 0])
    refine o.cR vX1_35 (c_readNumber (p := p + 1) hl hp1) rfl ?_ rfl rfl (by omega) (by decide) (Nat.zero_le _) (Nat.zero_le _)
    refine o.1 0 0 100 [106, 121] 101 _ _ _ (Nat.zero_le _) (Nat.zero_le _) ⟨fun q => ?_, fun q => ?_⟩
    · have q : nI (rdN f len (p + 1)).2 ≤ 0 := q
      have h0 : (rdN f len (p + 1)).2 = 0 := by
        rcases Nat.eq_zero_or_pos (rdN f len (p + 1)).2 with z | z
        · exact z
        · exact absurd q (nI_nle z (by omega))
      have er : pS f len p alt = ((rdN f len (p + 1)).1, none) := by
        unfold pS
        rw [← hc, if_neg (by decide), if_pos rfl, if_pos h0]
      refine o.1 0 0 100 [] 121 _ _ _ (Nat.zero_le _) (Nat.zero_le _) ⟨⟨_, rfl⟩, Nat.le_refl 2, [], ?_, Nat.zero_le _, okR_nil, ?_⟩
      · rw [er]
      · rw [er]
    · have q : ¬ nI (rdN f len (p + 1)).2 ≤ 0 := q
      have h0 : ¬ (rdN f len (p + 1)).2 = 0 := fun z => q (by rw [z]; decide)
      have er : pS f len p alt = ((rdN f len (p + 1)).1, some (fun _ => (nI 116, (rdN f len (p + 1)).2))) := by
        unfold pS
        rw [← hc, if_neg (by decide), if_pos rfl, if_neg h0]
      show Z 0 0 106 (rdr f (nI len) (nI (rdN f len (p + 1)).1) ++ pol 2 []) _ []
      refine o.nw okR_nil.1 (by decide) (zcL_s (zcV_r (Nat.le_of_ble_eq_true rfl)) (zcL_s zcV_i (zcL_s zcV_i (zcL_s zcV_i zcL_nil)))) zcS_nil ?_ rfl hRC hRS
      refine o.1 1 4 100 [] 109 _ _ _ hRC hRS ?_
      show Z 1 4 115 (rdr f (nI len) (nI (rdN f len (p + 1)).1) ++ pol 2 [] ++ [nru]) _ [.null, .null, .int (nI (rdN f len (p + 1)).2), .int (nI 116), .ref 2, .ref 2]
      refine o.mk (P := []) (u := (nI 116, nI (rdN f len (p + 1)).2, none, none)) (chr_ok (by omega)) ?_ rfl (by omega) hRC hRS
      refine o.1 1 4 100 [] 118 _ _ _ hRC hRS ⟨⟨_, rfl⟩, rdr_le _, [(nI 116, nI (rdN f len (p + 1)).2, none, none)], ?_, hcap, okR_one (P := []) okR_nil (fun a h => by cases h) (fun a h => by cases h) ⟨_, hnl.2, rfl⟩, ?_⟩
      · rw [er]; rfl
      · rw [er]
        refine ⟨0, rfl, Nat.le_of_ble_eq_true rfl, ?_⟩
        have hlf : lfR [(nI 116, nI (rdN f len (p + 1)).2, none, none)] 0 (fun _ => (nI 116, (rdN f len (p + 1)).2)) := ⟨nI 116, _, rfl, hnl.2, rfl⟩
        cases dd with
        | zero => exact hlf
        | succ dd => exact Or.inl hlf
  · obtain ⟨a1, a2, a3, a4, a5, a6, -⟩ := a
    have er : pS f len p alt = (p, none) := by
      unfold pS
      rw [← hc, if_neg (fun z => by
        rcases z with z | z | z | z
        · exact a5 z
        · exact a2 z
        · exact a3 z
        · exact a4 z), if_neg (show ¬ c = nI 116 from a6), if_neg (show ¬ c = nI 40 from a1)]
    exact none0 er 140 rfl _ _
set_option maxRecDepth 10000 in
theorem c_readMixed {op dd cap p : Nat} {R : Nat → Nat × Option zDn} (hl : len ≤ 24) (hp : p < len) (hRle : ∀ p, p ≤ len → (R p).1 ≤ len) (hcp : cap ≤ 100)
    (ih : ∀ p, p ≤ len → zFunB l D C yX1_readRule cX1_readRule 4 (some (.object RX2)) (zRA d cap (4 * cap)) [.ref 0, .int (nI op)] (rdr f (nI len) (nI p)) (rdP f len dd cap (R p))) (hd3 : 3 ≤ d) :
    zFunB l D C yX1_readMixed cX1_readMixed 5 (some (.object RX2)) (zRA (d + 1) (2 * cap + 1) (4 * (2 * cap + 1))) [.ref 0, .int (nI op)] (rdr f (nI len) (nI p)) (rdP f len (dd + 1) (2 * cap + 1) (pM f len R p)) := by
  have hn1 := rdN_le (f := f) (len := len) (p := p + 1) hp
  refine zFunB_of (by decide) oX1_readMixed tbX1 (Nat.le_of_ble_eq_true rfl) (fun Z o => ?_)
  have nul : ∀ (kc ks pc : Nat) (p' : Nat) (NL : List zRu) (lv : zL), kc ≤ 2 * cap + 1 → ks ≤ 4 * (2 * cap + 1) → (pc = 28 ∨ pc = 49 ∨ pc = 72) → pM f len R p = (p', none) → NL.length ≤ 2 * cap + 1 → okR NL → Z kc ks pc (rdr f (nI len) (nI p') ++ pol 2 NL) lv [] := by
    intro kc ks pc p' NL lv h1 h2 hpc er hc hok
    have fin : zRt (some (.object RX2)) (some .null) ∧ (rdr f (nI len) (nI p)).length ≤ (rdr f (nI len) (nI p') ++ pol 2 NL).length ∧ rdP f len (dd + 1) (2 * cap + 1) (pM f len R p) (rdr f (nI len) (nI p') ++ pol 2 NL) (some .null) := ⟨⟨_, rfl⟩, rdr_le _, NL, by rw [er], hc, hok, by rw [er]⟩
    rcases hpc with rfl | rfl | rfl
    · exact o.1 kc ks 100 [] 28 _ _ _ h1 h2 fin
    · exact o.1 kc ks 100 [] 49 _ _ _ h1 h2 fin
    · exact o.1 kc ks 100 [] 72 _ _ _ h1 h2 fin
  refine o.1 0 0 100 [] 0 _ _ _ (Nat.zero_le _) (Nat.zero_le _) ?_
  show Z 0 0 11 (rdr f (nI len) (nI p + nI 1)) _ [.ref 0]
  rw [nI_add]
  show Z 0 0 11 (rdr f (nI len) (nI (p + 1)) ++ pol 2 []) _ ([].reverse ++ [.ref 0])
  refine o.cR vX1_35 (c_readNumber (p := p + 1) hl hp) rfl ?_ rfl rfl (by omega) (by decide) (Nat.zero_le _) (Nat.zero_le _)
  generalize hrd : rdN f len (p + 1) = rd at hn1 ⊢
  obtain ⟨p1, k⟩ := rd
  obtain ⟨hp1, hk⟩ := hn1
  have hp1 : p1 ≤ len := hp1
  have hk : k < 100 := hk
  show Z 0 0 14 (rdr f (nI len) (nI p1) ++ pol 2 []) _ [.int (nI k)]
  refine o.1 0 0 100 [28] 14 _ _ _ (Nat.zero_le _) (Nat.zero_le _) ⟨fun q => ?_, fun q => ?_⟩
  · have q : nI k = 0 := q
    have h0 : k = 0 := by
      rcases Nat.eq_zero_or_pos k with z | z
      · exact z
      · exact absurd q (nI_ne0 z (by omega))
    exact nul 0 0 28 p1 [] _ (Nat.zero_le _) (Nat.zero_le _) (Or.inl rfl) (by unfold pM; rw [hrd]; show (if k = 0 then _ else _) = _; rw [if_pos h0]) (Nat.zero_le _) okR_nil
  have q : ¬ nI k = 0 := q
  have hk0 : ¬ k = 0 := fun z => q (by rw [z]; decide)
  show Z 0 0 22 (rdr f (nI len) (nI p1) ++ pol 2 []) _ ([.int (nI 63)].reverse ++ [.ref 0])
  refine o.cR vX1_41 (c_passes (p := p1) (k := 63) hl hp1 (by omega)) rfl ?_ rfl rfl (by omega) (by decide) (Nat.zero_le _) (Nat.zero_le _)
  have hpM : pM f len R p = if hrC f len p1 = nI 63 then (match R (p1 + 1) with
    | (p2, none) => (p2, none)
    | (p2, some a) => if hrC f len p2 = nI 58 then (match R (p2 + 1) with
      | (p3, none) => (p3, none)
      | (p3, some b) => if hrC f len p3 = nI 41 then (p3 + 1, some (fun x => if x < nI k then a x else b x)) else (p3, none))
      else (p2, none))
    else (p1, none) := by
    unfold pM
    rw [hrd]
    exact if_neg hk0
  by_cases hq1 : ¬ hrC f len p1 = nI 63
  · rw [if_neg hq1, decide_eq_false hq1]
    refine o.1 0 0 100 [28] 25 _ _ _ (Nat.zero_le _) (Nat.zero_le _) ⟨fun q => absurd ((zB_0 false).mpr rfl) q, fun _ => ?_⟩
    exact nul 0 0 28 p1 [] _ (Nat.zero_le _) (Nat.zero_le _) (Or.inl rfl) (by rw [hpM, if_neg hq1]) (Nat.zero_le _) okR_nil
  have hq1 : hrC f len p1 = nI 63 := Classical.not_not.mp hq1
  have hp1' : p1 + 1 ≤ len := hr_lt (by omega) hq1
  rw [if_pos hq1, decide_eq_true hq1]
  rw [if_pos hq1] at hpM
  refine o.1 0 0 100 [] 25 _ _ _ (Nat.zero_le _) (Nat.zero_le _) ⟨fun _ => ?_, fun q => absurd q (by decide)⟩
  show Z 0 0 32 (rdr f (nI len) (nI (p1 + 1)) ++ pol 2 []) [some (.ref 0), some (.int (nI op)), some (.int (nI k)), none, none] [.int (nI op), .ref 0]
  have hle2 := hRle (p1 + 1) hp1'
  have ih1 := ih (p1 + 1) hp1'
  generalize hR1 : R (p1 + 1) = r1 at hle2 ih1 hpM
  obtain ⟨p2, o2⟩ := r1
  have hle2 : p2 ≤ len := hle2
  refine o.rd (P := []) okR_nil.1 (by show 0 + cap ≤ 1000; omega) vX1_22 ih1 rfl (zcL_s (zcV_r (Nat.le_of_ble_eq_true rfl)) (zcL_s zcV_i (zcL_s zcV_i (zcL_n (zcL_n zcL_nil))))) (fun NL hc hok hres => ?_) (fun NL i a hc hok hres hi hDN => ?_) rfl (by omega) (by decide) (by omega) (by omega)
  · have hres : o2 = none := hres
    subst hres
    have eN : ([] : List zRu) ++ shR ([] : List zRu).length NL = NL := shR_0 NL
    rw [eN, Nat.zero_add, Nat.zero_add]
    refine o.1 cap (4 * cap) 100 [49] 35 _ _ _ (by omega) (by omega) ?_
    exact nul cap (4 * cap) 49 p2 NL _ (by omega) (by omega) (Or.inr (Or.inl rfl)) hpM (by omega) hok
  have hres : o2 = some a := hres
  subst hres
  have eN : ([] : List zRu) ++ shR ([] : List zRu).length NL = NL := shR_0 NL
  rw [eN, Nat.zero_add, Nat.zero_add]
  have hpM : pM f len R p = if hrC f len p2 = nI 58 then (match R (p2 + 1) with
      | (p3, none) => (p3, none)
      | (p3, some b) => if hrC f len p3 = nI 41 then (p3 + 1, some (fun x => if x < nI k then a x else b x)) else (p3, none))
      else (p2, none) := hpM
  show Z cap (4 * cap) 35 (rdr f (nI len) (nI p2) ++ pol 2 NL) [some (.ref 0), some (.int (nI op)), some (.int (nI k)), none, none] [.ref (i + 2)]
  refine o.1 cap (4 * cap) 100 [] 35 _ _ _ (by omega) (by omega) ?_
  show Z cap (4 * cap) 43 (rdr f (nI len) (nI p2) ++ pol 2 NL) [some (.ref 0), some (.int (nI op)), some (.int (nI k)), some (.ref (i + 2)), none] ([.int (nI 58)].reverse ++ [.ref 0])
  refine o.cR vX1_41 (c_passes (p := p2) (k := 58) hl hle2 (by omega)) rfl ?_ rfl rfl (by omega) (by decide) (by omega) (by omega)
  by_cases hq2 : ¬ hrC f len p2 = nI 58
  · rw [if_neg hq2, decide_eq_false hq2]
    refine o.1 cap (4 * cap) 100 [49] 46 _ _ _ (by omega) (by omega) ⟨fun q => absurd ((zB_0 false).mpr rfl) q, fun _ => ?_⟩
    exact nul cap (4 * cap) 49 p2 NL _ (by omega) (by omega) (Or.inr (Or.inl rfl)) (by rw [hpM, if_neg hq2]) (by omega) hok
  have hq2 : hrC f len p2 = nI 58 := Classical.not_not.mp hq2
  have hp2' : p2 + 1 ≤ len := hr_lt (by omega) hq2
  rw [if_pos hq2, decide_eq_true hq2]
  rw [if_pos hq2] at hpM
  refine o.1 cap (4 * cap) 100 [] 46 _ _ _ (by omega) (by omega) ⟨fun _ => ?_, fun q => absurd q (by decide)⟩
  show Z cap (4 * cap) 53 (rdr f (nI len) (nI (p2 + 1)) ++ pol 2 NL) [some (.ref 0), some (.int (nI op)), some (.int (nI k)), some (.ref (i + 2)), none] [.int (nI op), .ref 0]
  have hle3 := hRle (p2 + 1) hp2'
  have ih2 := ih (p2 + 1) hp2'
  generalize hR2 : R (p2 + 1) = r2 at hle3 ih2 hpM
  obtain ⟨p3, o3⟩ := r2
  have hle3 : p3 ≤ len := hle3
  have hln : (rdr f (nI len) (nI (p2 + 1)) ++ pol 2 NL).length = 2 + NL.length := by rw [List.length_append, pol_len]; rfl
  refine o.rd (P := NL) hok.1 (by omega) vX1_22 ih2 rfl (zcL_s (zcV_r (by rw [hln]; omega)) (zcL_s zcV_i (zcL_s zcV_i (zcL_s (zcV_r (by rw [hln]; omega)) (zcL_n zcL_nil))))) (fun NL2 hc2 hok2 hres => ?_) (fun NL2 j b hc2 hok2 hres hj hDN2 => ?_) rfl (by omega) (by decide) (by omega) (by omega)
  · have hres : o3 = none := hres
    subst hres
    have hl3 : (NL ++ shR NL.length NL2).length = NL.length + NL2.length := by rw [List.length_append, shR_len]
    refine o.1 (cap + cap) (4 * cap + 4 * cap) 100 [72] 56 _ _ _ (by omega) (by omega) ?_
    exact nul (cap + cap) (4 * cap + 4 * cap) 72 p3 (NL ++ shR NL.length NL2) _ (by omega) (by omega) (Or.inr (Or.inr rfl)) hpM (by omega) (okR_app hok hok2)
  have hres : o3 = some b := hres
  subst hres
  have hpM : pM f len R p = if hrC f len p3 = nI 41 then (p3 + 1, some (fun x => if x < nI k then a x else b x)) else (p3, none) := hpM
  have hok3 := okR_app hok hok2
  have hl3 : (NL ++ shR NL.length NL2).length = NL.length + NL2.length := by rw [List.length_append, shR_len]
  have hD3 : DN (NL ++ shR NL.length NL2) dd i a := DN_app hDN
  have hD4 : DN (NL ++ shR NL.length NL2) dd (j + NL.length) b := DN_sh hDN2
  generalize hN3 : NL ++ shR NL.length NL2 = N3 at hok3 hl3 hD3 hD4 ⊢
  show Z (cap + cap) (4 * cap + 4 * cap) 56 (rdr f (nI len) (nI p3) ++ pol 2 N3) [some (.ref 0), some (.int (nI op)), some (.int (nI k)), some (.ref (i + 2)), none] [.ref (j + NL.length + 2)]
  refine o.1 (cap + cap) (4 * cap + 4 * cap) 100 [] 56 _ _ _ (by omega) (by omega) ?_
  show Z (cap + cap) (4 * cap + 4 * cap) 66 (rdr f (nI len) (nI p3) ++ pol 2 N3) [some (.ref 0), some (.int (nI op)), some (.int (nI k)), some (.ref (i + 2)), some (.ref (j + NL.length + 2))] ([.int (nI 41)].reverse ++ [.ref 0])
  refine o.cR vX1_41 (c_passes (p := p3) (k := 41) hl hle3 (by omega)) rfl ?_ rfl rfl (by omega) (by decide) (by omega) (by omega)
  by_cases hq3 : ¬ hrC f len p3 = nI 41
  · rw [if_neg hq3, decide_eq_false hq3]
    refine o.1 (cap + cap) (4 * cap + 4 * cap) 100 [72] 69 _ _ _ (by omega) (by omega) ⟨fun q => absurd ((zB_0 false).mpr rfl) q, fun _ => ?_⟩
    exact nul (cap + cap) (4 * cap + 4 * cap) 72 p3 N3 _ (by omega) (by omega) (Or.inr (Or.inr rfl)) (by rw [hpM, if_neg hq3]) (by omega) hok3
  have hq3 : hrC f len p3 = nI 41 := Classical.not_not.mp hq3
  rw [if_pos hq3, decide_eq_true hq3]
  rw [if_pos hq3] at hpM
  refine o.1 (cap + cap) (4 * cap + 4 * cap) 100 [74] 69 _ _ _ (by omega) (by omega) ⟨fun _ => ?_, fun q => absurd q (by decide)⟩
  have hln : (rdr f (nI len) (nI (p3 + 1)) ++ pol 2 N3).length = 2 + N3.length := by rw [List.length_append, pol_len]; rfl
  refine o.nw hok3.1 (by omega) (zcL_s (zcV_r (by rw [hln]; omega)) (zcL_s zcV_i (zcL_s zcV_i (zcL_s (zcV_r (by rw [hln]; omega)) (zcL_s (zcV_r (by rw [hln]; omega)) zcL_nil))))) zcS_nil ?_ rfl (by omega) (by omega)
  refine o.1 (cap + cap + 1) (4 * cap + 4 * cap + 4) 100 [] 77 _ _ _ (by omega) (by omega) ?_
  show Z (cap + cap + 1) (4 * cap + 4 * cap + 4) 84 (rdr f (nI len) (nI (p3 + 1)) ++ pol 2 N3 ++ [nru]) _ [.ref (j + NL.length + 2), .ref (i + 2), .int (nI k), .int (nI 40), .ref (N3.length + 2), .ref (N3.length + 2)]
  refine o.mk (P := N3) (u := (nI 40, nI k, some i, some (j + NL.length))) (chr_ok (by omega)) ?_ rfl (by omega) (by omega) (by omega)
  refine o.1 (cap + cap + 1) (4 * cap + 4 * cap + 4) 100 [] 87 _ _ _ (by omega) (by omega) ⟨⟨_, rfl⟩, rdr_le _, N3 ++ [(nI 40, nI k, some i, some (j + NL.length))], ?_, ?_, okR_one hok3 (fun a h => by cases h; omega) (fun a h => by cases h; omega) ⟨k, hk, rfl⟩, ?_⟩
  · rw [hpM]
  · rw [List.length_append]; show N3.length + 1 ≤ _; omega
  · rw [hpM]
    refine ⟨N3.length, rfl, by rw [List.length_append]; show _ < N3.length + 1; omega, Or.inr ⟨nI 40, k, i, j + NL.length, a, b, ?_, hk, DN_app hD3, DN_app hD4, rfl⟩⟩
    rw [List.getElem?_append_right (Nat.le_refl _), Nat.sub_self]
    rfl
theorem rcap_le {d : Nat} (h : d ≤ 4) : rcap d ≤ 31 := by
  match d, h with
  | 0, _ => decide
  | 1, _ => decide
  | 2, _ => decide
  | 3, _ => decide
  | 4, _ => decide
set_option maxRecDepth 10000 in
theorem c_readRule (hl : len ≤ 24) : ∀ d op, op + d = 4 → ∀ p, p ≤ len → zFunB l D C yX1_readRule cX1_readRule 4 (some (.object RX2)) (zRA (2 * d + 3) (rcap d) (4 * rcap d)) [.ref 0, .int (nI op)] (rdr f (nI len) (nI p)) (rdP f len d (rcap d) (pR f len d p))
  | 0, op, hop, p, hp => c_readRule_of (alt := (p, none)) hl hp (rcap_pos 0) (by omega) (by decide) (by decide) (fun hc Z o => by
    obtain rfl : op = 4 := by omega
    refine o.1 0 0 100 [] 123 _ _ _ (Nat.zero_le _) (Nat.zero_le _) ⟨fun _ => ⟨⟨_, rfl⟩, Nat.le_refl 2, [], rfl, Nat.zero_le _, okR_nil, rfl⟩, fun q => absurd (nI_le (Nat.le_refl 4) (by omega)) q⟩)
  | d + 1, op, hop, p, hp => c_readRule_of (alt := pM f len (pR f len d) p) hl hp (rcap_pos (d + 1)) (by omega) (rcap_pos (d + 1)) (by have := rcap_pos (d + 1); omega) (fun hc Z o => by
    have hc31 := rcap_le (d := d) (by omega)
    refine o.1 0 0 100 [] 123 _ _ _ (Nat.zero_le _) (Nat.zero_le _) ⟨fun q => absurd q (by show ¬ nI 4 ≤ nI op; exact nI_ge (by omega) (by omega)), fun _ => ?_⟩
    show Z 0 0 132 (rdr f (nI len) (nI p) ++ pol 2 []) [some (.ref 0), some (.int (nI op)), some (.int (nI 40)), none] [.int (nI op + nI 1), .ref 0]
    rw [nI_add]
    refine o.rd (P := []) okR_nil.1 (by show 0 + (2 * rcap d + 1) ≤ 1000; omega) vX1_38 (c_readMixed (op := op + 1) (dd := d) hl (hr_lt (by omega) hc) (pR_le d) (by omega) (c_readRule hl d (op + 1) (by omega)) (by omega)) rfl (zcL_s (zcV_r (Nat.le_of_ble_eq_true rfl)) (zcL_s zcV_i (zcL_s zcV_i (zcL_n zcL_nil)))) (fun NL hcc hok hres => ?_) (fun NL i a hcc hok hres hi hDN => ?_) rfl (by omega) (by decide) (by show 0 + (2 * rcap d + 1) ≤ 2 * rcap d + 1; omega) (by show 0 + (4 * (2 * rcap d + 1)) ≤ 4 * (2 * rcap d + 1); omega)
    · have eN : ([] : List zRu) ++ shR ([] : List zRu).length NL = NL := shR_0 NL
      rw [eN]
      exact o.1 _ _ 100 [] 135 _ _ _ (by show 0 + (2 * rcap d + 1) ≤ 2 * rcap d + 1; omega) (by show 0 + (4 * (2 * rcap d + 1)) ≤ 4 * (2 * rcap d + 1); omega) ⟨⟨_, rfl⟩, rdr_le _, NL, rfl, hcc, hok, by rw [hres]⟩
    · have eN : ([] : List zRu) ++ shR ([] : List zRu).length NL = NL := shR_0 NL
      rw [eN]
      exact o.1 _ _ 100 [] 135 _ _ _ (by show 0 + (2 * rcap d + 1) ≤ 2 * rcap d + 1; omega) (by show 0 + (4 * (2 * rcap d + 1)) ≤ 4 * (2 * rcap d + 1); omega) ⟨⟨_, rfl⟩, rdr_le _, NL, rfl, hcc, hok, by rw [hres]; exact ⟨i, rfl, hi, hDN⟩⟩)
/-- the whole text -/
def pA (f : Nat → Int32) (len : Nat) : Nat × Option zDn := if (pR f len 4 0).1 = len then pR f len 4 0 else ((pR f len 4 0).1, none)
set_option maxRecDepth 10000 in
theorem c_readAll {pl : Int32} (hl : len ≤ 24) : zFunB l D C yX1_readAll cX1_readAll 2 (some (.object RX2)) (zRA 12 31 124) [.ref 0] (rdr f (nI len) pl) (rdP f len 4 31 (pA f len)) := by
  refine zFunB_of (by decide) oX1_readAll tbX1 (Nat.le_of_ble_eq_true rfl) (fun Z o => ?_)
  refine o.1 0 0 100 [] 0 _ _ _ (Nat.zero_le _) (Nat.zero_le _) ?_
  show Z 0 0 7 (rdr f (nI len) (nI 0) ++ pol 2 []) [some (.ref 0), none] [.int (nI 0), .ref 0]
  have hle := pR_le (f := f) (len := len) 4 0 (Nat.zero_le _)
  refine o.rd (P := []) okR_nil.1 (by decide) vX1_22 (c_readRule hl 4 0 (by omega) 0 (Nat.zero_le _)) rfl (zcL_s (zcV_r (Nat.le_of_ble_eq_true rfl)) (zcL_n zcL_nil)) (fun NL hcc hok hres => ?_) (fun NL i a hcc hok hres hi hDN => ?_) rfl (by decide) (by decide) (by decide) (by decide)
  · have eN : ([] : List zRu) ++ shR ([] : List zRu).length NL = NL := shR_0 NL
    rw [eN]
    have eA : (pA f len).1 = (pR f len 4 0).1 ∧ (pA f len).2 = none := by
      unfold pA
      split
      · exact ⟨rfl, hres⟩
      · exact ⟨rfl, rfl⟩
    have fin : zRt (some (.object RX2)) (some .null) ∧ (rdr f (nI len) pl).length ≤ (rdr f (nI len) (nI (pR f len 4 0).1) ++ pol 2 NL).length ∧ rdP f len 4 31 (pA f len) (rdr f (nI len) (nI (pR f len 4 0).1) ++ pol 2 NL) (some .null) := ⟨⟨_, rfl⟩, rdr_le _, NL, by rw [eA.1], hcc, hok, by rw [eA.2]⟩
    exact o.1 _ _ 100 [] 10 _ _ _ (by decide) (by decide) ⟨fun _ => fin, fun _ => fin⟩
  · have eN : ([] : List zRu) ++ shR ([] : List zRu).length NL = NL := shR_0 NL
    rw [eN]
    refine o.1 _ _ 100 [] 10 _ _ _ (by decide) (by decide) ⟨fun q => ?_, fun q => ?_⟩
    · have q : ¬ nI (pR f len 4 0).1 = nI len := q
      have hne : ¬ (pR f len 4 0).1 = len := fun z => q (by rw [z])
      have eA : pA f len = ((pR f len 4 0).1, none) := by unfold pA; rw [if_neg hne]
      exact ⟨⟨_, rfl⟩, rdr_le _, NL, by rw [eA], hcc, hok, by rw [eA]⟩
    · have q : nI (pR f len 4 0).1 = nI len := q
      rw [nI_eq (by omega) (by omega)] at q
      have eA : pA f len = pR f len 4 0 := by unfold pA; rw [if_pos q]
      exact ⟨⟨_, rfl⟩, rdr_le _, NL, by rw [eA], hcc, hok, by rw [eA, hres]; exact ⟨i, rfl, hi, hDN⟩⟩
end RUL
