/-! the class's reader -/
theorem zcL_nil {n : Nat} : zcL n [] := fun v hv => absurd hv (by simp)
theorem zcL_n {n : Nat} {r : zL} (h : zcL n r) : zcL n (none :: r) := fun v hv => by
  rcases List.mem_cons.mp hv with h1 | h1
  · cases h1
  · exact h v h1
theorem zcL_s {n : Nat} {w : Value} {r : zL} (hw : zcV n w) (h : zcL n r) : zcL n (some w :: r) := fun v hv => by
  rcases List.mem_cons.mp hv with h1 | h1
  · cases h1; exact hw
  · exact h v h1
theorem zcV_i {n : Nat} {x : Int32} : zcV n (.int x) := fun r e => by cases e
theorem zcV_0 {n : Nat} : zcV n .null := fun r e => by cases e
theorem zcV_r {n r : Nat} (h : r < n) : zcV n (.ref r) := fun r' e => by cases e; exact Or.inl h
theorem zcS_nil {n : Nat} : zcS n [] := fun v hv => absurd hv (by simp)
theorem zcS_c {n : Nat} {w : Value} {r : List Value} (hw : zcV n w) (h : zcS n r) : zcS n (w :: r) := fun v hv => by
  rcases List.mem_cons.mp hv with h1 | h1
  · subst h1; exact hw
  · exact h v h1
theorem zcE_pol {b n : Nat} {P : List zRu} (hP : wfR P) (hn : b + P.length ≤ n) : ∀ x ∈ pol b P, zcE n x := fun x hx => by
  obtain ⟨i, hi, e⟩ := List.getElem_of_mem hx
  have h1 : (pol b P)[i]? = some x := by rw [List.getElem?_eq_getElem hi, e]
  rw [pol_at] at h1
  obtain ⟨u, hu, rfl⟩ := Option.map_eq_some_iff.mp h1
  have := hP i u hu
  intro v hv
  simp only [List.mem_cons, List.not_mem_nil, or_false] at hv
  rcases hv with rfl | rfl | rfl | rfl
  · exact zcV_i
  · exact zcV_i
  · cases h : u.2.2.1 with
    | none => exact zcV_0
    | some a => have := this.1 a h; exact zcV_r (r := a + b) (by omega)
  · cases h : u.2.2.2 with
    | none => exact zcV_0
    | some a => have := this.2 a h; exact zcV_r (r := a + b) (by omega)
theorem pol_len (b : Nat) (P : List zRu) : (pol b P).length = P.length := by simp [pol]
theorem zcW_rdr {f : Nat → Int32} {a b : Int32} {P : List zRu} (hP : wfR P) : zcW (rdr f a b ++ pol 2 P) := fun x hx => by
  have hl : (rdr f a b ++ pol 2 P).length = 2 + P.length := by rw [List.length_append, pol_len]; rfl
  rw [hl]
  rcases List.mem_append.mp hx with h | h
  · simp only [rdr, List.mem_cons, List.not_mem_nil, or_false] at h
    rcases h with rfl | rfl
    · intro v hv
      simp only [List.mem_cons, List.not_mem_nil, or_false] at hv
      rcases hv with rfl | rfl | rfl
      · exact zcV_r (by omega)
      · exact zcV_i
      · exact zcV_i
    · trivial
  · exact zcE_pol hP (Nat.le_refl _) x h
theorem pol_zrw {σ : Nat → Nat} {RB0 RB : Nat} {RL : List zRu} (hw : wfR RL) (h2 : ∀ r, r < RL.length → σ (r + RB0) = r + RB) {i : Nat} {x : zE} (hx : (pol RB0 RL)[i]? = some x) : (pol RB RL)[i]? = some (zr σ x) := by
  rw [pol_at] at hx ⊢
  obtain ⟨u, hu, rfl⟩ := Option.map_eq_some_iff.mp hx
  have hh := hw i u hu
  rw [hu]
  obtain ⟨s, n, o1, o2⟩ := u
  simp only [Option.map_some, zr, List.map_cons, List.map_nil]
  congr 4
  cases o1 <;> cases o2 <;> simp [zv, va_rf] <;> first
    | exact ⟨(h2 _ (hh.1 _ rfl)).symm, (h2 _ (hh.2 _ rfl)).symm⟩
    | exact (h2 _ (hh.1 _ rfl)).symm
    | exact (h2 _ (hh.2 _ rfl)).symm
section RDR
variable {l : Launch} {D : va_G} {C : zC} {f : Nat → Int32} {len : Nat}
set_option maxRecDepth 10000 in
theorem c_here {p : Nat} (hl : len ≤ 24) (hp : p ≤ 24) : zFun l D C yX1_here cX1_here 1 (some .int) (zR 0) [.ref 0] (rdr f (nI len) (nI p)) (fun w rv => w = rdr f (nI len) (nI p) ∧ rv = some (.int (hrC f len p))) := by
  refine zFun_of (by decide) oX1_here tbX1 (Nat.le_of_ble_eq_true rfl) (fun Z o => ?_)
  refine o.run 100 [] ⟨fun q => ?_, fun q => ⟨p, rfl, ?_, ?_⟩⟩
  · have q : nI len ≤ nI p := q
    rw [nI_leI (by omega) (by omega)] at q
    exact ⟨⟨_, rfl, rfl⟩, rfl, rfl, by unfold hrC; rw [if_neg (by omega)]⟩
  · have q : ¬ nI len ≤ nI p := q
    rw [nI_leI (by omega) (by omega)] at q
    omega
  · have q : ¬ nI len ≤ nI p := q
    rw [nI_leI (by omega) (by omega)] at q
    exact ⟨⟨_, rfl, rfl⟩, rfl, rfl, by unfold hrC; rw [if_pos (by omega)]⟩
set_option maxRecDepth 10000 in
theorem c_isDigit {x : Int32} : zFun l D C yX1_isDigit cX1_isDigit 1 (some .boolean) (zR 0) [.int x] [] (fun _ rv => rv = some (.int (zB (dgC x)))) := by
  refine zFun_of (by decide) oX1_isDigit tbX1 (Nat.le_of_ble_eq_true rfl) (fun Z o => ?_)
  refine o.run 100 [] ⟨fun q => ?_, fun q => ⟨fun q2 => ?_, fun q2 => ?_⟩⟩
  · have e : dgC x = false := decide_eq_false (fun z => z.1 q)
    exact ⟨zB_rt false, rfl, by rw [e]; rfl⟩
  · have e : dgC x = false := decide_eq_false (fun z => z.2 q2)
    exact ⟨zB_rt false, rfl, by rw [e]; rfl⟩
  · have e : dgC x = true := decide_eq_true ⟨q, q2⟩
    exact ⟨zB_rt true, rfl, by rw [e]; rfl⟩
set_option maxRecDepth 10000 in
theorem c_readNumber {p : Nat} (hl : len ≤ 24) (hp : p ≤ len) : zFun l D C yX1_readNumber cX1_readNumber 2 (some .int) (zR 1) [.ref 0] (rdr f (nI len) (nI p)) (fun w rv => w = rdr f (nI len) (nI (rdN f len p).1) ∧ rv = some (.int (nI (rdN f len p).2))) := by
  refine zFun_of (by decide) oX1_readNumber tbX1 (Nat.le_of_ble_eq_true rfl) (fun Z o => ?_)
  have fin0 : ¬ (dgC (hrC f len p) = true ∧ ¬ hrC f len p = nI 48) → Z 19 (rdr f (nI len) (nI p)) [some (.ref 0), none] [] := fun hn => by
    have e : rdN f len p = (p, 0) := by unfold rdN; rw [if_neg hn]
    refine o.run 100 [] ⟨⟨_, rfl, rfl⟩, rfl, ?_, ?_⟩
    · rw [e]
    · rw [e]; rfl
  refine o.run 100 [] ?_
  show Z _ _ _ _
  refine o.cV vX1_26 (c_here hl (by omega)) (fun w rv _ hpo => ?_)
  obtain ⟨rfl, rfl⟩ := hpo
  refine o.run 100 [] ?_
  show Z _ _ _ _
  refine o.cS vX1_45 (c_isDigit (x := hrC f len p)) (fun rv hpo => ?_)
  subst hpo
  refine o.run 100 [19] ⟨fun q => fin0 (fun z => by rw [(zB_0 _).mp q] at z; exact absurd z.1 (by simp)), fun q => ?_⟩
  have hd := zB_t q
  show Z _ _ _ _
  refine o.cV vX1_26 (c_here hl (by omega)) (fun w rv _ hpo => ?_)
  obtain ⟨rfl, rfl⟩ := hpo
  refine o.run 100 [19, 21] ⟨fun q => ?_, fun q => fin0 (fun z => z.2 q)⟩
  have hc : dgC (hrC f len p) = true ∧ ¬ hrC f len p = nI 48 := ⟨hd, q⟩
  obtain ⟨h1, k, k1, k2, e⟩ := dg_lt hd
  have ek : cl (nI k) = k := nI_clamp (by omega)
  refine o.run 100 [] ?_
  show Z _ _ _ _
  refine o.cV vX1_26 (c_here hl (by omega)) (fun w rv _ hpo => ?_)
  obtain ⟨rfl, rfl⟩ := hpo
  refine o.run 100 [39] ?_
  show Z 39 (rdr f (nI len) (nI p + nI 1)) [some (.ref 0), some (.int (hrC f len p - nI 48))] []
  rw [nI_add, e, pk_sub k1]
  refine o.run 100 [] ?_
  show Z _ _ _ _
  refine o.cV vX1_26 (c_here hl (by omega)) (fun w rv _ hpo => ?_)
  obtain ⟨rfl, rfl⟩ := hpo
  refine o.run 100 [] ?_
  show Z _ _ _ _
  refine o.cS vX1_45 (c_isDigit (x := hrC f len (p + 1))) (fun rv hpo => ?_)
  subst hpo
  refine o.run 100 [49] ⟨fun q => ?_, fun q => ?_⟩
  · have hn : ¬ dgC (hrC f len (p + 1)) = true := fun z => by rw [(zB_0 _).mp q] at z; exact absurd z (by simp)
    have er : rdN f len p = (p + 1, k - 48) := by unfold rdN; rw [if_pos hc, if_neg hn, e, ek]
    exact ⟨⟨_, rfl, rfl⟩, rfl, by rw [er], by rw [er]⟩
  · have hd2 := zB_t q
    obtain ⟨h3, k', k3, k4, e3⟩ := dg_lt hd2
    have ek' : cl (nI k') = k' := nI_clamp (by omega)
    have er : rdN f len p = (p + 2, 10 * (k - 48) + (k' - 48)) := by unfold rdN; rw [if_pos hc, if_pos hd2, e, e3, ek, ek']
    refine o.run 100 [] ?_
    show Z _ _ _ _
    refine o.cV (rest := [.int _]) vX1_26 (c_here hl (by omega)) (fun w rv _ hpo => ?_)
    obtain ⟨rfl, rfl⟩ := hpo
    refine o.run 100 [] ⟨⟨_, rfl, rfl⟩, rfl, ?_, ?_⟩
    · show rdr f (nI len) (nI (p + 1) + nI 1) = _
      rw [nI_add, er]
    · show some (Value.int (nI 10 * nI (k - 48) + hrC f len (p + 1) - nI 48)) = _
      rw [e3, pk_mul, nI_add, pk_sub (by omega), er]
      congr 2
      show nI _ = nI _
      congr 1
      omega
set_option maxRecDepth 10000 in
theorem c_passes {p k : Nat} (hl : len ≤ 24) (hp : p ≤ len) (hk : k < 2 ^ 31) : zFun l D C yX1_passes cX1_passes 3 (some .boolean) (zR 1) [.ref 0, .int (nI k)] (rdr f (nI len) (nI p)) (fun w rv => w = rdr f (nI len) (nI (if hrC f len p = nI k then p + 1 else p)) ∧ rv = some (.int (zB (decide (hrC f len p = nI k))))) := by
  refine zFun_of (by decide) oX1_passes tbX1 (Nat.le_of_ble_eq_true rfl) (fun Z o => ?_)
  refine o.run 100 [] ?_
  show Z _ _ _ _
  refine o.cV vX1_26 (c_here hl (by omega)) (fun w rv _ hpo => ?_)
  obtain ⟨rfl, rfl⟩ := hpo
  refine o.run 100 [] ⟨fun q => ⟨fun _ => ?_, fun z => absurd nI_0 z⟩, fun q => ⟨fun z => absurd z (by decide), fun _ => ?_⟩⟩
  · exact ⟨zB_rt false, rfl, by rw [if_neg q], by rw [decide_eq_false q]; rfl⟩
  · refine ⟨zB_rt true, rfl, ?_, by rw [decide_eq_true q]; rfl⟩
    show rdr f (nI len) (nI p + nI 1) = _
    rw [nI_add, if_pos q]
/-- what reading leaves: the place, new rules, the rule read -/
def rdP (f : Nat → Int32) (len d cap : Nat) (res : Nat × Option zDn) : zS → Option Value → Prop := fun w rv => ∃ NL : List zRu, w = rdr f (nI len) (nI res.1) ++ pol 2 NL ∧ NL.length ≤ cap ∧ okR NL ∧ (match res.2 with
  | none => rv = some .null
  | some g => ∃ i : Nat, rv = some (.ref (i + 2)) ∧ i < NL.length ∧ DN NL d i g)
variable {d RC RS kc ks mc ms pc idx nL' d' : Nat} {own : String} {tab : List (Nat × Instr)} {fl : Nat → Option (Nat × Nat × Nat)} {ki : Nat → Option Int32} {kj : Nat → Option Int64} {Kr : zS → Option Value → Prop} {Z : Nat → Nat → zP} {y' : MethodName} {cc' : ByteArray} {lv : zL} {x : Int32}
theorem zpl_rd {f : Nat → Int32} {a b : Int32} {P NL : List zRu} {pl' : Int32} (hN : wfR NL) (hB : 2 + P.length + NL.length ≤ zBIG) : zplA (fun i => i) (rdr f a b ++ pol 2 P) 2 (rdr f a pl' ++ pol 2 NL) (rdr f a pl' ++ pol 2 (P ++ shR P.length NL)) := by
  have hl : (rdr f a b ++ pol 2 P).length = 2 + P.length := by rw [List.length_append, pol_len]; rfl
  have hl2 : (rdr f a pl' ++ pol 2 NL).length = 2 + NL.length := by rw [List.length_append, pol_len]; rfl
  have hs : ∀ r, r < NL.length → zsg (fun i => i) 2 (2 + P.length) (r + 2) = r + (2 + P.length) := fun r hr => by
    rw [zsg_hi (by omega) (by unfold zBIG at *; omega) (by omega)]; omega
  unfold zplA
  rw [hl, hl2]
  refine ⟨by rw [List.length_append, pol_len, List.length_append, shR_len]; show 2 + _ = _; omega, fun k y hy => ?_, fun i hi hne => ?_⟩
  · match k, hy with
    | 0, hy => cases hy; rfl
    | 1, hy => cases hy; rfl
    | k + 2, hy =>
      rw [List.getElem?_append_right (by show 2 ≤ k + 2; omega)] at hy
      have hy : (pol 2 NL)[k + 2 - 2]? = some y := hy
      rw [Nat.add_sub_cancel] at hy
      have hk : k < NL.length := by
        have := (List.getElem?_eq_some_iff.mp hy).1
        rwa [pol_len] at this
      rw [hs k hk, pol_app, List.getElem?_append_right (by show 2 ≤ _; omega)]
      show (pol 2 P ++ pol (2 + P.length) NL)[k + (2 + P.length) - 2]? = _
      rw [List.getElem?_append_right (by rw [pol_len]; omega), pol_len, show k + (2 + P.length) - 2 - P.length = k by omega]
      exact pol_zrw hN hs hy
  · have h0 : ¬ 0 = i := hne 0 (by omega)
    have h1 : ¬ 1 = i := hne 1 (by omega)
    have g1 : (rdr f a pl' ++ (pol 2 P ++ pol (2 + P.length) NL))[i]? = (pol 2 P ++ pol (2 + P.length) NL)[i - 2]? := List.getElem?_append_right (by show 2 ≤ i; omega)
    have g2 : (rdr f a b ++ pol 2 P)[i]? = (pol 2 P)[i - 2]? := List.getElem?_append_right (by show 2 ≤ i; omega)
    rw [pol_app, g1, g2, List.getElem?_append_left (by rw [pol_len]; omega)]
/-- a reader's call of a reading -/
theorem zOpA.rd (o : zOpA l D C RX1 tab fl ki kj d RC RS 2 Kr Z) {P : List zRu} {dd cap p : Nat} {res : Nat × Option zDn} (hP : wfR P) (hPl : P.length + cap ≤ 1000) (hW : zCV RX1 idx y' cc' nL' (some (.object RX2)) 1) (hM : zFunB l D C y' cc' nL' (some (.object RX2)) (zRA d' mc ms) [.ref 0, .int x] (rdr f (nI len) (nI p)) (rdP f len dd cap res)) (hy : RX1 = y'.cls) (hcl : zcL (rdr f (nI len) (nI p) ++ pol 2 P).length lv)
    (k0 : ∀ NL : List zRu, NL.length ≤ cap → okR NL → res.2 = none → Z (kc + mc) (ks + ms) (pc + 3) (rdr f (nI len) (nI res.1) ++ pol 2 (P ++ shR P.length NL)) lv [.null])
    (k1 : ∀ (NL : List zRu) (i : Nat) (g : zDn), NL.length ≤ cap → okR NL → res.2 = some g → i < NL.length → DN NL dd i g → Z (kc + mc) (ks + ms) (pc + 3) (rdr f (nI len) (nI res.1) ++ pol 2 (P ++ shR P.length NL)) lv [.ref (i + P.length + 2)])
    (hd : zfd tab pc = some (.invokevirtual idx)) (hdd : d' < d) (hL : nL' ≤ 21) (hkc : kc + mc ≤ RC) (hks : ks + ms ≤ RS) : Z kc ks pc (rdr f (nI len) (nI p) ++ pol 2 P) lv [.int x, .ref 0] := by
  have hl : (rdr f (nI len) (nI p) ++ pol 2 P).length = 2 + P.length := by rw [List.length_append, pol_len]; rfl
  refine o.2.2.2.1 kc ks mc ms y' cc' nL' 1 idx pc (some (.object RX2)) d' (fun i => i) (rdr f (nI len) (nI p)) _ lv _ [.int x] _ [] 0 hW hM zsb_pre (fun k hk => ?_) (fun _ _ => rfl) (by rw [hl]; show 2 ≤ 2 + _; omega) ⟨1, _, _, rfl, rfl, hy⟩ (by rw [hl]; omega) (zcW_rdr hP) hcl zcS_nil hd rfl rfl (by decide) hdd hL hkc hks (fun w rv _ hpo => ?_)
  · have hk : k < 2 := hk
    rw [hl]; omega
  · obtain ⟨NL, rfl, hc, hok, hm⟩ := hpo
    refine ⟨_, zpl_rd hok.1 (by unfold zBIG; omega), by rw [List.length_append, pol_len, List.length_append, shR_len]; show 2 + _ ≤ _; unfold zBIG; omega, ?_⟩
    revert hm
    cases hres : res.2 with
    | none =>
      intro hm
      have hm : rv = some .null := hm
      subst hm
      exact k0 NL hc hok hres
    | some g =>
      rintro ⟨i, rfl, hi, hD⟩
      have := k1 NL i g hc hok hres hi hD
      have e : zsg (fun i => i) 2 (rdr f (nI len) (nI p) ++ pol 2 P).length (i + 2) = i + P.length + 2 := by
        have hb : i + P.length + 2 < 1000000 := by omega
        rw [hl]
        rw [zsg_hi (by omega) (by unfold zBIG; omega) (by unfold zBIG; omega)]; omega
      show Z _ _ _ _ _ [.ref (zsg (fun i => i) 2 (rdr f (nI len) (nI p) ++ pol 2 P).length (i + 2))]
      rw [e]
      exact this
theorem vX1_32 : zCI RX1 32 yX2_init cX2_init 5 4 := ⟨⟨zin_mem (h := 277) (by decide +kernel), zin_mem (h := 278) (by decide +kernel), zin_mem (h := 59) (by decide +kernel), zin_mem (h := 279) (by decide +kernel)⟩, rfl, by decide +kernel, by decide +kernel, by decide +kernel⟩
theorem nX1_30 : zNw RX1 30 2 (RX2, TX2, 4) [.int 0, .int 0, .null, .null] := ⟨⟨zin_mem (h := 275) (by decide +kernel), zin_mem (h := 276) (by decide +kernel), zin_mem (h := 59) (by decide +kernel)⟩, rfl, by decide +kernel, by simp⟩
/-- a rule's cell, empty -/
abbrev nru : zE := .inr (.inr (2, [.int 0, .int 0, .null, .null]))
theorem zOpA.nw (o : zOpA l D C RX1 tab fl ki kj d RC RS 2 Kr Z) {P : List zRu} {a b : Int32} {st : List Value} (hP : wfR P) (hPl : P.length ≤ 1000) (hcl : zcL (rdr f a b ++ pol 2 P).length lv) (hst : zcS (rdr f a b ++ pol 2 P).length st)
    (kk : Z (kc + 1) (ks + 4) (pc + 3) (rdr f a b ++ pol 2 P ++ [nru]) lv (.ref (P.length + 2) :: st)) (hd : zfd tab pc = some (.new 30)) (hkc : kc + 1 ≤ RC) (hks : ks + 4 ≤ RS) : Z kc ks pc (rdr f a b ++ pol 2 P) lv st := by
  have hl : (rdr f a b ++ pol 2 P).length = P.length + 2 := by rw [List.length_append, pol_len]; show 2 + _ = _; omega
  refine o.2.2.2.2.2.1 kc ks 30 pc 2 (RX2, TX2, 4) _ _ _ _ hd nX1_30 (by rw [hl]; omega) (by rw [hl]; unfold zBIG; omega) (zcW_rdr hP) hcl hst hkc hks ?_
  rw [hl]
  exact kk
theorem zcW_one {f : Nat → Int32} {a b : Int32} {P : List zRu} (hP : wfR P) : zcW (rdr f a b ++ pol 2 P ++ [nru]) := fun x hx => by
  rcases List.mem_append.mp hx with h | h
  · have := zcW_rdr (f := f) (a := a) (b := b) hP x h
    rw [List.length_append]
    match x, this with
    | .inl _, _ => trivial
    | .inr (.inl (k, g)), h1 => exact fun j hj r hr => (h1 j hj r hr).imp (fun z => Nat.lt_of_lt_of_le z (Nat.le_add_right _ _)) id
    | .inr (.inr (_, fs)), h1 => exact fun v hv r hr => (h1 v hv r hr).imp (fun z => Nat.lt_of_lt_of_le z (Nat.le_add_right _ _)) id
  · simp only [List.mem_cons, List.not_mem_nil, or_false] at h
    subst h
    intro v hv
    simp only [List.mem_cons, List.not_mem_nil, or_false] at hv
    rcases hv with rfl | rfl | rfl | rfl
    · exact zcV_i
    · exact zcV_i
    · exact zcV_0
    · exact zcV_0
/-- a rule's constructor -/
theorem zOpA.mk (o : zOpA l D C RX1 tab fl ki kj d RC RS 2 Kr Z) {P : List zRu} {a b : Int32} {u : zRu} (hx : zft .char (.int u.1))
    (kk : Z kc ks (pc + 3) (rdr f a b ++ pol 2 (P ++ [u])) lv [.ref (P.length + 2)]) (hd : zfd tab pc = some (.invokespecial 32)) (hdd : 1 < d) (hkc : kc ≤ RC) (hks : ks ≤ RS) : Z kc ks pc (rdr f a b ++ pol 2 P ++ [nru]) lv [va_rf (u.2.2.2.map (fun i => i + 2)), va_rf (u.2.2.1.map (fun i => i + 2)), .int u.2.1, .int u.1, .ref (P.length + 2), .ref (P.length + 2)] := by
  have hl : (rdr f a b ++ pol 2 P).length = P.length + 2 := by rw [List.length_append, pol_len]; show 2 + _ = _; omega
  have hl1 : (rdr f a b ++ pol 2 P ++ [nru]).length = P.length + 3 := by rw [List.length_append, hl]; rfl
  have epol : pol 2 (P ++ [u]) = pol 2 P ++ [.inr (.inr (2, [.int u.1, .int u.2.1, va_rf (u.2.2.1.map (fun i => i + 2)), va_rf (u.2.2.2.map (fun i => i + 2))]))] := by
    unfold pol; rw [List.map_append]; rfl
  let σ : Nat → Nat := fun k => if k = 0 then P.length + 2 else k - 1
  have hσ : ∀ oo : Option Nat, zv σ (va_rf (oo.map (fun i => i + 3))) = va_rf (oo.map (fun i => i + 2)) := fun oo => by cases oo <;> rfl
  refine o.2.2.2.2.2.2 kc ks yX2_init cX2_init 5 4 32 pc 1 σ [nru] _ lv _ [.int u.1, .int u.2.1, va_rf (u.2.2.1.map (fun i => i + 3)), va_rf (u.2.2.2.map (fun i => i + 3))] _ [.ref (P.length + 2)] 0 vX1_32 (c_rule_init hx) ⟨fun k y hy => ?_, fun i j hi hj _ => ?_⟩ hd ?_ rfl (Nat.le_of_ble_eq_true rfl) hdd (by omega) hkc hks (fun w rv _ hpo => ?_)
  · match k, hy with
    | 0, hy =>
      cases hy
      show (rdr f a b ++ pol 2 P ++ [nru])[P.length + 2]? = _
      rw [List.getElem?_append_right (by omega), hl, Nat.sub_self]
      rfl
    | k + 1, hy => simp at hy
  · have hi : i < 1 := hi
    have hj : j < 1 := hj
    omega
  · show _ = [zv σ (va_rf (u.2.2.2.map (fun i => i + 3))), zv σ (va_rf (u.2.2.1.map (fun i => i + 3))), .int u.2.1, .int u.1, .ref (P.length + 2), .ref (P.length + 2)]
    rw [hσ, hσ]
  · obtain ⟨rfl, rfl⟩ := hpo
    refine ⟨rdr f a b ++ pol 2 (P ++ [u]), ⟨?_, fun k y hy => ?_, fun i hne => ?_⟩, kk⟩
    · rw [hl1, List.length_append, pol_len, List.length_append]; show 2 + (P.length + 1) = P.length + 3; omega
    · match k, hy with
      | 0, hy =>
        cases hy
        show (rdr f a b ++ pol 2 (P ++ [u]))[P.length + 2]? = _
        rw [epol, ← List.append_assoc, List.getElem?_append_right (by omega), hl, Nat.sub_self]
        show some _ = some (Sum.inr (Sum.inr (2, [Value.int u.1, .int u.2.1, zv σ (va_rf (u.2.2.1.map (fun i => i + 3))), zv σ (va_rf (u.2.2.2.map (fun i => i + 3)))])))
        rw [hσ, hσ]
      | k + 1, hy => simp at hy
    · have h0 : ¬ P.length + 2 = i := hne 0 (by show 0 < 1; omega)
      rw [epol, ← List.append_assoc]
      by_cases hi : i < P.length + 2
      · exact (List.getElem?_append_left (by omega)).trans (List.getElem?_append_left (by omega)).symm
      · rw [List.getElem?_eq_none (by rw [List.length_append, hl]; show P.length + 2 + 1 ≤ i; omega), List.getElem?_eq_none (by rw [hl1]; omega)]
end RDR
