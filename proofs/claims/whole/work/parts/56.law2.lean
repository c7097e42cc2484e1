/-! the law: what may be used of the machine -/
abbrev lvL (i : Nat) : zL := [some (.ref zBIG), some (.ref 22), some (.ref 0), some (.int (nI i))]
/-- two ints as a long -/
abbrev lgL (a b : Int32) : Int64 := (a.toInt64 <<< ((zi 32).toInt64 &&& 63)) ||| (b.toInt64 &&& 4294967295)
def zOpL (l : Launch) (D : va_G) (C : zC) (tab : List (Nat × Instr)) (L : Nat) (xs : Nat → Int32) (Z : Nat → Nat → zP) : Prop :=
  (∀ (kc ks n : Nat) (stops : List Nat) (pc : Nat) (ws : zS) (lv : zL) (st : List Value), kc ≤ 600000 → ks ≤ 7302250 → zgo tab (zfl FL) (zkI IL) (zkJ JL) stops (Z kc ks) (fun _ rv => rv = some (.int (nI 1))) n pc ws lv st → Z kc ks pc ws lv st) ∧
  (∀ (kc ks : Nat) (y : MethodName) (cc' : ByteArray) (nL' n idx pc d' : Nat) (σ : Nat → Nat) (wc ws : zS) (lv : zL) (Po : zS → Option Value → Prop) (As st rest : List Value) (b0 : Nat), zCV RL idx y cc' nL' (some .int) n → zFun l D C y cc' nL' (some .int) (zR d') (.ref b0 :: As) wc Po → zsb σ ws wc →
    (∃ (ci : Nat) (fs : List Value) (r : vw_C), wc[b0]? = some (.inr (.inr (ci, fs))) ∧ vwCl[ci]? = some r ∧ r.1 = y.cls) → zfd tab pc = some (.invokevirtual idx) → st = (As.map (zv σ)).reverse ++ .ref (σ b0) :: rest → As.length = n → (rest.map fun v => v.category).sum ≤ 8 → d' ≤ 100 → nL' ≤ 21 → kc ≤ 600000 → ks ≤ 7302250 →
    (∀ (w : zS) (rv : Option Value), w.length = wc.length → Po w rv → ∃ ws', zpl σ ws wc.length w ws' ∧ Z kc ks (pc + 3) ws' lv ((rv.map (zv σ)).toList ++ rest)) → Z kc ks pc ws lv st) ∧
  (∀ (kc ks mc ms : Nat) (y : MethodName) (cc' : ByteArray) (nL' n idx pc d' : Nat) (σ : Nat → Nat) (wc ws : zS) (lv : zL) (Po : zS → Option Value → Prop) (As st rest : List Value) (b0 : Nat), zCV RL idx y cc' nL' (some .int) n → zFunB l D C y cc' nL' (some .int) (zRA d' mc ms) (.ref b0 :: As) wc Po → zsb σ ws wc → (∀ k, k < wc.length → σ k < ws.length) → (∀ i, zfo i → σ i = i) → wc.length ≤ ws.length →
    (∃ (ci : Nat) (fs : List Value) (r : vw_C), wc[b0]? = some (.inr (.inr (ci, fs))) ∧ vwCl[ci]? = some r ∧ r.1 = y.cls) → zcW ws → zcL ws.length lv → zcS ws.length rest → zfd tab pc = some (.invokevirtual idx) → st = (As.map (zv σ)).reverse ++ .ref (σ b0) :: rest → As.length = n → (rest.map fun v => v.category).sum ≤ 8 → d' ≤ 100 → nL' ≤ 21 → kc + mc ≤ 600000 → ks + ms ≤ 7302250 →
    (∀ (w : zS) (rv : Option Value), wc.length ≤ w.length → Po w rv → ∃ ws', zplA σ ws wc.length w ws' ∧ ws'.length ≤ zBIG ∧ Z (kc + mc) (ks + ms) (pc + 3) ws' lv ((rv.map (zv (zsg σ wc.length ws.length))).toList ++ rest)) → Z kc ks pc ws lv st) ∧
  (∀ (kc ks pc j : Nat) (ws : zS) (lv : zL) (st : List Value), zfd tab pc = some .iaload → j < L → Z kc ks (pc + 1) ws lv (.int (xs j) :: st) → Z kc ks pc ws lv (.int (nI j) :: .ref zBIG :: st)) ∧
  (∀ (kc ks pc : Nat) (ws : zS) (lv : zL) (st : List Value), zfd tab pc = some .arraylength → Z kc ks (pc + 1) ws lv (.int (nI L) :: st) → Z kc ks pc ws lv (.ref zBIG :: st)) ∧
  (∀ (kc ks pc : Nat) (M : zM) (Y : zY) (P : List zRu) (lv : zL) (st : List Value), P.length + 100 < zBIG → (∀ Y', (∃ q, Y' = clY q P.length Y) → Z kc ks pc (LW M Y' P) lv st) → Z kc ks pc (LW M Y P) lv st)
theorem zopL_of {p : Program} {l : Launch} {e : Env} {s : State} {m : MethodId} {args : Array Value} {below : List Frame} {meth : Method} {c : Code} {D : va_G} {C : zC} {A : Nat → Prop} {q0 : Nat → Nat} {tab : List (Nat × Instr)} {b L : Nat} {xs : Nat → Int32} (F : zFx p s m args meth c code 4 ret RL D C) (N : zNs s) (hAf : ∀ x, s.heap.size ≤ x → A x) (hO : zokC code tab = true) (hX : va_X b L xs s s.heap) (hbl : b < s.heap.size) (hbA : ¬ A b) (hL : L ≤ 320) (h0 : q0 zBIG = b) (h1 : ∀ a, q0 (zBIG + 2 * (a + 1)) = a) :
    zOpL l D C tab L xs (zZ p l e room_1 s m args below meth c D C A 4 (fun _ _ o _ => o = .returned (some (.int 1))) 0 q0) :=
  ⟨fun kc ks n stops pc ws lv st g1 g2 h => zZ_run (R := room_1) (Kr := fun _ rv => rv = some (.int (nI 1))) F hO tbL (fun q ws rv _ hrv => by
      subst hrv
      exact ⟨zB_rt true, fun _ _ _ _ _ _ _ _ => rfl⟩) n stops g1 g2 h,
   fun kc ks y cc' nL' n idx pc d' σ wc ws lv Po As st rest b0 hW hM hsb hrc hd hst hn hrest hdd hL g1 g2 kk => zZ_callV (R := room_1) (rm' := zR d') (rest := rest) F N hAf hO hM hW hsb hrc kk hd hst hn hrest ⟨by show d' + 1 ≤ 2048; omega, by show 8 + (nL' + 11) + 40 * d' ≤ 84000; omega⟩ ⟨g1, g2⟩,
   fun kc ks mc ms y cc' nL' n idx pc d' σ wc ws lv Po As st rest b0 hW hM hsb hσ hσB hwB hrc hcW hcL hcS hd hst hn hrest hdd hL g1 g2 kk => zZ_callA (R := room_1) (rm' := zRA d' mc ms) (rest := rest) F N hAf hO hM hW hsb hσ hσB hwB hrc (Nat.zero_le _) hcW hcL hcS kk hd hst hn hrest ⟨by show d' + 1 ≤ 2048; omega, by show 8 + (nL' + 11) + 40 * d' ≤ 84000; omega⟩ ⟨g1, g2⟩,
   fun kc ks pc j ws lv st hd hj kk => zZ_sld F hO hX hbl hbA h0 (by omega) hd hj kk,
   fun kc ks pc ws lv st hd kk => zZ_slen F hO hX hbl hbA h0 hd kk,
   fun kc ks pc M Y P lv st hP kk => zZ_clean h1 hP kk⟩
section LR
variable {l : Launch} {D : va_G} {C : zC} {tab : List (Nat × Instr)} {L : Nat} {xs : Nat → Int32} {Z : Nat → Nat → zP} {kc ks pc i : Nat} {ws : zS} {st rest : List Value} {M : zM} {Y : zY} {P : List zRu} {lv : zL}
/-- script[i + k] -/
theorem zOpL.sa (o : zOpL l D C tab L xs Z) {k : Nat} (hk : i + k < L) (hkc : kc ≤ 600000) (hks : ks ≤ 7302250) (kk : Z kc ks (pc + 5) ws (lvL i) (.int (xs (i + k)) :: st))
    (h0 : zfd tab pc = some (.aload_n 0) := by rfl) (h1 : zfd tab (pc + 1) = some (.iload_n 3) := by rfl) (h2 : zfd tab (pc + 1 + 1) = some (.iconst (Int.ofNat k)) := by rfl) (h3 : zfd tab (pc + 1 + 1 + 1) = some .iadd := by rfl) (h4 : zfd tab (pc + 1 + 1 + 1 + 1) = some .iaload := by rfl) : Z kc ks pc ws (lvL i) st := by
  refine o.1 kc ks 4 [] pc _ _ _ hkc hks ?_
  unfold zgo
  rw [h0]
  show zgo tab _ _ _ [] _ _ 3 (pc + 1) ws (lvL i) (.ref zBIG :: st)
  unfold zgo
  rw [h1]
  show zgo tab _ _ _ [] _ _ 2 (pc + 1 + 1) ws (lvL i) (.int (nI i) :: .ref zBIG :: st)
  unfold zgo
  rw [h2]
  show zgo tab _ _ _ [] _ _ 1 (pc + 1 + 1 + 1) ws (lvL i) (.int (nI k) :: .int (nI i) :: .ref zBIG :: st)
  unfold zgo
  rw [h3]
  show Z kc ks (pc + 1 + 1 + 1 + 1) ws (lvL i) (.int (nI i + nI k) :: .ref zBIG :: st)
  rw [nI_add]
  exact o.2.2.2.1 kc ks _ (i + k) ws (lvL i) st h4 hk kk
variable {y : MethodName} {cc : ByteArray} {nL d n idx c : Nat} {As : List Value} {A : zA}
/-- a call of the class -/
theorem zOpL.cY (o : zOpL l D C tab L xs Z) (hW : zCV RL idx y cc nL (some .int) n) (hM : zPub l D C y cc nL d As Y P c A) (kk : ∀ Y', repY P Y' A.2 (c + 1) → Z kc ks (pc + 3) (LW M Y' P) lv (.int A.1 :: rest)) (hP : P.length ≤ 5000) (hkc : kc ≤ 600000) (hks : ks ≤ 7302250)
    (hAs : As.map (zv shL) = As := by rfl) (hd : zfd tab pc = some (.invokevirtual idx) := by rfl) (hst : st = As.reverse ++ .ref 22 :: rest := by rfl) (hn : As.length = n := by rfl) (hrest : (rest.map fun v => v.category).sum ≤ 8 := by exact Nat.le_of_ble_eq_true rfl) (hdd : d ≤ 100 := by exact Nat.le_of_ble_eq_true rfl) (hL : nL ≤ 21 := by exact Nat.le_of_ble_eq_true rfl) (hy : RX3 = y.cls := by rfl) : Z kc ks pc (LW M Y P) lv st :=
  o.2.1 kc ks y cc nL n idx pc d shL (yamW 53 Y ++ pol 53 P) (LW M Y P) lv _ As st rest 0 hW hM (zsb_tl (by rw [yp_len]; unfold zBIG; omega)) ⟨3, _, _, rfl, rfl, hy⟩ hd (by rw [hAs, shL_lo (by unfold zBIG; omega)]; exact hst) hn hrest hdd hL hkc hks (fun w rv h1 h2 => by
    obtain ⟨⟨Y', rfl, hr⟩, rfl⟩ := h2
    exact ⟨LW M Y' P, zpl_tl (by rw [yp_len]; unfold zBIG; omega) h1, kk Y' hr⟩)
/-- a call of the reference -/
theorem zOpL.cM (o : zOpL l D C tab L xs Z) (hW : zCV RL idx y cc nL (some .int) n) (hM : zPm l D C y cc nL d As M A) (kk : ∀ M', repM M' A.2 → Z kc ks (pc + 3) (LW M' Y P) lv (.int A.1 :: rest)) (hkc : kc ≤ 600000) (hks : ks ≤ 7302250)
    (hd : zfd tab pc = some (.invokevirtual idx) := by rfl) (hst : st = As.reverse ++ .ref 0 :: rest := by rfl) (hn : As.length = n := by rfl) (hrest : (rest.map fun v => v.category).sum ≤ 8 := by exact Nat.le_of_ble_eq_true rfl) (hdd : d ≤ 100 := by exact Nat.le_of_ble_eq_true rfl) (hL : nL ≤ 21 := by exact Nat.le_of_ble_eq_true rfl) (hy : RX4 = y.cls := by rfl) : Z kc ks pc (LW M Y P) lv st :=
  o.2.1 kc ks y cc nL n idx pc d (fun i => i) (mdW 0 M) (LW M Y P) lv _ As st rest 0 hW hM zsb_pre ⟨4, _, _, rfl, rfl, hy⟩ hd (by rw [zas_id]; exact hst) hn hrest hdd hL hkc hks (fun w rv h1 h2 => by
    obtain ⟨⟨M', rfl, hr⟩, rfl⟩ := h2
    exact ⟨LW M' Y P, zpl_pre h1, kk M' hr⟩)
theorem repY_im {Y : zY} {P : List zRu} {S : zF} {c : Nat} (h : repY P Y S c) : ∀ t, S.2.1 = some t → t.1 2 ≤ 10 := fun t ht => by
  have h3 := h.2.2.1
  rw [ht] at h3
  exact h3.2.1.1.2.2.2.1
/-- the class's rule() -/
theorem zOpL.cR (o : zOpL l D C tab L xs Z) {S : zF} (hY : repY P Y S c) (kk : ∀ Y' P', repY P' Y' (sRule S).2 (c + 1) → P'.length ≤ P.length + 31 → Z (kc + 31) (ks + 124) (pc + 3) (LW M Y' P') (lvL i) (.int (sRule S).1 :: rest)) (hP : P.length ≤ 5000) (hkc : kc + 31 ≤ 600000) (hks : ks + 124 ≤ 7302250) (hcS : ∀ v ∈ rest, ∃ x, v = .int x)
    (hd : zfd tab pc = some (.invokevirtual 43) := by rfl) (hst : st = .ref 22 :: rest := by rfl) (hrest : (rest.map fun v => v.category).sum ≤ 8 := by exact Nat.le_of_ble_eq_true rfl) : Z kc ks pc (LW M Y P) (lvL i) st := by
  refine o.2.2.2.2.2 kc ks pc M Y P _ _ (by unfold zBIG; omega) (fun Y0 h0 => ?_)
  obtain ⟨q, rfl⟩ := h0
  have hY0 : repY P (clY q P.length Y) S c := clY_rep hY
  have hz := clY_c q P Y
  have hl : (yamW 53 (clY q P.length Y) ++ pol 53 P).length + 22 < zBIG := by rw [yp_len]; unfold zBIG; omega
  have hlw : (LW M (clY q P.length Y) P).length = (yamW 53 (clY q P.length Y) ++ pol 53 P).length + 22 := tl_len
  have hl2 : 22 < (yamW 53 (clY q P.length Y) ++ pol 53 P).length + 22 := by rw [yp_len]; omega
  refine o.2.2.1 kc ks 31 124 yX3_rule cX3_rule 2 0 43 pc 13 shL (yamW 53 (clY q P.length Y) ++ pol 53 P) (LW M (clY q P.length Y) P) (lvL i) _ [] st rest 0 vL_43 (y_rule hY0 hz hP) (zsb_tl hl) (fun k hk => by rw [hlw, shL_lo (by omega)]; omega) (fun _ h => shL_F h) (by rw [hlw]; omega) ⟨3, _, _, rfl, rfl, rfl⟩ (zcW_tl hl (zcW_yam hY0.1.1 hz)) ?_ (fun v hv r e => ?_) hd (by rw [hst, shL_lo (by unfold zBIG; omega)]; rfl) rfl hrest (by decide) (by decide) hkc hks (fun w rv hlen hpo => ?_)
  · rw [hlw]
    exact zcL_s (fun r e => by cases e; exact Or.inr zfo_B) (zcL_s (zcV_r (by omega)) (zcL_s (zcV_r (by omega)) (zcL_s zcV_i zcL_nil)))
  · obtain ⟨x, rfl⟩ := hcS v hv
    cases e
  · obtain ⟨Y', P', rfl, h1, h2, h3, rfl⟩ := hpo
    have hl' : (yamW 53 Y' ++ pol 53 P').length + 22 < zBIG := by rw [yp_len]; unfold zBIG; omega
    exact ⟨LW M Y' P', zplA_tl hl' hlen, by unfold LW; rw [tl_len]; omega, kk Y' P' h1 h2⟩
end LR
