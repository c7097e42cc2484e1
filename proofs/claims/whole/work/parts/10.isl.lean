/-! the island's world; what may be used of the machine in a method's proof -/
def zR (d : Nat) : Room := { frames := d, cells := 0, slots := 0, locals := 40 * d }
theorem zR_le {a b n : Nat} (h : a < b) (hn : n ≤ 21) : (zR a).frames + 1 ≤ (zR b).frames ∧ 8 + (n + 11) + (zR a).locals ≤ (zR b).locals := by
  show a + 1 ≤ b ∧ 8 + (n + 11) + 40 * a ≤ 40 * b
  omega
section ZRUN
variable {p : Program} {l : Launch} {e : Env} {R : Room} {s : State} {m : MethodId} {args : Array Value} {below : List Frame} {meth : Method} {c : Code}
variable {cc : ByteArray} {nL : Nat} {ret : Option FieldType} {own : String} {D : va_G} {C : zC} {A : Nat → Prop} {kc ks n0 : Nat} {q q0 : Nat → Nat} {Q : State → Prop}
/-- straight code of a method that makes no cell -/
theorem zrun (F : zFx p s m args meth c cc nL ret own D C) {tab : List (Nat × Instr)} (hO : zokC cc tab = true) {fl : Nat → Option (Nat × Nat × Nat)} {ki : Nat → Option Int32} {kj : Nat → Option Int64} (hT : zTb own fl ki kj) (n : Nat) (stops : List Nat) {Po : zS → Option Value → Prop} {pc : Nat} {ws : zS} {lv : zL} {st : List Value}
    (h : zgo tab fl ki kj stops (zAt p l e R s m args below meth c D C A nL (MQ below (zQ D C A (zPk n0 Po q)) args s kc ks A) kc ks q) (fun ws rv => zRt ret rv ∧ ws.length = n0 ∧ Po ws rv) n pc ws lv st) :
    zAt p l e R s m args below meth c D C A nL (MQ below (zQ D C A (zPk n0 Po q)) args s kc ks A) kc ks q pc ws lv st :=
  zgo_sound F zcls hT hO (Nat.le_refl _) (Nat.le_refl _) (fun _ _ _ _ h => h) (fun ws rv h => ⟨h.1, fun H locs t hP hD hS ht hW => ⟨⟨q, ws, rv, ⟨rfl, h.2.1, h.2.2⟩, rfl, by rw [ht]; exact hP, hD⟩, hS.F ht⟩⟩) n pc ws lv st h
end ZRUN
theorem zsb_id (ws : zS) : zsb (fun i => i) ws ws := ⟨fun k x h => by rw [zr_id]; exact h, fun i j _ _ h => h⟩
theorem zpl_id {ws w : zS} (h : w.length = ws.length) : zpl (fun i => i) ws ws.length w w := ⟨h, fun k x hx => by rw [zr_id]; exact hx, fun i hi => by
  by_cases h1 : i < ws.length
  · exact absurd rfl (hi i h1)
  · rw [List.getElem?_eq_none (by omega), List.getElem?_eq_none (by omega)]⟩
theorem zrv_id (rv : Option Value) : rv.map (zv fun i => i) = rv := by
  cases rv with
  | none => rfl
  | some v => show some (zv (fun i => i) v) = _; rw [zv_id]
theorem zas_id (As : List Value) : As.map (zv fun i => i) = As := (List.map_congr_left (fun v _ => zv_id v)).trans (List.map_id' As)
theorem zv_rf (q : Nat → Nat) (o : Option Nat) : zv q (va_rf o) = va_rf (o.map q) := by cases o <;> rfl
theorem zsys : Jvm.Cond.native arraycopyName ∈ zG ∧ Jvm.Cond.static arraycopyName ∈ zG ∧ Jvm.Cond.initialized "java/lang/System" ∈ zG := ⟨zin_mem (h := 409) (by decide +kernel), zin_mem (h := 408) (by decide +kernel), zin_mem (h := 61) (by decide +kernel)⟩
/-- what may be used of the machine in a method's proof: Z is 'the method comes to its end well from here' -/
def zOps (l : Launch) (D : va_G) (C : zC) (own : String) (tab : List (Nat × Instr)) (fl : Nat → Option (Nat × Nat × Nat)) (ki : Nat → Option Int32) (kj : Nat → Option Int64) (d : Nat) (Kr : zS → Option Value → Prop) (Z : zP) : Prop :=
  (∀ (n : Nat) (stops : List Nat) (pc : Nat) (ws : zS) (lv : zL) (st : List Value), zgo tab fl ki kj stops Z Kr n pc ws lv st → Z pc ws lv st) ∧
  (∀ (y : MethodName) (cc' : ByteArray) (nL' n idx pc : Nat) (ret' : Option FieldType) (d' : Nat) (σ : Nat → Nat) (wc ws : zS) (lv : zL) (Po : zS → Option Value → Prop) (As st rest : List Value) (b0 : Nat), zCV own idx y cc' nL' ret' n → zFun l D C y cc' nL' ret' (zR d') (.ref b0 :: As) wc Po → zsb σ ws wc →
    (∃ (ci : Nat) (fs : List Value) (r : vw_C), wc[b0]? = some (.inr (.inr (ci, fs))) ∧ vwCl[ci]? = some r ∧ r.1 = y.cls) → zfd tab pc = some (.invokevirtual idx) → st = (As.map (zv σ)).reverse ++ .ref (σ b0) :: rest → As.length = n → (rest.map fun v => v.category).sum ≤ 8 → d' < d → nL' ≤ 21 →
    (∀ (w : zS) (rv : Option Value), w.length = wc.length → Po w rv → ∃ ws', zpl σ ws wc.length w ws' ∧ Z (pc + 3) ws' lv ((rv.map (zv σ)).toList ++ rest)) → Z pc ws lv st) ∧
  (∀ (y : MethodName) (cc' : ByteArray) (nL' n idx pc : Nat) (ret' : Option FieldType) (d' : Nat) (σ : Nat → Nat) (wc ws : zS) (lv : zL) (Po : zS → Option Value → Prop) (As st rest : List Value), zCS own idx y cc' nL' ret' n → zFun l D C y cc' nL' ret' (zR d') As wc Po → zsb σ ws wc →
    zfd tab pc = some (.invokestatic idx) → st = (As.map (zv σ)).reverse ++ rest → As.length = n → (rest.map fun v => v.category).sum ≤ 8 → d' < d → nL' ≤ 21 →
    (∀ (w : zS) (rv : Option Value), w.length = wc.length → Po w rv → ∃ ws', zpl σ ws wc.length w ws' ∧ Z (pc + 3) ws' lv ((rv.map (zv σ)).toList ++ rest)) → Z pc ws lv st) ∧
  (∀ (pc idx : Nat) (ws : zS) (lv : zL) (a0 a1 n0 n1 sp dp n : Nat) (f g : Nat → Int32), zfd tab pc = some (.invokestatic idx) → Jvm.Cond.methodLink own idx arraycopyName ∈ zG → ws[a0]? = some (.inl (0, n0, f)) → ws[a1]? = some (.inl (0, n1, g)) → sp + n ≤ n0 → dp + n ≤ n1 → n0 < 2 ^ 31 → n1 < 2 ^ 31 → 0 < d →
    Z (pc + 3) (ws.set a1 (.inl (0, n1, va_cpy f g sp dp n))) lv [] → Z pc ws lv [.int (nI n), .int (nI dp), .ref a1, .int (nI sp), .ref a0]) ∧
  (∀ (pc : Nat) (ws : zS) (lv : zL) (a n j : Nat) (f : Nat → Option Nat) (r : List Value), zfd tab pc = some .aaload → ws[a]? = some (.inr (.inl (n, f))) → j < n → n < 2 ^ 31 → Z (pc + 1) ws lv (va_rf (f j) :: r) → Z pc ws lv (.int (nI j) :: .ref a :: r)) ∧
  (∀ (pc : Nat) (ws : zS) (lv : zL) (a n j : Nat) (f : Nat → Option Nat) (o : Option Nat) (r : List Value), zfd tab pc = some .aastore → ws[a]? = some (.inr (.inl (n, f))) → j < n → n < 2 ^ 31 → (∀ v, o = some v → ∃ fs, ws[v]? = some (.inr (.inr (2, fs)))) → Z (pc + 1) (ws.set a (.inr (.inl (n, va_up f j o)))) lv r → Z pc ws lv (va_rf o :: .int (nI j) :: .ref a :: r)) ∧
  (∀ (pc : Nat) (ws : zS) (lv : zL) (st : List Value) (a k n : Nat) (f g : Nat → Int32), ws[a]? = some (.inl (k, n, f)) → (∀ j, j < n → f j = g j) → Z pc (ws.set a (.inl (k, n, g))) lv st → Z pc ws lv st) ∧
  (∀ (pc : Nat) (ws : zS) (lv : zL) (st : List Value) (a n : Nat) (f g : Nat → Option Nat), ws[a]? = some (.inr (.inl (n, f))) → (∀ j, j < n → f j = g j) → Z pc (ws.set a (.inr (.inl (n, g)))) lv st → Z pc ws lv st)
theorem arrV_congr (cI : ClassId) (N : Nat) {f g : Nat → Value} (h : ∀ j, j < N → f j = g j) : arrV cI N f = arrV cI N g := by
  unfold arrV
  congr 2
  funext j
  exact h j.val j.isLt
section ZOP
variable {p : Program} {l : Launch} {e : Env} {s : State} {m : MethodId} {args : Array Value} {below : List Frame} {meth : Method} {c : Code}
variable {cc : ByteArray} {nL : Nat} {ret : Option FieldType} {own : String} {D : va_G} {C : zC} {A : Nat → Prop} {kc ks n0 d : Nat} {q : Nat → Nat} {Q : State → Prop} {tab : List (Nat × Instr)}
theorem zop_cp (F : zFx p s m args meth c cc nL ret own D C) (hO : zokC cc tab = true) {pc idx : Nat} {ws : zS} {lv : zL} {a0 a1 n0 n1 sp dp n : Nat} {f g : Nat → Int32} (hd : zfd tab pc = some (.invokestatic idx)) (hl : Jvm.Cond.methodLink own idx arraycopyName ∈ zG) (h0 : ws[a0]? = some (.inl (0, n0, f))) (h1 : ws[a1]? = some (.inl (0, n1, g))) (h2 : sp + n ≤ n0) (h3 : dp + n ≤ n1) (h4 : n0 < 2 ^ 31) (h5 : n1 < 2 ^ 31) (hd0 : 0 < d)
    (kk : zAt p l e (zR d) s m args below meth c D C A nL Q kc ks q (pc + 3) (ws.set a1 (.inl (0, n1, va_cpy f g sp dp n))) lv []) : zAt p l e (zR d) s m args below meth c D C A nL Q kc ks q pc ws lv [.int (nI n), .int (nI dp), .ref a1, .int (nI sp), .ref a0] := by
  obtain ⟨hx, hb, hml, hr, ho, hts, hK, hlocks⟩ := F
  obtain ⟨⟨l0, hdec, hl0⟩, -⟩ := zokC_at hO hd
  obtain rfl : l0 = 3 := hl0.resolve_left (by simp [zisw])
  intro H locs ls hP hD hS hll
  have e1 : (nI n).toNatClampNeg = n := nI_clamp (by omega)
  have e2 : (nI dp).toNatClampNeg = dp := nI_clamp (by omega)
  have e3 : (nI sp).toNatClampNeg = sp := nI_clamp (by omega)
  refine va_copyi (R := zR d) (rest := []) (sp := nI sp) (dp := nI dp) (n := nI n) hx hb (hml.trans hll.2.1.symm) ho (hts _ hl) (hts _ zsys.1) (hts _ zsys.2.1) (hts _ zsys.2.2) hK hP hD hS a0 a1 0 0 (zw_of h0) (zw_of h1) rfl rfl rfl (nI_pos (by omega)) (nI_pos (by omega)) (nI_pos (by omega)) (by rw [e1, e3]; exact h2) (by rw [e1, e2]; exact h3) (fun i _ => rfl) (show 1 ≤ d from hd0) ?_ hdec (fun H1 locs1 hP hD hS => ?_)
  · have h7 : (([] : List Value).map fun v => v.category).sum + (nativeFrameWords "java/lang/System" "arraycopy" 5 + 11) ≤ 40 := by decide +kernel
    exact Nat.le_trans h7 (show 40 ≤ 40 * d by omega)
  · rw [e1, e2, e3] at hP hD
    have e4 : (zw C q ws).set a1 (q a1, Sum.inl (C.1, n1, Sum.inl (va_cpy f g sp dp n))) = zw C q (ws.set a1 (.inl (0, n1, va_cpy f g sp dp n))) := by
      rw [zw_set]; rfl
    exact kk H1 locs1 ls (e4 ▸ hP) (e4 ▸ hD) hS hll
theorem zop_al (F : zFx p s m args meth c cc nL ret own D C) (hO : zokC cc tab = true) {R : Room} {pc : Nat} {ws : zS} {lv : zL} {a n j : Nat} {f : Nat → Option Nat} {r : List Value} (hd : zfd tab pc = some .aaload) (h0 : ws[a]? = some (.inr (.inl (n, f)))) (hj : j < n) (hn : n < 2 ^ 31)
    (kk : zAt p l e R s m args below meth c D C A nL Q kc ks q (pc + 1) ws lv (va_rf (f j) :: r)) : zAt p l e R s m args below meth c D C A nL Q kc ks q pc ws lv (.int (nI j) :: .ref a :: r) := by
  obtain ⟨hx, hb, hml, hr, ho, hts, hK, hlocks⟩ := F
  obtain ⟨⟨l0, hdec, hl0⟩, -⟩ := zokC_at hO hd
  obtain rfl : l0 = 1 := hl0.resolve_left (by simp [zisw])
  intro H locs ls hP hD hS hll
  have e1 : (nI j).toNatClampNeg = j := nI_clamp (by omega)
  refine va_aldq hx hb hK hP a 2 (zw_of h0) rfl (vp_in_nI hj hn) hdec ?_
  rw [e1]
  have h := kk H locs ls hP hD hS hll
  rw [List.map_cons, zv_rf] at h
  exact h
theorem zop_as (F : zFx p s m args meth c cc nL ret own D C) (hO : zokC cc tab = true) {R : Room} {pc : Nat} {ws : zS} {lv : zL} {a n j : Nat} {f : Nat → Option Nat} {o : Option Nat} {r : List Value} (hd : zfd tab pc = some .aastore) (h0 : ws[a]? = some (.inr (.inl (n, f)))) (hj : j < n) (hn : n < 2 ^ 31) (hv : ∀ v, o = some v → ∃ fs, ws[v]? = some (.inr (.inr (2, fs))))
    (kk : zAt p l e R s m args below meth c D C A nL Q kc ks q (pc + 1) (ws.set a (.inr (.inl (n, va_up f j o)))) lv r) : zAt p l e R s m args below meth c D C A nL Q kc ks q pc ws lv (va_rf o :: .int (nI j) :: .ref a :: r) := by
  obtain ⟨hx, hb, hml, hr, ho, hts, hK, hlocks⟩ := F
  obtain ⟨⟨l0, hdec, hl0⟩, -⟩ := zokC_at hO hd
  obtain rfl : l0 = 1 := hl0.resolve_left (by simp [zisw])
  intro H locs ls hP hD hS hll
  have e1 : (nI j).toNatClampNeg = j := nI_clamp (by omega)
  have e4 : ∀ o' : Option Nat, o' = o.map q → (zw C q ws).set a (q a, Sum.inl (C.2.2, n, Sum.inr (Sum.inr (Sum.inr (Sum.inr (va_up (fun j => (f j).map q) j o')))))) = zw C q (ws.set a (.inr (.inl (n, va_up f j o)))) := by
    intro o' ho'
    rw [zw_set]
    congr 1
    show _ = (q a, Sum.inl (C.2.2, n, Sum.inr (Sum.inr (Sum.inr (Sum.inr (fun i => (va_up f j o i).map q))))))
    congr 8
    funext i
    unfold va_up
    split
    · exact ho'
    · rfl
  cases o with
  | none =>
    refine va_astqN hx hb hK hP hD hS a 2 (zw_of h0) rfl (vp_in_nI hj hn) hdec (fun H1 locs1 hP hD hS => ?_)
    rw [e1] at hP hD
    exact kk H1 locs1 ls (e4 _ rfl ▸ hP) (e4 _ rfl ▸ hD) hS hll
  | some v =>
    obtain ⟨fs, hfs⟩ := hv v rfl
    refine va_astq (r := (RX2, TX2, 4)) hx hb hK hP hD hS a 2 v 2 (zw_of h0) rfl (zw_of hfs) rfl (vp_in_nI hj hn) hdec (fun H1 locs1 hP hD hS => ?_)
    rw [e1] at hP hD
    exact kk H1 locs1 ls (e4 _ rfl ▸ hP) (e4 _ rfl ▸ hD) hS hll
theorem zop_x (x' : zE) {R : Room} {pc : Nat} {ws : zS} {lv : zL} {st : List Value} {a : Nat} {x : zE} (h0 : ws[a]? = some x) (hx : ∀ H : Heap, va_at D vwCl (q a, zc C q x) H → va_at D vwCl (q a, zc C q x') H)
    (kk : zAt p l e R s m args below meth c D C A nL Q kc ks q pc (ws.set a x') lv st) : zAt p l e R s m args below meth c D C A nL Q kc ks q pc ws lv st := by
  intro H locs ls hP hD hS hll
  refine kk H locs ls ?_ ?_ hS hll
  · rw [zw_set]
    intro i y hy
    rw [List.getElem?_set] at hy
    by_cases hia : a = i
    · subst hia
      rw [if_pos rfl] at hy
      split at hy
      · cases hy
        exact hx H (hP a _ (zw_of h0))
      · cases hy
    · rw [if_neg hia] at hy
      exact hP i y hy
  · rw [zw_set]
    exact hD.set (zw_of h0)
theorem zops_of (F : zFx p s m args meth c cc nL ret own D C) (N : zNs s) (hAf : ∀ x, s.heap.size ≤ x → A x) (hO : zokC cc tab = true) {fl : Nat → Option (Nat × Nat × Nat)} {ki : Nat → Option Int32} {kj : Nat → Option Int64} (hT : zTb own fl ki kj) {Po : zS → Option Value → Prop} :
    zOps l D C own tab fl ki kj d (fun ws rv => zRt ret rv ∧ ws.length = n0 ∧ Po ws rv) (zAt p l e (zR d) s m args below meth c D C A nL (MQ below (zQ D C A (zPk n0 Po q)) args s 0 0 A) 0 0 q) :=
  ⟨fun n stops pc ws lv st h => zrun F hO hT n stops h,
   fun y cc' nL' n idx pc ret' d' σ wc ws lv Po' As st rest b0 hW hM hsb hrc hd hst hn hrest hdd hL kk => zcallV (R := zR d) (rm' := zR d') (rest := rest) F N hAf hO hM hW hsb hrc kk hd hst hn hrest (zR_le hdd hL) ⟨Nat.le_refl 0, Nat.le_refl 0⟩,
   fun y cc' nL' n idx pc ret' d' σ wc ws lv Po' As st rest hW hM hsb hd hst hn hrest hdd hL kk => zcallS (R := zR d) (rm' := zR d') (rest := rest) F N hAf hO hM hW hsb kk hd hst hn hrest (zR_le hdd hL) ⟨Nat.le_refl 0, Nat.le_refl 0⟩,
   fun pc idx ws lv a0 a1 n0 n1 sp dp n f g hd hl h0 h1 h2 h3 h4 h5 hd0 kk => zop_cp F hO hd hl h0 h1 h2 h3 h4 h5 hd0 kk,
   fun pc ws lv a n j f r hd h0 hj hn kk => zop_al F hO hd h0 hj hn kk,
   fun pc ws lv a n j f o r hd h0 hj hn hv kk => zop_as F hO hd h0 hj hn hv kk,
   fun pc ws lv st a k n f g h0 hx kk => zop_x _ h0 (fun H h => by
     show H[q a]? = some (vp_cell _ (n, .inl g))
     have h : H[q a]? = some (vp_cell _ (n, .inl f)) := h
     rw [h, vp_cell_i, vp_cell_i, arrV_congr _ n (fun j hj => by rw [hx j hj])]) kk,
   fun pc ws lv st a n f g h0 hx kk => zop_x _ h0 (fun H h => by
     show H[q a]? = some (vp_cell _ (n, .inr (.inr (.inr (.inr (fun j => (g j).map q))))))
     have h : H[q a]? = some (vp_cell _ (n, .inr (.inr (.inr (.inr (fun j => (f j).map q)))))) := h
     rw [h, vp_cell_q, vp_cell_q, arrV_congr _ n (fun j hj => by rw [hx j hj])]) kk⟩
end ZOP
section ZOQ
variable {l : Launch} {D : va_G} {C : zC} {y : MethodName} {cc : ByteArray} {nL d : Nat} {ret : Option FieldType} {av : List Value} {wc : zS} {Po : zS → Option Value → Prop} {tab : List (Nat × Instr)} {fl : Nat → Option (Nat × Nat × Nat)} {ki : Nat → Option Int32} {kj : Nat → Option Int64} {Kr : zS → Option Value → Prop} {Z : zP} {own : String}
/-- a method that makes no cell: what is to be proved of it -/
theorem zFun_of (hy : plainName y.cls = true) (hO : zokC cc tab = true) (hT : zTb y.cls fl ki kj) (hlen : (zen av).length ≤ nL)
    (body : ∀ Z : zP, zOps l D C y.cls tab fl ki kj d (fun ws rv => zRt ret rv ∧ ws.length = wc.length ∧ Po ws rv) Z → Z 0 wc (zel nL av) []) : zFun l D C y cc nL ret (zR d) av wc Po :=
  zMet_of hy hlen (fun p e s m args below meth c q A F N _ hA => body _ (zops_of F N hA hO hT))
theorem zOps.run (o : zOps l D C own tab fl ki kj d Kr Z) (n : Nat) (stops : List Nat) {pc : Nat} {ws : zS} {lv : zL} {st : List Value} (h : zgo tab fl ki kj stops Z Kr n pc ws lv st) : Z pc ws lv st := o.1 n stops pc ws lv st h
variable {y' : MethodName} {cc' : ByteArray} {nL' n idx pc d' : Nat} {ret' : Option FieldType} {ws : zS} {lv : zL} {As st rest : List Value} {b0 : Nat}
/-- a virtual call over the caller's own world -/
theorem zOps.cV (o : zOps l D C own tab fl ki kj d Kr Z) (hW : zCV own idx y' cc' nL' ret' n) (hM : zFun l D C y' cc' nL' ret' (zR d') (.ref b0 :: As) ws Po) (kk : ∀ (w : zS) (rv : Option Value), w.length = ws.length → Po w rv → Z (pc + 3) w lv (rv.toList ++ rest))
    (hrc : ∃ (ci : Nat) (fs : List Value) (r : vw_C), ws[b0]? = some (.inr (.inr (ci, fs))) ∧ vwCl[ci]? = some r ∧ r.1 = y'.cls := by exact ⟨_, _, _, rfl, rfl, rfl⟩)
    (hd : zfd tab pc = some (.invokevirtual idx) := by rfl) (hst : st = As.reverse ++ .ref b0 :: rest := by rfl) (hn : As.length = n := by rfl) (hrest : (rest.map fun v => v.category).sum ≤ 8 := by exact Nat.le_of_ble_eq_true rfl)
    (hdd : d' < d := by exact Nat.le_of_ble_eq_true rfl) (hL : nL' ≤ 21 := by exact Nat.le_of_ble_eq_true rfl) : Z pc ws lv st :=
  o.2.1 y' cc' nL' n idx pc ret' d' (fun i => i) ws ws lv Po As st rest b0 hW hM (zsb_id ws) hrc hd (by rw [zas_id]; exact hst) hn hrest hdd hL (fun w rv h1 h2 => ⟨w, zpl_id h1, by rw [zrv_id]; exact kk w rv h1 h2⟩)
/-- a virtual call over another world -/
theorem zOps.cVs (o : zOps l D C own tab fl ki kj d Kr Z) (σ : Nat → Nat) (hW : zCV own idx y' cc' nL' ret' n) (hM : zFun l D C y' cc' nL' ret' (zR d') (.ref b0 :: As) wc Po) (hsb : zsb σ ws wc) (kk : ∀ (w : zS) (rv : Option Value), w.length = wc.length → Po w rv → ∃ ws', zpl σ ws wc.length w ws' ∧ Z (pc + 3) ws' lv ((rv.map (zv σ)).toList ++ rest))
    (hrc : ∃ (ci : Nat) (fs : List Value) (r : vw_C), wc[b0]? = some (.inr (.inr (ci, fs))) ∧ vwCl[ci]? = some r ∧ r.1 = y'.cls := by exact ⟨_, _, _, rfl, rfl, rfl⟩)
    (hd : zfd tab pc = some (.invokevirtual idx) := by rfl) (hst : st = (As.map (zv σ)).reverse ++ .ref (σ b0) :: rest := by rfl) (hn : As.length = n := by rfl) (hrest : (rest.map fun v => v.category).sum ≤ 8 := by exact Nat.le_of_ble_eq_true rfl)
    (hdd : d' < d := by exact Nat.le_of_ble_eq_true rfl) (hL : nL' ≤ 21 := by exact Nat.le_of_ble_eq_true rfl) : Z pc ws lv st :=
  o.2.1 y' cc' nL' n idx pc ret' d' σ wc ws lv Po As st rest b0 hW hM hsb hrc hd hst hn hrest hdd hL kk
/-- a static call that touches no cell -/
theorem zOps.cS (o : zOps l D C own tab fl ki kj d Kr Z) (hW : zCS own idx y' cc' nL' ret' n) (hM : zFun l D C y' cc' nL' ret' (zR d') As [] Po) (kk : ∀ (rv : Option Value), Po [] rv → Z (pc + 3) ws lv (rv.toList ++ rest))
    (hd : zfd tab pc = some (.invokestatic idx) := by rfl) (hst : st = As.reverse ++ rest := by rfl) (hn : As.length = n := by rfl) (hrest : (rest.map fun v => v.category).sum ≤ 8 := by exact Nat.le_of_ble_eq_true rfl)
    (hdd : d' < d := by exact Nat.le_of_ble_eq_true rfl) (hL : nL' ≤ 21 := by exact Nat.le_of_ble_eq_true rfl) : Z pc ws lv st :=
  o.2.2.1 y' cc' nL' n idx pc ret' d' (fun i => i) [] ws lv Po As st rest hW hM ⟨fun k x h => by simp at h, fun i j h => by simp at h⟩ hd (by rw [zas_id]; exact hst) hn hrest hdd hL (fun w rv h1 h2 => ⟨ws, ⟨rfl, fun k x hx => by rw [List.length_eq_zero_iff.mp h1] at hx; simp at hx, fun _ _ => rfl⟩, by rw [zrv_id]; exact kk rv (by rw [List.length_eq_zero_iff.mp h1] at h2; exact h2)⟩)
/-- a static call over another world -/
theorem zOps.cSs (o : zOps l D C own tab fl ki kj d Kr Z) (σ : Nat → Nat) (hW : zCS own idx y' cc' nL' ret' n) (hM : zFun l D C y' cc' nL' ret' (zR d') As wc Po) (hsb : zsb σ ws wc) (kk : ∀ (w : zS) (rv : Option Value), w.length = wc.length → Po w rv → ∃ ws', zpl σ ws wc.length w ws' ∧ Z (pc + 3) ws' lv ((rv.map (zv σ)).toList ++ rest))
    (hd : zfd tab pc = some (.invokestatic idx) := by rfl) (hst : st = (As.map (zv σ)).reverse ++ rest := by rfl) (hn : As.length = n := by rfl) (hrest : (rest.map fun v => v.category).sum ≤ 8 := by exact Nat.le_of_ble_eq_true rfl)
    (hdd : d' < d := by exact Nat.le_of_ble_eq_true rfl) (hL : nL' ≤ 21 := by exact Nat.le_of_ble_eq_true rfl) : Z pc ws lv st :=
  o.2.2.1 y' cc' nL' n idx pc ret' d' σ wc ws lv Po As st rest hW hM hsb hd hst hn hrest hdd hL kk
end ZOQ
/-- the island: its numbers (0 wayCount, 1 skyLength, 2 skyStart, 3 ruleCount, 4 peopleCount, 5 year, 6 show, 7 hidden), its rows (0 brings, 1 sky, 2 wayOf, 3 ruleOf, 4 seesOf, 5 total, 6 brought, 7 seen, 8 chosen, 9 planters), its rules -/
abbrev zI : Type := (Nat → Int32) × (Nat → Nat → Int32) × (Nat → Option Nat)
def isl (b RB : Nat) (I : zI) : zS := [
  .inr (.inr (0, [.int (I.1 0), .ref (b + 1), .int (I.1 1), .ref (b + 2), .int (I.1 2), .int (I.1 3), .ref (b + 3), .int (I.1 4), .ref (b + 4), .ref (b + 5), .ref (b + 6), .ref (b + 7), .int (I.1 5), .int (I.1 6), .int (I.1 7), .ref (b + 8), .ref (b + 9), .ref (b + 10), .ref (b + 11)])),
  .inl (0, 24, I.2.1 0), .inl (0, 24, I.2.1 1), .inr (.inl (10, fun j => (I.2.2 j).map (fun r => r + RB))), .inl (0, 8, I.2.1 2), .inl (0, 8, I.2.1 3), .inl (0, 8, I.2.1 4), .inl (0, 8, I.2.1 5), .inl (0, 8, I.2.1 6), .inl (0, 8, I.2.1 7), .inl (0, 8, I.2.1 8), .inl (0, 6, I.2.1 9)]
def setS (I : zI) (k : Nat) (x : Int32) : zI := (upd I.1 k x, I.2.1, I.2.2)
def setA (I : zI) (k : Nat) (f : Nat → Int32) : zI := (I.1, fun j => if j = k then f else I.2.1 j, I.2.2)
-- pure: the best way among 0 .. k in weather t; counting
def bst (b : Nat → Int32) (t : Nat) : Nat → Nat
  | 0 => 0
  | k + 1 => if b (bst b t k * 4 + t) < b ((k + 1) * 4 + t) then k + 1 else bst b t k
theorem bst_le (b : Nat → Int32) (t : Nat) : ∀ k, bst b t k ≤ k
  | 0 => Nat.le_refl 0
  | k + 1 => by unfold bst; split <;> first | exact Nat.le_refl _ | exact Nat.le_succ_of_le (bst_le b t k)
def cnt (f : Nat → Bool) : Nat → Nat
  | 0 => 0
  | k + 1 => cnt f k + (if f k then 1 else 0)
theorem cnt_le (f : Nat → Bool) : ∀ k, cnt f k ≤ k
  | 0 => Nat.le_refl 0
  | k + 1 => by unfold cnt; have := cnt_le f k; split <;> omega
def sm (f : Nat → Int32) : Nat → Int32
  | 0 => 0
  | k + 1 => sm f k + f k
