/-! contracts over worlds by names, their proofs' beginning, calls -/
def zNs (s : State) : Prop := va_Nw (.methodLinkNest RX3 9 yX0_init RX3) s ∧ va_Nw (.methodLinkNest RX3 31 yX1_init RX3) s ∧ va_AO RX2 s
def zQ (D : va_G) (C : zC) (A : Nat → Prop) (Po : (Nat → Nat) → zS → Option Value → Prop) : Array Value → State → Outcome → State → Prop := fun _ st oc t =>
  (∃ (q : Nat → Nat) (w : zS) (rv : Option Value), Po q w rv ∧ oc = .returned (rv.map (zv q)) ∧ va_P D vwCl (zw C q w) t.heap ∧ va_D A (zw C q w)) ∧ va_F A st t
def zPre (D : va_G) (C : zC) (q0 : Nat → Nat) (sz : Nat) (av : List Value) (wc : zS) : Array Value → State → Prop :=
  va_Pc (av.map (zv q0)) (fun U => U.heap.size = sz ∧ va_P D vwCl (zw C q0 wc) U.heap ∧ (va_K D vwCl (ztys C) U ∧ zNs U) ∧ va_D (fun _ => True) (zw C q0 wc))
def zMet (l : Launch) (D : va_G) (C : zC) (y : MethodName) (cc : ByteArray) (nL : Nat) (ret : Option FieldType) (rm : Room) (av : List Value) (wc : zS) (Po : (Nat → Nat) → (Nat → Nat) → zS → Option Value → Prop) : Prop :=
  ∀ (q0 : Nat → Nat) (sz : Nat), Met l y (.code y cc nL ret :: zG) rm (zPre D C q0 sz av wc) (zQ D C (va_A (zw C q0 wc) sz) (Po q0)) rm.cells rm.slots (va_A (zw C q0 wc) sz)
/-- no cell comes: the world keeps its names -/
def zPk (n : Nat) (Po : zS → Option Value → Prop) : (Nat → Nat) → (Nat → Nat) → zS → Option Value → Prop := fun q0 q w rv => q = q0 ∧ w.length = n ∧ Po w rv
/-- cells may come, at the end -/
def zPg (n : Nat) (Po : zS → Option Value → Prop) : (Nat → Nat) → (Nat → Nat) → zS → Option Value → Prop := fun q0 q w rv => (∀ i, i < n → q i = q0 i) ∧ n ≤ w.length ∧ Po w rv
abbrev zFun (l : Launch) (D : va_G) (C : zC) (y : MethodName) (cc : ByteArray) (nL : Nat) (ret : Option FieldType) (rm : Room) (av : List Value) (wc : zS) (Po : zS → Option Value → Prop) : Prop := zMet l D C y cc nL ret rm av wc (zPk wc.length Po)
abbrev zFunA (l : Launch) (D : va_G) (C : zC) (y : MethodName) (cc : ByteArray) (nL : Nat) (ret : Option FieldType) (rm : Room) (av : List Value) (wc : zS) (Po : zS → Option Value → Prop) : Prop := zMet l D C y cc nL ret rm av wc (zPg wc.length Po)
def zen : List Value → zL
  | [] => []
  | v :: r => match zc1 v with
    | true => some v :: zen r
    | false => some v :: none :: zen r
def zel (nL : Nat) (av : List Value) : zL := zen av ++ List.replicate (nL - (zen av).length) none
theorem zla_none (q : Nat → Nat) : ∀ (n i : Nat), zla q i (List.replicate n none) = []
  | 0, _ => rfl
  | n + 1, i => by rw [List.replicate_succ, zla, zla_none q n]
theorem zla_en (q : Nat → Nat) (n : Nat) : ∀ (av : List Value) (i : Nat), zla q i (zen av ++ List.replicate n none) = lv_args i (av.map (zv q))
  | [], i => by rw [zen, List.nil_append, zla_none]; rfl
  | v :: r, i => by
    have hc : (zv q v).category = v.category := zv_cat q v
    cases v <;> first
      | (show (i, zv q _) :: zla q (i + 1) (zen r ++ List.replicate n none) = _; rw [zla_en q n r (i + 1)]; rfl)
      | (show (i, zv q _) :: zla q (i + 1 + 1) (zen r ++ List.replicate n none) = _; rw [zla_en q n r (i + 1 + 1)]; rfl)
theorem zen_len (q : Nat → Nat) : ∀ (av : List Value), (lg_sl (av.map (zv q))).length = (zen av).length
  | [] => rfl
  | v :: r => by
    have ih := zen_len q r
    cases v <;> simp [lg_sl, zen, zc1, zv, Value.category] at ih ⊢ <;> omega
section ZM
variable {l : Launch} {D : va_G} {C : zC} {y : MethodName} {cc : ByteArray} {nL : Nat} {ret : Option FieldType} {rm : Room} {av : List Value} {wc : zS} {Po : (Nat → Nat) → (Nat → Nat) → zS → Option Value → Prop}
theorem zMet_of (hy : plainName y.cls = true) (hlen : (zen av).length ≤ nL)
    (body : ∀ (p : Program) (e : Env) (s : State) (m : MethodId) (args : Array Value) (below : List Frame) (meth : Method) (c : Code) (q : Nat → Nat) (A : Nat → Prop), zFx p s m args meth c cc nL ret y.cls D C → zNs s → meth.name = y.name → (∀ x, s.heap.size ≤ x → A x) →
      zAt p l e rm s m args below meth c D C A nL (MQ below (zQ D C A (Po q)) args s rm.cells rm.slots A) 0 0 q 0 wc (zel nL av) []) : zMet l D C y cc nL ret rm av wc Po := by
  intro q0 sz
  refine Met.ofW (cc := cc) (maxL := nL) (ret := ret) hy rfl ?_
  intro p e s m args below meth c s₁ B hml hv
  obtain ⟨rfl, hsz, hP, ⟨hK, hN⟩, hD0⟩ := hv
  have hts := atoms_spec (ws := .code y cc nL ret :: zG) B.pre
  have hown : s.vm.findClass y.cls = some m.cls := findClass_of_methodNamed B.named
  have hnm : meth.name = y.name := (name_of_methodNamed B.named B.method).1
  subst hsz
  have hD := hD0.self (sz := s.heap.size)
  have hl := lv_entry (av.map (zv q0)) (n := nL) (by rw [zen_len]; exact hlen)
  rw [lg_entry_eq]
  have F : zFx p s m (av.map (zv q0)).toArray meth c cc nL ret y.cls D C := ⟨B.exec, B.bytes, hml, B.returns, hown, fun w h => hts w (List.mem_cons_of_mem _ h), hK, B.notSynchronized⟩
  refine body p e s m _ below meth c q0 _ F hN hnm (fun x h => Or.inr h) s.heap [] _ hP hD va_S.rf ⟨?_, ?_⟩
  · show (zel nL av).length ≤ nL
    rw [zel, List.length_append, List.length_replicate]
    omega
  · rw [zel, zla_en]
    exact hl
end ZM
-- names of a callee among the caller's
def zr (σ : Nat → Nat) (x : zE) : zE := match x with
  | .inl a => .inl a
  | .inr (.inl (n, f)) => .inr (.inl (n, fun j => (f j).map σ))
  | .inr (.inr (ci, fs)) => .inr (.inr (ci, fs.map (zv σ)))
theorem zv_comp (q σ : Nat → Nat) (v : Value) : zv (fun i => q (σ i)) v = zv q (zv σ v) := by cases v <;> rfl
theorem zc_comp (C : zC) (q σ : Nat → Nat) (x : zE) : zc C (fun i => q (σ i)) x = zc C q (zr σ x) := by
  match x with
  | .inl a => rfl
  | .inr (.inl (n, f)) =>
    simp only [zc, zr, Option.map_map]
    rfl
  | .inr (.inr (ci, fs)) =>
    simp only [zc, zr, List.map_map]
    congr 3
    funext v
    exact zv_comp q σ v
theorem zr_id (x : zE) : zr (fun i => i) x = x := by
  have hv : ∀ v, zv (fun i => i) v = v := fun v => by cases v <;> rfl
  match x with
  | .inl a => rfl
  | .inr (.inl (n, f)) => simp [zr]
  | .inr (.inr (ci, fs)) =>
    simp only [zr]
    congr 3
    exact (List.map_congr_left (fun v _ => hv v)).trans (List.map_id' fs)
theorem zv_id (v : Value) : zv (fun i => i) v = v := by cases v <;> rfl
/-- the world behind a call: the callee's cells at their places, the others as they were -/
def zpl (σ : Nat → Nat) (ws : zS) (n : Nat) (w ws' : zS) : Prop := ws'.length = ws.length ∧ (∀ k x, w[k]? = some x → ws'[σ k]? = some (zr σ x)) ∧ (∀ i, (∀ k, k < n → σ k ≠ i) → ws'[i]? = ws[i]?)
/-- the callee's cells stand at their places -/
def zsb (σ : Nat → Nat) (ws wc : zS) : Prop := (∀ k x, wc[k]? = some x → ws[σ k]? = some (zr σ x)) ∧ (∀ i j, i < wc.length → j < wc.length → σ i = σ j → i = j)
section ZK
variable {p : Program} {l : Launch} {e : Env} {R : Room} {s : State} {m : MethodId} {args : Array Value} {below : List Frame} {meth : Method} {c : Code}
variable {cc : ByteArray} {nL : Nat} {ret : Option FieldType} {own : String} {D : va_G} {C : zC} {A : Nat → Prop} {Q : State → Prop} {kc ks : Nat} {q : Nat → Nat}
theorem zpre_blind {q0 : Nat → Nat} {sz : Nat} {av : List Value} {wc : zS} : FrameBlind (zPre D C q0 sz av wc) := fun a U g mk h => by
  obtain ⟨h0, h1, h2, ⟨h3, h4, h5, h6⟩, h7⟩ := h
  exact ⟨h0, h1, h2, ⟨va_K.moved (u := U) (U := U.calling g mk a) (Vm.Alike.refl U.vm) h3, va_Nw.same (u := U) (U := U.calling g mk a) rfl rfl h4, va_Nw.same (u := U) (U := U.calling g mk a) rfl rfl h5, va_AO.moved (u := U) (U := U.calling g mk a) (Vm.Alike.refl U.vm) h6⟩, h7⟩
theorem zns_warm {U : State} (hW : s.WarmedH U.vm) (h : zNs s) : zNs U := ⟨va_Nw.warmM hW h.1, va_Nw.warmM hW h.2.1, va_AO.moved hW.alike h.2.2⟩
theorem zcell_sub {σ : Nat → Nat} {ws wc : zS} (h : zsb σ ws wc) {k : Nat} {x : Nat × va_E} (hx : (zw C (fun i => q (σ i)) wc)[k]? = some x) : (zw C q ws)[σ k]? = some x := by
  rw [zw_at] at hx
  obtain ⟨y, hy, e⟩ := Option.map_eq_some_iff.mp hx
  rw [zw_of (h.1 k y hy), ← e, zc_comp C q σ]
/-- a call that makes no cell, out of its run -/
theorem zcall_go {pc mc' ms' : Nat} {ws wc : zS} {lv : zL} {st rest : List Value} {σ : Nat → Nat} {Po : zS → Option Value → Prop} {a : Array Value} (hsb : zsb σ ws wc) (hAf : ∀ x, s.heap.size ≤ x → A x)
    (hr : ∀ (H : Heap) (locs : List Loc) (ls : Array Slot), va_P D vwCl (zw C q ws) H → va_D A (zw C q ws) → zh q ls nL lv →
      va_Run p l e R s m args below meth c H locs kc ks mc' ms' (F0 m pc ls (st.map (zv q))) (rest.map (zv q)) (zQ D C (va_A (zw C (fun i => q (σ i)) wc) H.size) (zPk wc.length Po (fun i => q (σ i))) a) (va_A (zw C (fun i => q (σ i)) wc) H.size))
    (kk : ∀ (w : zS) (rv : Option Value), w.length = wc.length → Po w rv → ∃ ws', zpl σ ws wc.length w ws' ∧ zAt p l e R s m args below meth c D C A nL Q (kc + mc') (ks + ms') q (pc + 3) ws' lv ((rv.map (zv σ)).toList ++ rest)) :
    zAt p l e R s m args below meth c D C A nL Q kc ks q pc ws lv st := by
  intro H locs ls hP hD hS hl T hT X
  obtain ⟨v, st₀, t, T', L, h0, X', hL, e1, e2, ⟨⟨q1, w, rv, ⟨hq1, hlen, hpo⟩, hv, hP1, hD1⟩, hz, hk⟩, stp⟩ := hr H locs ls hP hD hl T hT X
  subst hq1
  obtain ⟨ws', ⟨hl1, hl2, hl3⟩, hat⟩ := kk w rv hlen hpo
  rw [h0] at hz hk
  have hAsub : ∀ x, va_A (zw C (fun i => q (σ i)) wc) H.size x → A x := by
    rintro x (⟨k, y, hy⟩ | hx)
    · exact hD.2 _ _ (zcell_sub hsb hy)
    · exact hAf x (Nat.le_trans hS.1 hx)
  have hP' : va_P D vwCl (zw C q ws') T'.heap := by
    intro i x hx
    rw [zw_at] at hx
    obtain ⟨y, hy, rfl⟩ := Option.map_eq_some_iff.mp hx
    by_cases hin : ∃ k, k < wc.length ∧ σ k = i
    · obtain ⟨k, hk1, rfl⟩ := hin
      obtain ⟨z, hz1⟩ : ∃ z, w[k]? = some z := ⟨_, List.getElem?_eq_getElem (by rw [hlen]; exact hk1)⟩
      have e3 := hl2 k z hz1
      rw [hy] at e3
      have e4 : y = zr σ z := Option.some.inj e3
      have h5 := hP1 k _ (zw_of hz1)
      rw [zc_comp C q σ] at h5
      rw [e4, e1]
      exact h5
    · have hno : ∀ k, k < wc.length → σ k ≠ i := fun k hk1 e3 => hin ⟨k, hk1, e3⟩
      rw [hl3 i hno] at hy
      have h5 := hP i _ (zw_of hy)
      have hlt : q i < H.size := h5.lt
      refine h5.kept ?_
      rw [e1]
      refine hk (q i) hlt ?_
      rintro (⟨k, y2, hy2⟩ | hx2)
      · have hkl : k < wc.length := by
          have := (List.getElem?_eq_some_iff.mp hy2).1
          rwa [zw_len] at this
        exact hno k hkl (hD.1 _ _ _ _ (zcell_sub hsb hy2) (zw_of hy) rfl)
      · exact absurd hlt (Nat.not_lt.mpr hx2)
  have hD' : va_D A (zw C q ws') := by
    have hex : ∀ (i : Nat) (x : Nat × va_E), (zw C q ws')[i]? = some x → ∃ y : Nat × va_E, (zw C q ws)[i]? = some y ∧ y.1 = x.1 := by
      intro i x hx
      have hi : i < ws.length := by
        have := (List.getElem?_eq_some_iff.mp hx).1
        rw [zw_len, hl1] at this
        exact this
      rw [zw_at] at hx
      obtain ⟨y, hy, rfl⟩ := Option.map_eq_some_iff.mp hx
      exact ⟨_, zw_of (List.getElem?_eq_getElem hi), rfl⟩
    refine ⟨fun i j x y hx hy hxy => ?_, fun k x hx => ?_⟩
    · obtain ⟨x', hx', ex⟩ := hex i x hx
      obtain ⟨y', hy', ey⟩ := hex j y hy
      exact hD.1 i j x' y' hx' hy' (by rw [ex, ey, hxy])
    · obtain ⟨x', hx', ex⟩ := hex k x hx
      rw [← ex]
      exact hD.2 k x' hx'
  have hS' : va_S A s.heap T'.heap (locs ++ L) := ⟨Nat.le_trans hS.1 (by rw [e1]; exact hz), fun x h1 h2 => by
      rw [e1, hk x (Nat.lt_of_lt_of_le h1 hS.1) (fun z => h2 (hAsub x z))]
      exact hS.2.1 x h1 h2, fun x hx => by
      rcases List.mem_append.mp hx with h | h
      · exact hS.2.2 x h
      · exact hAsub _ (hL x h)⟩
  obtain ⟨t2, a1, b1⟩ := hat T'.heap (locs ++ L) ls hP' hD' hS' hl T' rfl X'
  refine ⟨t2, stp t2 ?_, b1⟩
  have hvv : v = rv.map (zv (fun i => q (σ i))) := by injection hv
  have est : v.toList ++ rest.map (zv q) = ((rv.map (zv σ)).toList ++ rest).map (zv q) := by
    rw [hvv]
    cases rv with
    | none => rfl
    | some r =>
      show zv (fun i => q (σ i)) r :: rest.map (zv q) = zv q (zv σ r) :: rest.map (zv q)
      rw [zv_comp q σ]
  rw [← est] at a1
  exact a1
/-- the words of a call -/
def zCV (own : String) (idx : Nat) (y : MethodName) (cc' : ByteArray) (nL' : Nat) (ret' : Option FieldType) (n : Nat) : Prop :=
  (Jvm.Cond.methodLink own idx y ∈ zG ∧ Jvm.Cond.instanceMethod y ∈ zG ∧ Jvm.Cond.selects y.cls y y ∈ zG ∧ Jvm.Cond.initialized y.cls ∈ zG ∧ Jvm.Cond.code y cc' nL' ret' ∈ zG) ∧ y.cls ≠ "java/lang/invoke/MethodHandle" ∧ y.cls ≠ "java/lang/invoke/VarHandle" ∧ (parseMethodDescriptor y.desc).map (fun d => d.parameters.length) = some n
def zCS (own : String) (idx : Nat) (y : MethodName) (cc' : ByteArray) (nL' : Nat) (ret' : Option FieldType) (n : Nat) : Prop :=
  (Jvm.Cond.methodLink own idx y ∈ zG ∧ Jvm.Cond.static y ∈ zG ∧ Jvm.Cond.initialized y.cls ∈ zG ∧ Jvm.Cond.code y cc' nL' ret' ∈ zG) ∧ y.cls ≠ "java/lang/invoke/MethodHandle" ∧ y.cls ≠ "java/lang/invoke/VarHandle" ∧ (parseMethodDescriptor y.desc).map (fun d => d.parameters.length) = some n
theorem zgood {y : MethodName} {cc' : ByteArray} {nL' : Nat} {ret' : Option FieldType} {us : List Jvm.Cond} (h : ∀ w ∈ us, w ∈ zG) (hc : Jvm.Cond.code y cc' nL' ret' ∈ zG) : GoodIn zG (us ++ (.code y cc' nL' ret' :: zG)) := by
  intro w hw
  have hm : w ∈ zG := by
    rcases List.mem_append.mp hw with h1 | h1
    · exact h w h1
    · rcases List.mem_cons.mp h1 with h2 | h2
      · rw [h2]; exact hc
      · exact h2
  exact ⟨hm, zG_good hm⟩
variable {y : MethodName} {cc' : ByteArray} {nL' n idx pc : Nat} {ret' : Option FieldType} {rm' : Room} {wc ws : zS} {lv : zL} {Po : zS → Option Value → Prop} {σ : Nat → Nat} {As st rest : List Value} {b0 : Nat} {tab : List (Nat × Instr)}
theorem zcallV (F : zFx p s m args meth c cc nL ret own D C) (N : zNs s) (hAf : ∀ x, s.heap.size ≤ x → A x) (hO : zokC cc tab = true) (hM : zFun l D C y cc' nL' ret' rm' (.ref b0 :: As) wc Po) (hW : zCV own idx y cc' nL' ret' n)
    (hsb : zsb σ ws wc) (hrc : ∃ (ci : Nat) (fs : List Value) (r : vw_C), wc[b0]? = some (.inr (.inr (ci, fs))) ∧ vwCl[ci]? = some r ∧ r.1 = y.cls)
    (kk : ∀ (w : zS) (rv : Option Value), w.length = wc.length → Po w rv → ∃ ws', zpl σ ws wc.length w ws' ∧ zAt p l e R s m args below meth c D C A nL Q (kc + rm'.cells) (ks + rm'.slots) q (pc + 3) ws' lv ((rv.map (zv σ)).toList ++ rest))
    (hd : zfd tab pc = some (.invokevirtual idx)) (hst : st = (As.map (zv σ)).reverse ++ .ref (σ b0) :: rest) (hn : As.length = n) (hrest : (rest.map fun v => v.category).sum ≤ 8)
    (hR : rm'.frames + 1 ≤ R.frames ∧ 8 + (nL' + 11) + rm'.locals ≤ R.locals) (hf : kc + rm'.cells ≤ R.cells ∧ ks + rm'.slots ≤ R.slots) :
    zAt p l e R s m args below meth c D C A nL Q kc ks q pc ws lv st := by
  obtain ⟨hx, hb, hml, hr, ho, hts, hK, hlocks⟩ := F
  obtain ⟨⟨w1, w2, w3, w4, w5⟩, hd1, hd2, hd3⟩ := hW
  obtain ⟨⟨l0, hdec, hl0⟩, -⟩ := zokC_at hO hd
  obtain rfl : l0 = 3 := hl0.resolve_left (by simp [zisw])
  obtain ⟨ci, fs, r, hb0, hcl, hcn⟩ := hrc
  refine zcall_go (a := (Value.ref (q (σ b0)) :: As.map (zv (fun i => q (σ i)))).toArray) hsb hAf (fun H locs ls hP hD hl => ?_) kk
  have hP' : va_P D vwCl (zw C (fun i => q (σ i)) wc) H := fun k x hx => hP _ x (zcell_sub hsb hx)
  have hD' : va_D (fun _ => True) (zw C (fun i => q (σ i)) wc) := ⟨fun i j x y hx hy hxy => hsb.2 i j (by have := (List.getElem?_eq_some_iff.mp hx).1; rwa [zw_len] at this) (by have := (List.getElem?_eq_some_iff.mp hy).1; rwa [zw_len] at this) (hD.1 _ _ _ _ (zcell_sub hsb hx) (zcell_sub hsb hy) hxy), fun _ _ _ => trivial⟩
  have hg : GoodIn zG (wsV own idx y.cls y (.code y cc' nL' ret' :: zG)) := zgood (us := [.methodLink own idx y, .instanceMethod y, .selects y.cls y y, .initialized y.cls]) (by
    intro w hw
    simp only [List.mem_cons, List.not_mem_nil, or_false] at hw
    rcases hw with rfl | rfl | rfl | rfl <;> assumption) w5
  refine va_runV (C := y.cls) (b := q (σ b0)) (As := As.map (zv (fun i => q (σ i)))) (Ts := zG) ⟨hx, hb, hml, ho, hts⟩ (hM (fun i => q (σ i)) H.size) (cwV n hts hg rfl rfl rfl ⟨rfl, hd1, hd2, hd3⟩ hR) ⟨zpre_blind, ?_, fun U hU hWU => ⟨rfl, by rw [hU], by rw [hU]; exact hP', ⟨va_K.moved hWU.alike hK, zns_warm hWU N⟩, hD'⟩⟩ rfl (by rw [List.length_map]; exact hn) hl.2.1 ?_ (lv_room (by
      rw [List.map_map]
      have : (rest.map (fun v => v.category)) = rest.map ((fun v => v.category) ∘ zv q) := List.map_congr_left (fun v _ => (zv_cat q v).symm)
      rw [← this]
      exact hrest)) hdec hf
  · have := va_recv (q := r) hK hP' hcl (zw_of hb0)
    rw [hcn] at this
    exact this
  · show st.map (zv q) = _
    rw [hst, List.map_append, List.map_reverse, List.map_map]
    have : (As.map (zv q ∘ zv σ)) = As.map (zv (fun i => q (σ i))) := List.map_congr_left (fun v _ => (zv_comp q σ v).symm)
    rw [this]
    rfl
theorem zcallS (F : zFx p s m args meth c cc nL ret own D C) (N : zNs s) (hAf : ∀ x, s.heap.size ≤ x → A x) (hO : zokC cc tab = true) (hM : zFun l D C y cc' nL' ret' rm' As wc Po) (hW : zCS own idx y cc' nL' ret' n)
    (hsb : zsb σ ws wc)
    (kk : ∀ (w : zS) (rv : Option Value), w.length = wc.length → Po w rv → ∃ ws', zpl σ ws wc.length w ws' ∧ zAt p l e R s m args below meth c D C A nL Q (kc + rm'.cells) (ks + rm'.slots) q (pc + 3) ws' lv ((rv.map (zv σ)).toList ++ rest))
    (hd : zfd tab pc = some (.invokestatic idx)) (hst : st = (As.map (zv σ)).reverse ++ rest) (hn : As.length = n) (hrest : (rest.map fun v => v.category).sum ≤ 8)
    (hR : rm'.frames + 1 ≤ R.frames ∧ 8 + (nL' + 11) + rm'.locals ≤ R.locals) (hf : kc + rm'.cells ≤ R.cells ∧ ks + rm'.slots ≤ R.slots) :
    zAt p l e R s m args below meth c D C A nL Q kc ks q pc ws lv st := by
  obtain ⟨hx, hb, hml, hr, ho, hts, hK, hlocks⟩ := F
  obtain ⟨⟨w1, w2, w4, w5⟩, hd1, hd2, hd3⟩ := hW
  obtain ⟨⟨l0, hdec, hl0⟩, -⟩ := zokC_at hO hd
  obtain rfl : l0 = 3 := hl0.resolve_left (by simp [zisw])
  refine zcall_go (a := (As.map (zv (fun i => q (σ i)))).toArray) hsb hAf (fun H locs ls hP hD hl => ?_) kk
  have hP' : va_P D vwCl (zw C (fun i => q (σ i)) wc) H := fun k x hx => hP _ x (zcell_sub hsb hx)
  have hD' : va_D (fun _ => True) (zw C (fun i => q (σ i)) wc) := ⟨fun i j x y hx hy hxy => hsb.2 i j (by have := (List.getElem?_eq_some_iff.mp hx).1; rwa [zw_len] at this) (by have := (List.getElem?_eq_some_iff.mp hy).1; rwa [zw_len] at this) (hD.1 _ _ _ _ (zcell_sub hsb hx) (zcell_sub hsb hy) hxy), fun _ _ _ => trivial⟩
  have hg : GoodIn zG (.code y cc' nL' ret' :: zG) := zgood (us := []) (fun w hw => absurd hw List.not_mem_nil) w5
  refine va_runS (As := As.map (zv (fun i => q (σ i)))) (Ts := zG) ⟨hx, hb, hml, ho, hts⟩ (hM (fun i => q (σ i)) H.size) ⟨callB_of n hts hg rfl rfl rfl (hts _ w4) (hts _ w1) ⟨hd1, hd2, hd3⟩ hR, hts _ w2⟩ ⟨zpre_blind, fun U hU hWU => ⟨rfl, by rw [hU], by rw [hU]; exact hP', ⟨va_K.moved hWU.alike hK, zns_warm hWU N⟩, hD'⟩⟩ rfl (by rw [List.length_map]; exact hn) hl.2.1 ?_ (lv_room (by
      rw [List.map_map]
      have : (rest.map (fun v => v.category)) = rest.map ((fun v => v.category) ∘ zv q) := List.map_congr_left (fun v _ => (zv_cat q v).symm)
      rw [← this]
      exact hrest)) hdec hf
  show st.map (zv q) = _
  rw [hst, List.map_append, List.map_reverse, List.map_map]
  have : (As.map (zv q ∘ zv σ)) = As.map (zv (fun i => q (σ i))) := List.map_congr_left (fun v _ => (zv_comp q σ v).symm)
  rw [this]
end ZK
