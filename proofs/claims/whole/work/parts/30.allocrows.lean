/-! rows of methods that make cells -/
/-- the words of a constructor's call -/
def zCI (own : String) (idx : Nat) (y : MethodName) (cc' : ByteArray) (nL' n : Nat) : Prop :=
  (Jvm.Cond.methodLink own idx y ∈ zG ∧ Jvm.Cond.instanceMethod y ∈ zG ∧ Jvm.Cond.initialized y.cls ∈ zG ∧ Jvm.Cond.code y cc' nL' none ∈ zG) ∧ y.name = "<init>" ∧ y.cls ≠ "java/lang/invoke/MethodHandle" ∧ y.cls ≠ "java/lang/invoke/VarHandle" ∧ (parseMethodDescriptor y.desc).map (fun d => d.parameters.length) = some n
def zCN (s : State) (idx : Nat) (y : MethodName) (cc' : ByteArray) (nL' n : Nat) : Prop :=
  va_Nw (.methodLinkNest RX3 idx y RX3) s ∧ (Jvm.Cond.instanceMethod y ∈ zG ∧ Jvm.Cond.initialized y.cls ∈ zG ∧ Jvm.Cond.code y cc' nL' none ∈ zG) ∧ y.name = "<init>" ∧ y.cls ≠ "java/lang/invoke/MethodHandle" ∧ y.cls ≠ "java/lang/invoke/VarHandle" ∧ (parseMethodDescriptor y.desc).map (fun d => d.parameters.length) = some n
section ZY
variable {p : Program} {l : Launch} {e : Env} {R : Room} {s : State} {m : MethodId} {args : Array Value} {below : List Frame} {meth : Method} {c : Code}
variable {cc : ByteArray} {nL : Nat} {ret : Option FieldType} {own : String} {D : va_G} {C : zC} {A : Nat → Prop} {Qc : Array Value → State → Outcome → State → Prop} {kc ks n0 : Nat} {q q0 : Nat → Nat} {tab : List (Nat × Instr)}
variable {y : MethodName} {cc' : ByteArray} {nL' n idx pc : Nat} {ret' : Option FieldType} {rm' : Room} {wc ws : zS} {lv : zL} {Po : zS → Option Value → Prop} {σ : Nat → Nat} {As st rest : List Value} {b0 : Nat}
theorem zZ_run (F : zFx p s m args meth c cc nL ret own D C) (hO : zokC cc tab = true) {fl : Nat → Option (Nat × Nat × Nat)} {ki : Nat → Option Int32} {kj : Nat → Option Int64} (hT : zTb own fl ki kj) {Kr : zS → Option Value → Prop} (hR : ∀ q ws rv, zag n0 q0 q → Kr ws rv → zRe s args D C A q ret Qc ws rv) (n : Nat) (stops : List Nat) (hkc : kc ≤ R.cells) (hks : ks ≤ R.slots)
    (h : zgo tab fl ki kj stops (zZ p l e R s m args below meth c D C A nL Qc n0 q0 kc ks) Kr n pc ws lv st) : zZ p l e R s m args below meth c D C A nL Qc n0 q0 kc ks pc ws lv st := fun q hq =>
  zgo_sound F zcls hT hO hkc hks (fun _ _ _ _ h => h q hq) (fun ws rv h => hR q ws rv hq h) n pc ws lv st h
theorem zZ_callV (F : zFx p s m args meth c cc nL ret own D C) (N : zNs s) (hAf : ∀ x, s.heap.size ≤ x → A x) (hO : zokC cc tab = true) (hM : zFun l D C y cc' nL' ret' rm' (.ref b0 :: As) wc Po) (hW : zCV own idx y cc' nL' ret' n)
    (hsb : zsb σ ws wc) (hrc : ∃ (ci : Nat) (fs : List Value) (r : vw_C), wc[b0]? = some (.inr (.inr (ci, fs))) ∧ vwCl[ci]? = some r ∧ r.1 = y.cls)
    (kk : ∀ (w : zS) (rv : Option Value), w.length = wc.length → Po w rv → ∃ ws', zpl σ ws wc.length w ws' ∧ zZ p l e R s m args below meth c D C A nL Qc n0 q0 (kc + rm'.cells) (ks + rm'.slots) (pc + 3) ws' lv ((rv.map (zv σ)).toList ++ rest))
    (hd : zfd tab pc = some (.invokevirtual idx)) (hst : st = (As.map (zv σ)).reverse ++ .ref (σ b0) :: rest) (hn : As.length = n) (hrest : (rest.map fun v => v.category).sum ≤ 8)
    (hR : rm'.frames + 1 ≤ R.frames ∧ 8 + (nL' + 11) + rm'.locals ≤ R.locals) (hf : kc + rm'.cells ≤ R.cells ∧ ks + rm'.slots ≤ R.slots) :
    zZ p l e R s m args below meth c D C A nL Qc n0 q0 kc ks pc ws lv st := fun q hq => zcallV F N hAf hO hM hW hsb hrc (fun w rv h1 h2 => by
      obtain ⟨ws', h3, h4⟩ := kk w rv h1 h2
      exact ⟨ws', h3, h4 q hq⟩) hd hst hn hrest hR hf
theorem zZ_callS (F : zFx p s m args meth c cc nL ret own D C) (N : zNs s) (hAf : ∀ x, s.heap.size ≤ x → A x) (hO : zokC cc tab = true) (hM : zFun l D C y cc' nL' ret' rm' As wc Po) (hW : zCS own idx y cc' nL' ret' n)
    (hsb : zsb σ ws wc)
    (kk : ∀ (w : zS) (rv : Option Value), w.length = wc.length → Po w rv → ∃ ws', zpl σ ws wc.length w ws' ∧ zZ p l e R s m args below meth c D C A nL Qc n0 q0 (kc + rm'.cells) (ks + rm'.slots) (pc + 3) ws' lv ((rv.map (zv σ)).toList ++ rest))
    (hd : zfd tab pc = some (.invokestatic idx)) (hst : st = (As.map (zv σ)).reverse ++ rest) (hn : As.length = n) (hrest : (rest.map fun v => v.category).sum ≤ 8)
    (hR : rm'.frames + 1 ≤ R.frames ∧ 8 + (nL' + 11) + rm'.locals ≤ R.locals) (hf : kc + rm'.cells ≤ R.cells ∧ ks + rm'.slots ≤ R.slots) :
    zZ p l e R s m args below meth c D C A nL Qc n0 q0 kc ks pc ws lv st := fun q hq => zcallS F N hAf hO hM hW hsb (fun w rv h1 h2 => by
      obtain ⟨ws', h3, h4⟩ := kk w rv h1 h2
      exact ⟨ws', h3, h4 q hq⟩) hd hst hn hrest hR hf
theorem zst_eq (hst : st = (As.map (zv σ)).reverse ++ .ref (σ b0) :: rest) : st.map (zv q) = (As.map (zv (fun i => q (σ i)))).reverse ++ Value.ref (q (σ b0)) :: rest.map (zv q) := by
  rw [hst, List.map_append, List.map_reverse, List.map_map]
  have : (As.map (zv q ∘ zv σ)) = As.map (zv (fun i => q (σ i))) := List.map_congr_left (fun v _ => (zv_comp q σ v).symm)
  rw [this]
  rfl
theorem zrest_eq (hrest : (rest.map fun v => v.category).sum ≤ 8) : ((rest.map (zv q)).map fun v => v.category).sum ≤ 8 := by
  rw [List.map_map]
  have : (rest.map (fun v => v.category)) = rest.map ((fun v => v.category) ∘ zv q) := List.map_congr_left (fun v _ => (zv_cat q v).symm)
  rw [← this]
  exact hrest
theorem zsub_D (hsb : zsb σ ws wc) (hD : va_D A (zw C q ws)) : va_D (fun _ => True) (zw C (fun i => q (σ i)) wc) := ⟨fun i j x y hx hy hxy => hsb.2 i j (by have := (List.getElem?_eq_some_iff.mp hx).1; rwa [zw_len] at this) (by have := (List.getElem?_eq_some_iff.mp hy).1; rwa [zw_len] at this) (hD.1 _ _ _ _ (zcell_sub hsb hx) (zcell_sub hsb hy) hxy), fun _ _ _ => trivial⟩
theorem zZ_callA (F : zFx p s m args meth c cc nL ret own D C) (N : zNs s) (hAf : ∀ x, s.heap.size ≤ x → A x) (hO : zokC cc tab = true) (hM : zFunB l D C y cc' nL' ret' rm' (.ref b0 :: As) wc Po) (hW : zCV own idx y cc' nL' ret' n)
    (hsb : zsb σ ws wc) (hσ : ∀ k, k < wc.length → σ k < ws.length) (hσB : ∀ i, zfo i → σ i = i) (hwB : wc.length ≤ ws.length) (hrc : ∃ (ci : Nat) (fs : List Value) (r : vw_C), wc[b0]? = some (.inr (.inr (ci, fs))) ∧ vwCl[ci]? = some r ∧ r.1 = y.cls)
    (hn0 : n0 ≤ ws.length) (hcW : zcW ws) (hcL : zcL ws.length lv) (hcS : zcS ws.length rest)
    (kk : ∀ (w : zS) (rv : Option Value), wc.length ≤ w.length → Po w rv → ∃ ws', zplA σ ws wc.length w ws' ∧ ws'.length ≤ zBIG ∧ zZ p l e R s m args below meth c D C A nL Qc n0 q0 (kc + rm'.cells) (ks + rm'.slots) (pc + 3) ws' lv ((rv.map (zv (zsg σ wc.length ws.length))).toList ++ rest))
    (hd : zfd tab pc = some (.invokevirtual idx)) (hst : st = (As.map (zv σ)).reverse ++ .ref (σ b0) :: rest) (hn : As.length = n) (hrest : (rest.map fun v => v.category).sum ≤ 8)
    (hR : rm'.frames + 1 ≤ R.frames ∧ 8 + (nL' + 11) + rm'.locals ≤ R.locals) (hf : kc + rm'.cells ≤ R.cells ∧ ks + rm'.slots ≤ R.slots) :
    zZ p l e R s m args below meth c D C A nL Qc n0 q0 kc ks pc ws lv st := fun q hq => by
  obtain ⟨hx, hb, hml, hr, ho, hts, hK, hlocks⟩ := F
  obtain ⟨⟨w1, w2, w3, w4, w5⟩, hd1, hd2, hd3⟩ := hW
  obtain ⟨⟨l0, hdec, hl0⟩, -⟩ := zokC_at hO hd
  obtain rfl : l0 = 3 := hl0.resolve_left (by simp [zisw])
  obtain ⟨ci, fs, r, hb0, hcl, hcn⟩ := hrc
  refine zcallA_go (a := (Value.ref (q (σ b0)) :: As.map (zv (fun i => q (σ i)))).toArray) hsb hσ hσB hwB hAf hn0 hcW hcL hcS hq (fun H locs ls hP hD hl => ?_) kk
  have hP' : va_P D vwCl (zw C (fun i => q (σ i)) wc) H := fun k x hx => hP _ x (zcell_sub hsb hx)
  have hD' := zsub_D (C := C) hsb hD
  have hg : GoodIn zG (wsV own idx y.cls y (.code y cc' nL' ret' :: zG)) := zgood (us := [.methodLink own idx y, .instanceMethod y, .selects y.cls y y, .initialized y.cls]) (by
    intro w hw
    simp only [List.mem_cons, List.not_mem_nil, or_false] at hw
    rcases hw with rfl | rfl | rfl | rfl <;> assumption) w5
  refine va_runV (C := y.cls) (b := q (σ b0)) (As := As.map (zv (fun i => q (σ i)))) (Ts := zG) ⟨hx, hb, hml, ho, hts⟩ (hM (fun i => q (σ i)) H.size) (cwV n hts hg rfl rfl rfl ⟨rfl, hd1, hd2, hd3⟩ hR) ⟨zpre_blind, ?_, fun U hU hWU => ⟨rfl, by rw [hU], by rw [hU]; exact hP', ⟨va_K.moved hWU.alike hK, zns_warm hWU N⟩, hD'⟩⟩ rfl (by rw [List.length_map]; exact hn) hl.2.1 (zst_eq hst) (lv_room (zrest_eq hrest)) hdec hf
  have := va_recv (q := r) hK hP' hcl (zw_of hb0)
  rw [hcn] at this
  exact this
theorem zZ_init (F : zFx p s m args meth c cc nL ret own D C) (N : zNs s) (hAf : ∀ x, s.heap.size ≤ x → A x) (hO : zokC cc tab = true) (hM : zFunB l D C y cc' nL' none rm' (.ref b0 :: As) wc Po) (hW : zCI own idx y cc' nL' n)
    (hsb : zsb σ ws wc) (hσ : ∀ k, k < wc.length → σ k < ws.length) (hσB : ∀ i, zfo i → σ i = i) (hwB : wc.length ≤ ws.length)
    (hn0 : n0 ≤ ws.length) (hcW : zcW ws) (hcL : zcL ws.length lv) (hcS : zcS ws.length rest)
    (kk : ∀ (w : zS) (rv : Option Value), wc.length ≤ w.length → Po w rv → ∃ ws', zplA σ ws wc.length w ws' ∧ ws'.length ≤ zBIG ∧ zZ p l e R s m args below meth c D C A nL Qc n0 q0 (kc + rm'.cells) (ks + rm'.slots) (pc + 3) ws' lv ((rv.map (zv (zsg σ wc.length ws.length))).toList ++ rest))
    (hd : zfd tab pc = some (.invokespecial idx)) (hst : st = (As.map (zv σ)).reverse ++ .ref (σ b0) :: rest) (hn : As.length = n) (hrest : (rest.map fun v => v.category).sum ≤ 8)
    (hR : rm'.frames + 1 ≤ R.frames ∧ 8 + (nL' + 11) + rm'.locals ≤ R.locals) (hf : kc + rm'.cells ≤ R.cells ∧ ks + rm'.slots ≤ R.slots) :
    zZ p l e R s m args below meth c D C A nL Qc n0 q0 kc ks pc ws lv st := fun q hq => by
  obtain ⟨hx, hb, hml, hr, ho, hts, hK, hlocks⟩ := F
  obtain ⟨⟨w1, w2, w3, w5⟩, hnm, hd1, hd2, hd3⟩ := hW
  obtain ⟨⟨l0, hdec, hl0⟩, -⟩ := zokC_at hO hd
  obtain rfl : l0 = 3 := hl0.resolve_left (by simp [zisw])
  refine zcallA_go (a := (Value.ref (q (σ b0)) :: As.map (zv (fun i => q (σ i)))).toArray) hsb hσ hσB hwB hAf hn0 hcW hcL hcS hq (fun H locs ls hP hD hl => ?_) kk
  have hP' : va_P D vwCl (zw C (fun i => q (σ i)) wc) H := fun k x hx => hP _ x (zcell_sub hsb hx)
  have hD' := zsub_D (C := C) hsb hD
  have hg : GoodIn zG (.code y cc' nL' none :: zG) := zgood (us := []) (fun w hw => absurd hw List.not_mem_nil) w5
  exact va_runI (b := q (σ b0)) (As := As.map (zv (fun i => q (σ i)))) (Ts := zG) ⟨hx, hb, hml, ho, hts⟩ (hM (fun i => q (σ i)) H.size) (cwI n hts hg rfl rfl rfl (hts _ w3) (hts _ w1) (hts _ w2) hnm ⟨hd1, hd2, hd3⟩ hR) ⟨zpre_blind, fun U hU hWU => ⟨rfl, by rw [hU], by rw [hU]; exact hP', ⟨va_K.moved hWU.alike hK, zns_warm hWU N⟩, hD'⟩⟩ rfl (by rw [List.length_map]; exact hn) hl.2.1 (zst_eq hst) (lv_room (zrest_eq hrest)) hdec hf
theorem zZ_initN (F : zFx p s m args meth c cc nL ret RX3 D C) (N : zNs s) (hAf : ∀ x, s.heap.size ≤ x → A x) (hO : zokC cc tab = true) (hM : zFunB l D C y cc' nL' none rm' (.ref b0 :: As) wc Po) (hW : zCN s idx y cc' nL' n)
    (hsb : zsb σ ws wc) (hσ : ∀ k, k < wc.length → σ k < ws.length) (hσB : ∀ i, zfo i → σ i = i) (hwB : wc.length ≤ ws.length)
    (hn0 : n0 ≤ ws.length) (hcW : zcW ws) (hcL : zcL ws.length lv) (hcS : zcS ws.length rest)
    (kk : ∀ (w : zS) (rv : Option Value), wc.length ≤ w.length → Po w rv → ∃ ws', zplA σ ws wc.length w ws' ∧ ws'.length ≤ zBIG ∧ zZ p l e R s m args below meth c D C A nL Qc n0 q0 (kc + rm'.cells) (ks + rm'.slots) (pc + 3) ws' lv ((rv.map (zv (zsg σ wc.length ws.length))).toList ++ rest))
    (hd : zfd tab pc = some (.invokespecial idx)) (hst : st = (As.map (zv σ)).reverse ++ .ref (σ b0) :: rest) (hn : As.length = n) (hrest : (rest.map fun v => v.category).sum ≤ 8)
    (hR : rm'.frames + 1 ≤ R.frames ∧ 8 + (nL' + 11) + rm'.locals ≤ R.locals) (hf : kc + rm'.cells ≤ R.cells ∧ ks + rm'.slots ≤ R.slots) :
    zZ p l e R s m args below meth c D C A nL Qc n0 q0 kc ks pc ws lv st := fun q hq => by
  obtain ⟨hx, hb, hml, hr, ho, hts, hK, hlocks⟩ := F
  obtain ⟨w1, ⟨w2, w3, w5⟩, hnm, hd1, hd2, hd3⟩ := hW
  obtain ⟨⟨l0, hdec, hl0⟩, -⟩ := zokC_at hO hd
  obtain rfl : l0 = 3 := hl0.resolve_left (by simp [zisw])
  refine zcallA_go (a := (Value.ref (q (σ b0)) :: As.map (zv (fun i => q (σ i)))).toArray) hsb hσ hσB hwB hAf hn0 hcW hcL hcS hq (fun H locs ls hP hD hl => ?_) kk
  have hP' : va_P D vwCl (zw C (fun i => q (σ i)) wc) H := fun k x hx => hP _ x (zcell_sub hsb hx)
  have hD' := zsub_D (C := C) hsb hD
  have hg : GoodIn zG (.code y cc' nL' none :: zG) := zgood (us := []) (fun w hw => absurd hw List.not_mem_nil) w5
  exact va_runIN (b := q (σ b0)) (As := As.map (zv (fun i => q (σ i)))) (Ts := zG) ⟨hx, hb, hml, ho, hts⟩ (hM (fun i => q (σ i)) H.size) ⟨va_cnB n hts hg rfl rfl rfl w1 (hts _ w3) ⟨hd1, hd2, hd3⟩ hR, hnm, hts _ w2⟩ ⟨zpre_blind, fun U hU hWU => ⟨rfl, by rw [hU], by rw [hU]; exact hP', ⟨va_K.moved hWU.alike hK, zns_warm hWU N⟩, hD'⟩⟩ rfl (by rw [List.length_map]; exact hn) hl.2.1 (zst_eq hst) (lv_room (zrest_eq hrest)) hdec hf
/-- the words of a making -/
def zNw (own : String) (idx ci : Nat) (r : vw_C) (fs : List Value) : Prop := (Jvm.Cond.classLink own idx r.1 ∈ zG ∧ Jvm.Cond.instantiable r.1 r.2.2 ∈ zG ∧ Jvm.Cond.initialized r.1 ∈ zG) ∧ vwCl[ci]? = some r ∧ (∀ j, j < r.2.2 → (parseFieldDescriptor (r.2.1 j).2.2.1).map defaultValue = some (vp_V fs j)) ∧ ∀ v ∈ fs, ∀ a, v ≠ .ref a
theorem zZ_new (F : zFx p s m args meth c cc nL ret own D C) (hAf : ∀ x, s.heap.size ≤ x → A x) (hO : zokC cc tab = true) {ci : Nat} {r : vw_C} {fs : List Value} (hd : zfd tab pc = some (.new idx)) (hw : zNw own idx ci r fs) (hn0 : n0 ≤ ws.length) (hB : ws.length < zBIG) (hcW : zcW ws) (hcL : zcL ws.length lv) (hcS : zcS ws.length st) (hkc : kc + 1 ≤ R.cells) (hks : ks + r.2.2 ≤ R.slots)
    (kk : zZ p l e R s m args below meth c D C A nL Qc n0 q0 (kc + 1) (ks + r.2.2) (pc + 3) (ws ++ [.inr (.inr (ci, fs))]) lv (.ref ws.length :: st)) : zZ p l e R s m args below meth c D C A nL Qc n0 q0 kc ks pc ws lv st := fun q hq => by
  obtain ⟨hx, hb, hml, hr, ho, hts, hK, hlocks⟩ := F
  obtain ⟨⟨l0, hdec, hl0⟩, -⟩ := zokC_at hO hd
  obtain rfl : l0 = 3 := hl0.resolve_left (by simp [zisw])
  obtain ⟨⟨w1, w2, w3⟩, hcl, hfs, hnr⟩ := hw
  obtain ⟨hin, ty, hty, hnm⟩ := zcls ci r hcl
  intro H locs ls hP hD hS hl
  refine va_new (C := r.1) (T := r.2.1) (N := r.2.2) (fs := fs) hx hb hts hin ty hty ho (hts _ w1) (hts _ w2) (hts _ w3) hK hP hD hS hAf hcl (fun j hj => ?_) hkc hks hdec (fun a H1 hP1 hD1 hS1 => ?_)
  · have := hfs j hj
    rw [hty j hj] at this
    exact Option.some.inj this
  · obtain ⟨q', hag, hself, hP2, hD2⟩ := z_push (x := .inr (.inr (ci, fs))) hB hcW (fun q' _ => by
      show Sum.inr (ci, fs.map (zv q')) = Sum.inr (ci, fs)
      congr 2
      refine (List.map_congr_left (fun v hv => ?_)).trans (List.map_id' fs)
      cases v <;> first | rfl | exact absurd rfl (hnr _ hv _)) hP1 hD1
    have h := kk q' (zag_tr hq hag hn0) H1 locs ls hP2 hD2 hS1 (zh_ag hag hcL hl)
    have e1 : (Value.ref ws.length :: st).map (zv q') = Value.ref a :: st.map (zv q) := by
      rw [List.map_cons, zst_ag hag hcS]
      show Value.ref (q' ws.length) :: _ = _
      rw [hself]
    rw [e1] at h
    exact h
theorem zZ_newi (F : zFx p s m args meth c cc nL ret own D C) (hAf : ∀ x, s.heap.size ≤ x → A x) (hO : zokC cc tab = true) {N' : Nat} (hd : zfd tab pc = some (.newarray .int)) (hw : Jvm.Cond.arrayClass .int ∈ zG) (hN : N' < 100000) (hn0 : n0 ≤ ws.length) (hB : ws.length < zBIG) (hcW : zcW ws) (hcL : zcL ws.length lv) (hcS : zcS ws.length st) (hkc : kc + 1 ≤ R.cells) (hks : ks + N' ≤ R.slots)
    (hlen : zlen (.newarray .int) = 2) (kk : zZ p l e R s m args below meth c D C A nL Qc n0 q0 (kc + 1) (ks + N') (pc + 2) (ws ++ [.inl (0, N', fun _ => 0)]) lv (.ref ws.length :: st)) : zZ p l e R s m args below meth c D C A nL Qc n0 q0 kc ks pc ws lv (.int (nI N') :: st) := fun q hq => by
  obtain ⟨hx, hb, hml, hr, ho, hts, hK, hlocks⟩ := F
  obtain ⟨⟨l0, hdec, hl0⟩, -⟩ := zokC_at hO hd
  obtain rfl : l0 = 2 := (hl0.resolve_left (by simp [zisw])).trans hlen
  intro H locs ls hP hD hS hl
  refine va_newa (atype := .int) (ty := .int) (N' := N') (a0 := (N', .inl (fun _ => 0))) hx hb (hts _ hw) rfl hK hP hD hS hAf (fun cA => by rw [vp_cell_i]; rfl) (nI_pos (by omega)) (nI_clamp (by omega)) (by show N' * componentBytes .int ≤ _; have : componentBytes .int = 4 := rfl; rw [this]; omega) hkc hks hdec (fun a cA H1 hK1 hP1 hD1 hS1 => ?_)
  have hcA : cA = C.1 := by
    have h1 := va_nm_int (hK1.2 3 _ rfl).2
    have h2 := va_nm_int (hK.2 0 _ rfl).2
    exact Option.some.inj (h1.symm.trans h2)
  subst hcA
  obtain ⟨q', hag, hself, hP2, hD2⟩ := z_push (x := .inl (0, N', fun _ => 0)) hB hcW (fun q' _ => rfl) hP1 hD1
  have h := kk q' (zag_tr hq hag hn0) H1 locs ls hP2 hD2 hS1 (zh_ag hag hcL hl)
  have e1 : (Value.ref ws.length :: st).map (zv q') = Value.ref a :: st.map (zv q) := by
    rw [List.map_cons, zst_ag hag hcS]
    show Value.ref (q' ws.length) :: _ = _
    rw [hself]
  rw [e1] at h
  exact h
theorem zZ_newb (F : zFx p s m args meth c cc nL ret own D C) (hAf : ∀ x, s.heap.size ≤ x → A x) (hO : zokC cc tab = true) {N' : Nat} (hd : zfd tab pc = some (.newarray .boolean)) (hw : Jvm.Cond.arrayClass .boolean ∈ zG) (hN : N' < 100000) (hn0 : n0 ≤ ws.length) (hB : ws.length < zBIG) (hcW : zcW ws) (hcL : zcL ws.length lv) (hcS : zcS ws.length st) (hkc : kc + 1 ≤ R.cells) (hks : ks + N' ≤ R.slots)
    (hlen : zlen (.newarray .boolean) = 2) (kk : zZ p l e R s m args below meth c D C A nL Qc n0 q0 (kc + 1) (ks + N') (pc + 2) (ws ++ [.inl (1, N', fun _ => 0)]) lv (.ref ws.length :: st)) : zZ p l e R s m args below meth c D C A nL Qc n0 q0 kc ks pc ws lv (.int (nI N') :: st) := fun q hq => by
  obtain ⟨hx, hb, hml, hr, ho, hts, hK, hlocks⟩ := F
  obtain ⟨⟨l0, hdec, hl0⟩, -⟩ := zokC_at hO hd
  obtain rfl : l0 = 2 := (hl0.resolve_left (by simp [zisw])).trans hlen
  intro H locs ls hP hD hS hl
  refine va_newa (atype := .boolean) (ty := .boolean) (N' := N') (a0 := (N', .inl (fun _ => 0))) hx hb (hts _ hw) rfl hK hP hD hS hAf (fun cA => by rw [vp_cell_i]; rfl) (nI_pos (by omega)) (nI_clamp (by omega)) (by show N' * componentBytes .boolean ≤ _; have : componentBytes .boolean = 1 := rfl; rw [this]; omega) hkc hks hdec (fun a cA H1 hK1 hP1 hD1 hS1 => ?_)
  have hcA : cA = C.2.1 := by
    have h1 := va_nm_boolean (hK1.2 3 _ rfl).2
    have h2 := va_nm_boolean (hK.2 1 _ rfl).2
    exact Option.some.inj (h1.symm.trans h2)
  subst hcA
  obtain ⟨q', hag, hself, hP2, hD2⟩ := z_push (x := .inl (1, N', fun _ => 0)) hB hcW (fun q' _ => rfl) hP1 hD1
  have h := kk q' (zag_tr hq hag hn0) H1 locs ls hP2 hD2 hS1 (zh_ag hag hcL hl)
  have e1 : (Value.ref ws.length :: st).map (zv q') = Value.ref a :: st.map (zv q) := by
    rw [List.map_cons, zst_ag hag hcS]
    show Value.ref (q' ws.length) :: _ = _
    rw [hself]
  rw [e1] at h
  exact h
theorem zZ_newq (F : zFx p s m args meth c cc nL ret own D C) (N : zNs s) (hAf : ∀ x, s.heap.size ≤ x → A x) (hO : zokC cc tab = true) {N' : Nat} (hd : zfd tab pc = some (.anewarray idx)) (hw : Jvm.Cond.classLink own idx RX2 ∈ zG) (hN : N' < 100000) (hn0 : n0 ≤ ws.length) (hB : ws.length < zBIG) (hcW : zcW ws) (hcL : zcL ws.length lv) (hcS : zcS ws.length st) (hkc : kc + 1 ≤ R.cells) (hks : ks + N' ≤ R.slots)
    (kk : zZ p l e R s m args below meth c D C A nL Qc n0 q0 (kc + 1) (ks + N') (pc + 3) (ws ++ [.inr (.inl (N', fun _ => none))]) lv (.ref ws.length :: st)) : zZ p l e R s m args below meth c D C A nL Qc n0 q0 kc ks pc ws lv (.int (nI N') :: st) := fun q hq => by
  obtain ⟨hx, hb, hml, hr, ho, hts, hK, hlocks⟩ := F
  obtain ⟨⟨l0, hdec, hl0⟩, -⟩ := zokC_at hO hd
  obtain rfl : l0 = 3 := hl0.resolve_left (by simp [zisw])
  intro H locs ls hP hD hS hl
  refine va_newq (N' := N') hx hb ho (hts _ hw) N.2.2 hK hP hD hS hAf (nI_pos (by omega)) (nI_clamp (by omega)) (by omega) hkc hks hdec (fun a cA H1 hK1 hP1 hD1 hS1 => ?_)
  have hcA : cA = C.2.2 := by
    have h1 := va_nmO (hK1.2 3 _ rfl).2 rfl
    have h2 := va_nmO (hK.2 2 _ rfl).2 rfl
    exact Option.some.inj (h1.symm.trans h2)
  subst hcA
  obtain ⟨q', hag, hself, hP2, hD2⟩ := z_push (x := .inr (.inl (N', fun _ => none))) hB hcW (fun q' _ => rfl) hP1 hD1
  have h := kk q' (zag_tr hq hag hn0) H1 locs ls hP2 hD2 hS1 (zh_ag hag hcL hl)
  have e1 : (Value.ref ws.length :: st).map (zv q') = Value.ref a :: st.map (zv q) := by
    rw [List.map_cons, zst_ag hag hcS]
    show Value.ref (q' ws.length) :: _ = _
    rw [hself]
  rw [e1] at h
  exact h
/-- what fits a field -/
def zft (ty : FieldType) (v : Value) : Prop := ∀ q, narrow ty (zv q v) = zv q v ∧ fits ty (zv q v) = true
theorem zAt_putF {Q : State → Prop} (F : zFx p s m args meth c cc nL ret own D C) (hname : meth.name = "<init>") (hO : zokC cc tab = true) {ci j a : Nat} {r : vw_C} {fs : List Value} {v : Value} {ty : FieldType} {rest : List Value} (hd : zfd tab pc = some (.putfield idx)) (ha : ws[a]? = some (.inr (.inr (ci, fs)))) (hcl : vwCl[ci]? = some r) (hj : j < r.2.2) (hlk : Jvm.Cond.fieldLink own idx (r.2.1 j).1 (r.2.1 j).2.1 (r.2.1 j).2.2.1 ∈ zG) (hfin : (r.2.1 j).2.2.2 = true) (hdecl : (r.2.1 j).1 = own) (hty : parseFieldDescriptor (r.2.1 j).2.2.1 = some ty) (hv : zft ty v) (hl : j < fs.length)
    (kk : zAt p l e R s m args below meth c D C A nL Q kc ks q (pc + 3) (ws.set a (.inr (.inr (ci, fs.set j v)))) lv rest) : zAt p l e R s m args below meth c D C A nL Q kc ks q pc ws lv (v :: .ref a :: rest) := by
  obtain ⟨hx, hb, hml, hr, ho, hts, hK, hlocks⟩ := F
  obtain ⟨⟨l0, hdec, hl0⟩, -⟩ := zokC_at hO hd
  obtain rfl : l0 = 3 := hl0.resolve_left (by simp [zisw])
  obtain ⟨hin, ty0, hty0, hnm⟩ := zcls ci r hcl
  intro H locs ls hP hD hS hll
  refine va_putF (C := r.1) (T := r.2.1) (N := r.2.2) (ref := (r.2.1 j).1) (ci := ci) (fs := fs.map (zv q)) (v := zv q v) (ty := ty) hx hb hts hin ty0 hty0 hnm ho hK hP hD hS a (zw_of ha) hcl j hj (hts _ hlk) (fun _ h => h) hfin hname hdecl hty (hv q).1 (hv q).2 (by rw [List.length_map]; exact hl) hdec (fun H1 locs1 hP1 hD1 hS1 => ?_)
  have e4 : (zw C q ws).set a (q a, Sum.inr (ci, (fs.map (zv q)).set j (zv q v))) = zw C q (ws.set a (.inr (.inr (ci, fs.set j v)))) := by
    rw [zw_set]
    congr 1
    show _ = (q a, Sum.inr (ci, (fs.set j v).map (zv q)))
    rw [List.map_set]
  exact kk H1 locs1 ls (e4 ▸ hP1) (e4 ▸ hD1) hS1 hll
theorem zAt_obj {Q : State → Prop} (F : zFx p s m args meth c cc nL ret own D C) (hO : zokC cc tab = true) {a : Nat} (hd : zfd tab pc = some (.invokespecial idx)) (hlk : Jvm.Cond.methodLink own idx Lib.objectInit ∈ zG) (hin : Jvm.Cond.instanceMethod Lib.objectInit ∈ zG) (hco : Jvm.Cond.code Lib.objectInit ⟨#[0xb1]⟩ 1 none ∈ zG) (hf : 1 ≤ R.frames ∧ 40 ≤ R.locals)
    (kk : zAt p l e R s m args below meth c D C A nL Q kc ks q (pc + 3) ws lv []) : zAt p l e R s m args below meth c D C A nL Q kc ks q pc ws lv [.ref a] := by
  obtain ⟨hx, hb, hml, hr, ho, hts, hK, hlocks⟩ := F
  obtain ⟨⟨l0, hdec, hl0⟩, -⟩ := zokC_at hO hd
  obtain rfl : l0 = 3 := hl0.resolve_left (by simp [zisw])
  intro H locs ls hP hD hS hll
  exact W.objInit hx hb ho (hts _ hlk) (hts _ hin) (hts _ hco) rfl (hll.2.1.trans hml.symm) rfl hdec hf.1 (by
    show 2 * 0 + 0 + 12 ≤ R.locals
    have := hf.2
    omega) (kk H locs ls hP hD hS hll)
/-- a constructor that makes no cell -/
theorem zZ_initS (F : zFx p s m args meth c cc nL ret own D C) (N : zNs s) (hAf : ∀ x, s.heap.size ≤ x → A x) (hO : zokC cc tab = true) (hM : zFun l D C y cc' nL' none rm' (.ref b0 :: As) wc Po) (hW : zCI own idx y cc' nL' n)
    (hsb : zsb σ ws wc)
    (kk : ∀ (w : zS) (rv : Option Value), w.length = wc.length → Po w rv → ∃ ws', zpl σ ws wc.length w ws' ∧ zZ p l e R s m args below meth c D C A nL Qc n0 q0 (kc + rm'.cells) (ks + rm'.slots) (pc + 3) ws' lv ((rv.map (zv σ)).toList ++ rest))
    (hd : zfd tab pc = some (.invokespecial idx)) (hst : st = (As.map (zv σ)).reverse ++ .ref (σ b0) :: rest) (hn : As.length = n) (hrest : (rest.map fun v => v.category).sum ≤ 8)
    (hR : rm'.frames + 1 ≤ R.frames ∧ 8 + (nL' + 11) + rm'.locals ≤ R.locals) (hf : kc + rm'.cells ≤ R.cells ∧ ks + rm'.slots ≤ R.slots) :
    zZ p l e R s m args below meth c D C A nL Qc n0 q0 kc ks pc ws lv st := fun q hq => by
  obtain ⟨hx, hb, hml, hr, ho, hts, hK, hlocks⟩ := F
  obtain ⟨⟨w1, w2, w3, w5⟩, hnm, hd1, hd2, hd3⟩ := hW
  obtain ⟨⟨l0, hdec, hl0⟩, -⟩ := zokC_at hO hd
  obtain rfl : l0 = 3 := hl0.resolve_left (by simp [zisw])
  refine zcall_go (a := (Value.ref (q (σ b0)) :: As.map (zv (fun i => q (σ i)))).toArray) hsb hAf (fun H locs ls hP hD hl => ?_) (fun w rv h1 h2 => by
    obtain ⟨ws', h3, h4⟩ := kk w rv h1 h2
    exact ⟨ws', h3, h4 q hq⟩)
  have hP' : va_P D vwCl (zw C (fun i => q (σ i)) wc) H := fun k x hx => hP _ x (zcell_sub hsb hx)
  have hD' := zsub_D (C := C) hsb hD
  have hg : GoodIn zG (.code y cc' nL' none :: zG) := zgood (us := []) (fun w hw => absurd hw List.not_mem_nil) w5
  exact va_runI (b := q (σ b0)) (As := As.map (zv (fun i => q (σ i)))) (Ts := zG) ⟨hx, hb, hml, ho, hts⟩ (hM (fun i => q (σ i)) H.size) (cwI n hts hg rfl rfl rfl (hts _ w3) (hts _ w1) (hts _ w2) hnm ⟨hd1, hd2, hd3⟩ hR) ⟨zpre_blind, fun U hU hWU => ⟨rfl, by rw [hU], by rw [hU]; exact hP', ⟨va_K.moved hWU.alike hK, zns_warm hWU N⟩, hD'⟩⟩ rfl (by rw [List.length_map]; exact hn) hl.2.1 (zst_eq hst) (lv_room (zrest_eq hrest)) hdec hf
theorem zZ_putF (F : zFx p s m args meth c cc nL ret own D C) (hname : meth.name = "<init>") (hO : zokC cc tab = true) {ci j a : Nat} {r : vw_C} {fs : List Value} {v : Value} {ty : FieldType} {rest : List Value} (hd : zfd tab pc = some (.putfield idx)) (ha : ws[a]? = some (.inr (.inr (ci, fs)))) (hcl : vwCl[ci]? = some r) (hj : j < r.2.2) (hlk : Jvm.Cond.fieldLink own idx (r.2.1 j).1 (r.2.1 j).2.1 (r.2.1 j).2.2.1 ∈ zG) (hfin : (r.2.1 j).2.2.2 = true) (hdecl : (r.2.1 j).1 = own) (hty : parseFieldDescriptor (r.2.1 j).2.2.1 = some ty) (hv : zft ty v) (hl : j < fs.length)
    (kk : zZ p l e R s m args below meth c D C A nL Qc n0 q0 kc ks (pc + 3) (ws.set a (.inr (.inr (ci, fs.set j v)))) lv rest) : zZ p l e R s m args below meth c D C A nL Qc n0 q0 kc ks pc ws lv (v :: .ref a :: rest) := fun q hq => by
  obtain ⟨hx, hb, hml, hr, ho, hts, hK, hlocks⟩ := F
  obtain ⟨⟨l0, hdec, hl0⟩, -⟩ := zokC_at hO hd
  obtain rfl : l0 = 3 := hl0.resolve_left (by simp [zisw])
  obtain ⟨hin, ty0, hty0, hnm⟩ := zcls ci r hcl
  intro H locs ls hP hD hS hll
  refine va_putF (C := r.1) (T := r.2.1) (N := r.2.2) (ref := (r.2.1 j).1) (ci := ci) (fs := fs.map (zv q)) (v := zv q v) (ty := ty) hx hb hts hin ty0 hty0 hnm ho hK hP hD hS a (zw_of ha) hcl j hj (hts _ hlk) (fun _ h => h) hfin hname hdecl hty (hv q).1 (hv q).2 (by rw [List.length_map]; exact hl) hdec (fun H1 locs1 hP1 hD1 hS1 => ?_)
  have e4 : (zw C q ws).set a (q a, Sum.inr (ci, (fs.map (zv q)).set j (zv q v))) = zw C q (ws.set a (.inr (.inr (ci, fs.set j v)))) := by
    rw [zw_set]
    congr 1
    show _ = (q a, Sum.inr (ci, (fs.set j v).map (zv q)))
    rw [List.map_set]
  exact kk q hq H1 locs1 ls (e4 ▸ hP1) (e4 ▸ hD1) hS1 hll
theorem zZ_obj (F : zFx p s m args meth c cc nL ret own D C) (hO : zokC cc tab = true) {a : Nat} (hd : zfd tab pc = some (.invokespecial idx)) (hlk : Jvm.Cond.methodLink own idx Lib.objectInit ∈ zG) (hin : Jvm.Cond.instanceMethod Lib.objectInit ∈ zG) (hco : Jvm.Cond.code Lib.objectInit ⟨#[0xb1]⟩ 1 none ∈ zG) (hf : 1 ≤ R.frames ∧ 40 ≤ R.locals)
    (kk : zZ p l e R s m args below meth c D C A nL Qc n0 q0 kc ks (pc + 3) ws lv []) : zZ p l e R s m args below meth c D C A nL Qc n0 q0 kc ks pc ws lv [.ref a] := fun q hq => by
  obtain ⟨hx, hb, hml, hr, ho, hts, hK, hlocks⟩ := F
  obtain ⟨⟨l0, hdec, hl0⟩, -⟩ := zokC_at hO hd
  obtain rfl : l0 = 3 := hl0.resolve_left (by simp [zisw])
  intro H locs ls hP hD hS hll
  exact W.objInit hx hb ho (hts _ hlk) (hts _ hin) (hts _ hco) rfl (hll.2.1.trans hml.symm) rfl hdec hf.1 (by
    show 2 * 0 + 0 + 12 ≤ R.locals
    have := hf.2
    omega) (kk q hq H locs ls hP hD hS hll)
end ZY

/-- what may be used of the machine in the proof of a method that makes cells: Z kc ks is 'the method comes to its end well from here, kc cells and ks slots made' -/
def zOpA (l : Launch) (D : va_G) (C : zC) (own : String) (tab : List (Nat × Instr)) (fl : Nat → Option (Nat × Nat × Nat)) (ki : Nat → Option Int32) (kj : Nat → Option Int64) (d RC RS n0 : Nat) (Kr : zS → Option Value → Prop) (Z : Nat → Nat → zP) : Prop :=
  (∀ (kc ks n : Nat) (stops : List Nat) (pc : Nat) (ws : zS) (lv : zL) (st : List Value), kc ≤ RC → ks ≤ RS → zgo tab fl ki kj stops (Z kc ks) Kr n pc ws lv st → Z kc ks pc ws lv st) ∧
  (∀ (kc ks : Nat) (y : MethodName) (cc' : ByteArray) (nL' n idx pc : Nat) (ret' : Option FieldType) (d' : Nat) (σ : Nat → Nat) (wc ws : zS) (lv : zL) (Po : zS → Option Value → Prop) (As st rest : List Value) (b0 : Nat), zCV own idx y cc' nL' ret' n → zFun l D C y cc' nL' ret' (zR d') (.ref b0 :: As) wc Po → zsb σ ws wc →
    (∃ (ci : Nat) (fs : List Value) (r : vw_C), wc[b0]? = some (.inr (.inr (ci, fs))) ∧ vwCl[ci]? = some r ∧ r.1 = y.cls) → zfd tab pc = some (.invokevirtual idx) → st = (As.map (zv σ)).reverse ++ .ref (σ b0) :: rest → As.length = n → (rest.map fun v => v.category).sum ≤ 8 → d' < d → nL' ≤ 21 → kc ≤ RC → ks ≤ RS →
    (∀ (w : zS) (rv : Option Value), w.length = wc.length → Po w rv → ∃ ws', zpl σ ws wc.length w ws' ∧ Z kc ks (pc + 3) ws' lv ((rv.map (zv σ)).toList ++ rest)) → Z kc ks pc ws lv st) ∧
  (∀ (kc ks : Nat) (y : MethodName) (cc' : ByteArray) (nL' n idx pc : Nat) (ret' : Option FieldType) (d' : Nat) (σ : Nat → Nat) (wc ws : zS) (lv : zL) (Po : zS → Option Value → Prop) (As st rest : List Value), zCS own idx y cc' nL' ret' n → zFun l D C y cc' nL' ret' (zR d') As wc Po → zsb σ ws wc →
    zfd tab pc = some (.invokestatic idx) → st = (As.map (zv σ)).reverse ++ rest → As.length = n → (rest.map fun v => v.category).sum ≤ 8 → d' < d → nL' ≤ 21 → kc ≤ RC → ks ≤ RS →
    (∀ (w : zS) (rv : Option Value), w.length = wc.length → Po w rv → ∃ ws', zpl σ ws wc.length w ws' ∧ Z kc ks (pc + 3) ws' lv ((rv.map (zv σ)).toList ++ rest)) → Z kc ks pc ws lv st) ∧
  (∀ (kc ks mc ms : Nat) (y : MethodName) (cc' : ByteArray) (nL' n idx pc : Nat) (ret' : Option FieldType) (d' : Nat) (σ : Nat → Nat) (wc ws : zS) (lv : zL) (Po : zS → Option Value → Prop) (As st rest : List Value) (b0 : Nat), zCV own idx y cc' nL' ret' n → zFunB l D C y cc' nL' ret' (zRA d' mc ms) (.ref b0 :: As) wc Po → zsb σ ws wc → (∀ k, k < wc.length → σ k < ws.length) → (∀ i, zfo i → σ i = i) → wc.length ≤ ws.length →
    (∃ (ci : Nat) (fs : List Value) (r : vw_C), wc[b0]? = some (.inr (.inr (ci, fs))) ∧ vwCl[ci]? = some r ∧ r.1 = y.cls) → n0 ≤ ws.length → zcW ws → zcL ws.length lv → zcS ws.length rest → zfd tab pc = some (.invokevirtual idx) → st = (As.map (zv σ)).reverse ++ .ref (σ b0) :: rest → As.length = n → (rest.map fun v => v.category).sum ≤ 8 → d' < d → nL' ≤ 21 → kc + mc ≤ RC → ks + ms ≤ RS →
    (∀ (w : zS) (rv : Option Value), wc.length ≤ w.length → Po w rv → ∃ ws', zplA σ ws wc.length w ws' ∧ ws'.length ≤ zBIG ∧ Z (kc + mc) (ks + ms) (pc + 3) ws' lv ((rv.map (zv (zsg σ wc.length ws.length))).toList ++ rest)) → Z kc ks pc ws lv st) ∧
  (∀ (kc ks mc ms : Nat) (y : MethodName) (cc' : ByteArray) (nL' n idx pc : Nat) (d' : Nat) (σ : Nat → Nat) (wc ws : zS) (lv : zL) (Po : zS → Option Value → Prop) (As st rest : List Value) (b0 : Nat), zCI own idx y cc' nL' n → zFunB l D C y cc' nL' none (zRA d' mc ms) (.ref b0 :: As) wc Po → zsb σ ws wc → (∀ k, k < wc.length → σ k < ws.length) → (∀ i, zfo i → σ i = i) → wc.length ≤ ws.length →
    n0 ≤ ws.length → zcW ws → zcL ws.length lv → zcS ws.length rest → zfd tab pc = some (.invokespecial idx) → st = (As.map (zv σ)).reverse ++ .ref (σ b0) :: rest → As.length = n → (rest.map fun v => v.category).sum ≤ 8 → d' < d → nL' ≤ 21 → kc + mc ≤ RC → ks + ms ≤ RS →
    (∀ (w : zS) (rv : Option Value), wc.length ≤ w.length → Po w rv → ∃ ws', zplA σ ws wc.length w ws' ∧ ws'.length ≤ zBIG ∧ Z (kc + mc) (ks + ms) (pc + 3) ws' lv ((rv.map (zv (zsg σ wc.length ws.length))).toList ++ rest)) → Z kc ks pc ws lv st) ∧
  (∀ (kc ks : Nat) (idx pc ci : Nat) (r : vw_C) (fs : List Value) (ws : zS) (lv : zL) (st : List Value), zfd tab pc = some (.new idx) → zNw own idx ci r fs → n0 ≤ ws.length → ws.length < zBIG → zcW ws → zcL ws.length lv → zcS ws.length st → kc + 1 ≤ RC → ks + r.2.2 ≤ RS →
    Z (kc + 1) (ks + r.2.2) (pc + 3) (ws ++ [.inr (.inr (ci, fs))]) lv (.ref ws.length :: st) → Z kc ks pc ws lv st) ∧
  (∀ (kc ks : Nat) (y : MethodName) (cc' : ByteArray) (nL' n idx pc : Nat) (d' : Nat) (σ : Nat → Nat) (wc ws : zS) (lv : zL) (Po : zS → Option Value → Prop) (As st rest : List Value) (b0 : Nat), zCI own idx y cc' nL' n → zFun l D C y cc' nL' none (zR d') (.ref b0 :: As) wc Po → zsb σ ws wc →
    zfd tab pc = some (.invokespecial idx) → st = (As.map (zv σ)).reverse ++ .ref (σ b0) :: rest → As.length = n → (rest.map fun v => v.category).sum ≤ 8 → d' < d → nL' ≤ 21 → kc ≤ RC → ks ≤ RS →
    (∀ (w : zS) (rv : Option Value), w.length = wc.length → Po w rv → ∃ ws', zpl σ ws wc.length w ws' ∧ Z kc ks (pc + 3) ws' lv ((rv.map (zv σ)).toList ++ rest)) → Z kc ks pc ws lv st)
section ZOA
variable {p : Program} {l : Launch} {e : Env} {s : State} {m : MethodId} {args : Array Value} {below : List Frame} {meth : Method} {c : Code}
variable {cc : ByteArray} {nL : Nat} {ret : Option FieldType} {own : String} {D : va_G} {C : zC} {A : Nat → Prop} {Qc : Array Value → State → Outcome → State → Prop} {n0 d RC RS : Nat} {q0 : Nat → Nat} {tab : List (Nat × Instr)}
theorem zopA_of (F : zFx p s m args meth c cc nL ret own D C) (N : zNs s) (hAf : ∀ x, s.heap.size ≤ x → A x) (hO : zokC cc tab = true) {fl : Nat → Option (Nat × Nat × Nat)} {ki : Nat → Option Int32} {kj : Nat → Option Int64} (hT : zTb own fl ki kj) {Kr : zS → Option Value → Prop} (hR : ∀ q ws rv, zag n0 q0 q → Kr ws rv → zRe s args D C A q ret Qc ws rv) :
    zOpA l D C own tab fl ki kj d RC RS n0 Kr (zZ p l e (zRA d RC RS) s m args below meth c D C A nL Qc n0 q0) :=
  ⟨fun kc ks n stops pc ws lv st h1 h2 h => zZ_run F hO hT hR n stops h1 h2 h,
   fun kc ks y cc' nL' n idx pc ret' d' σ wc ws lv Po As st rest b0 hW hM hsb hrc hd hst hn hrest hdd hL h1 h2 kk => zZ_callV (rm' := zR d') (rest := rest) F N hAf hO hM hW hsb hrc kk hd hst hn hrest (zRA_le (c := 0) (s := 0) hdd hL) ⟨h1, h2⟩,
   fun kc ks y cc' nL' n idx pc ret' d' σ wc ws lv Po As st rest hW hM hsb hd hst hn hrest hdd hL h1 h2 kk => zZ_callS (rm' := zR d') (rest := rest) F N hAf hO hM hW hsb kk hd hst hn hrest (zRA_le (c := 0) (s := 0) hdd hL) ⟨h1, h2⟩,
   fun kc ks mc ms y cc' nL' n idx pc ret' d' σ wc ws lv Po As st rest b0 hW hM hsb hσ hσB hwB hrc hn0 hcW hcL hcS hd hst hn hrest hdd hL h1 h2 kk => zZ_callA (rm' := zRA d' mc ms) (rest := rest) F N hAf hO hM hW hsb hσ hσB hwB hrc hn0 hcW hcL hcS kk hd hst hn hrest (zRA_le hdd hL) ⟨h1, h2⟩,
   fun kc ks mc ms y cc' nL' n idx pc d' σ wc ws lv Po As st rest b0 hW hM hsb hσ hσB hwB hn0 hcW hcL hcS hd hst hn hrest hdd hL h1 h2 kk => zZ_init (rm' := zRA d' mc ms) (rest := rest) F N hAf hO hM hW hsb hσ hσB hwB hn0 hcW hcL hcS kk hd hst hn hrest (zRA_le hdd hL) ⟨h1, h2⟩,
   fun kc ks idx pc ci r fs ws lv st hd hw hn0 hB hcW hcL hcS h1 h2 kk => zZ_new F hAf hO hd hw hn0 hB hcW hcL hcS h1 h2 kk,
   fun kc ks y cc' nL' n idx pc d' σ wc ws lv Po As st rest b0 hW hM hsb hd hst hn hrest hdd hL h1 h2 kk => zZ_initS (rm' := zR d') (rest := rest) F N hAf hO hM hW hsb kk hd hst hn hrest (zRA_le (c := 0) (s := 0) hdd hL) ⟨h1, h2⟩⟩
end ZOA
theorem zFunB_of {l : Launch} {D : va_G} {C : zC} {y : MethodName} {cc : ByteArray} {nL d RC RS : Nat} {ret : Option FieldType} {av : List Value} {wc : zS} {Po : zS → Option Value → Prop} {tab : List (Nat × Instr)} {fl : Nat → Option (Nat × Nat × Nat)} {ki : Nat → Option Int32} {kj : Nat → Option Int64} (hy : plainName y.cls = true) (hO : zokC cc tab = true) (hT : zTb y.cls fl ki kj) (hlen : (zen av).length ≤ nL)
    (body : ∀ Z : Nat → Nat → zP, zOpA l D C y.cls tab fl ki kj d RC RS wc.length (fun ws rv => zRt ret rv ∧ wc.length ≤ ws.length ∧ Po ws rv) Z → Z 0 0 0 wc (zel nL av) []) : zFunB l D C y cc nL ret (zRA d RC RS) av wc Po :=
  zMet_of hy hlen (fun p e s m args below meth c q A F N _ hA => body _ (zopA_of F N hA hO hT (fun q' ws rv hq h => ⟨h.1, fun H locs t hP hD hS ht hW => ⟨⟨q', ws, rv, ⟨fun i hi => hq i (Or.inl hi), fun i hi => hq i (Or.inr hi), h.2.1, h.2.2⟩, rfl, by rw [ht]; exact hP, hD⟩, hS.F ht⟩⟩)) q (fun _ _ => rfl))
