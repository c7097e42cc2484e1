/-! constructors -/
def zcVb (n : Nat) : Value → Bool
  | .ref r => Nat.blt r n || Nat.beq r zBIG
  | _ => true
def zcEb (n : Nat) : zE → Bool
  | .inl _ => true
  | .inr (.inl (k, f)) => (List.range k).all (fun j => match f j with
    | some r => Nat.blt r n || Nat.beq r zBIG
    | none => true)
  | .inr (.inr (_, fs)) => fs.all (zcVb n)
theorem zb_or {n r : Nat} (h : (Nat.blt r n || Nat.beq r zBIG) = true) : r < n ∨ zfo r := by
  rw [Bool.or_eq_true] at h
  rcases h with h | h
  · exact Or.inl (Nat.le_of_ble_eq_true h)
  · exact Or.inr (by rw [Nat.eq_of_beq_eq_true h]; exact zfo_B)
theorem zcV_of {n : Nat} {v : Value} (h : zcVb n v = true) : zcV n v := fun r e => by
  subst e
  exact zb_or h
theorem zcE_of {n : Nat} {x : zE} (h : zcEb n x = true) : zcE n x := by
  match x, h with
  | .inl _, _ => exact trivial
  | .inr (.inl (k, f)), h =>
    intro j hj r hr
    have := List.all_eq_true.mp h j (List.mem_range.mpr hj)
    rw [hr] at this
    exact zb_or this
  | .inr (.inr (_, fs)), h => exact fun v hv => zcV_of (List.all_eq_true.mp h v hv)
theorem zcW_of {ws : zS} (h : ws.all (zcEb ws.length) = true) : zcW ws := fun x hx => zcE_of (List.all_eq_true.mp h x hx)
theorem zcS_of {n : Nat} {st : List Value} (h : st.all (zcVb n) = true) : zcS n st := fun v hv => zcV_of (List.all_eq_true.mp h v hv)
def zcLb (n : Nat) : zL → Bool
  | [] => true
  | none :: r => zcLb n r
  | some v :: r => zcVb n v && zcLb n r
theorem zcL_of {n : Nat} : ∀ {lv : zL}, zcLb n lv = true → zcL n lv
  | [], _ => fun v hv => absurd hv (by simp)
  | none :: r, h => fun v hv => by
    rcases List.mem_cons.mp hv with h1 | h1
    · cases h1
    · exact zcL_of (lv := r) h v h1
  | some w :: r, h => fun v hv => by
    have h : (zcVb n w && zcLb n r) = true := h
    rw [Bool.and_eq_true] at h
    rcases List.mem_cons.mp hv with h1 | h1
    · cases h1; exact zcV_of h.1
    · exact zcL_of (lv := r) h.2 v h1
/-- the words of a final field's writing -/
def zPw (own : String) (idx ci j : Nat) (r : vw_C) (ty : FieldType) : Prop := vwCl[ci]? = some r ∧ j < r.2.2 ∧ Jvm.Cond.fieldLink own idx (r.2.1 j).1 (r.2.1 j).2.1 (r.2.1 j).2.2.1 ∈ zG ∧ (r.2.1 j).2.2.2 = true ∧ (r.2.1 j).1 = own ∧ parseFieldDescriptor (r.2.1 j).2.2.1 = some ty
theorem zPw_of {own : String} {fl : Nat → Option (Nat × Nat × Nat)} {ki : Nat → Option Int32} {kj : Nat → Option Int64} {idx ci j : Nat} {r : vw_C} {ty : FieldType} (hT : zTb own fl ki kj) (h : fl idx = some (ci, j, 2)) (hr : vwCl[ci]? = some r) (hf : (r.2.1 j).2.2.2 = true) (hd : (r.2.1 j).1 = own) (hp : parseFieldDescriptor (r.2.1 j).2.2.1 = some ty) : zPw own idx ci j r ty := by
  obtain ⟨r', h1, h2, h3, -⟩ := hT.1 idx ci j 2 h
  obtain rfl : r' = r := Option.some.inj (h1.symm.trans hr)
  exact ⟨hr, h2, h3, hf, hd, hp⟩
def zOpC (l : Launch) (D : va_G) (C : zC) (own : String) (tab : List (Nat × Instr)) (fl : Nat → Option (Nat × Nat × Nat)) (ki : Nat → Option Int32) (kj : Nat → Option Int64) (d RC RS n0 : Nat) (Kr : zS → Option Value → Prop) (Z : Nat → Nat → zP) : Prop :=
  (∀ (kc ks n : Nat) (stops : List Nat) (pc : Nat) (ws : zS) (lv : zL) (st : List Value), kc ≤ RC → ks ≤ RS → zgo tab fl ki kj stops (Z kc ks) Kr n pc ws lv st → Z kc ks pc ws lv st) ∧
  (∀ (kc ks idx pc a : Nat) (ws : zS) (lv : zL), zfd tab pc = some (.invokespecial idx) → Jvm.Cond.methodLink own idx Lib.objectInit ∈ zG → 0 < d → Z kc ks (pc + 3) ws lv [] → Z kc ks pc ws lv [.ref a]) ∧
  (∀ (kc ks idx pc ci j a : Nat) (r : vw_C) (fs : List Value) (v : Value) (ty : FieldType) (ws : zS) (lv : zL) (rest : List Value), zfd tab pc = some (.putfield idx) → zPw own idx ci j r ty → ws[a]? = some (.inr (.inr (ci, fs))) → zft ty v → j < fs.length → Z kc ks (pc + 3) (ws.set a (.inr (.inr (ci, fs.set j v)))) lv rest → Z kc ks pc ws lv (v :: .ref a :: rest)) ∧
  (∀ (kc ks pc N' : Nat) (ws : zS) (lv : zL) (st : List Value), zfd tab pc = some (.newarray .int) → N' < 100000 → n0 ≤ ws.length → ws.length < zBIG → zcW ws → zcL ws.length lv → zcS ws.length st → kc + 1 ≤ RC → ks + N' ≤ RS → Z (kc + 1) (ks + N') (pc + 2) (ws ++ [.inl (0, N', fun _ => 0)]) lv (.ref ws.length :: st) → Z kc ks pc ws lv (.int (nI N') :: st)) ∧
  (∀ (kc ks pc N' : Nat) (ws : zS) (lv : zL) (st : List Value), zfd tab pc = some (.newarray .boolean) → N' < 100000 → n0 ≤ ws.length → ws.length < zBIG → zcW ws → zcL ws.length lv → zcS ws.length st → kc + 1 ≤ RC → ks + N' ≤ RS → Z (kc + 1) (ks + N') (pc + 2) (ws ++ [.inl (1, N', fun _ => 0)]) lv (.ref ws.length :: st) → Z kc ks pc ws lv (.int (nI N') :: st)) ∧
  (∀ (kc ks pc idx N' : Nat) (ws : zS) (lv : zL) (st : List Value), zfd tab pc = some (.anewarray idx) → Jvm.Cond.classLink own idx RX2 ∈ zG → N' < 100000 → n0 ≤ ws.length → ws.length < zBIG → zcW ws → zcL ws.length lv → zcS ws.length st → kc + 1 ≤ RC → ks + N' ≤ RS → Z (kc + 1) (ks + N') (pc + 3) (ws ++ [.inr (.inl (N', fun _ => none))]) lv (.ref ws.length :: st) → Z kc ks pc ws lv (.int (nI N') :: st)) ∧
  (∀ (kc ks : Nat) (idx pc ci : Nat) (r : vw_C) (fs : List Value) (ws : zS) (lv : zL) (st : List Value), zfd tab pc = some (.new idx) → zNw own idx ci r fs → n0 ≤ ws.length → ws.length < zBIG → zcW ws → zcL ws.length lv → zcS ws.length st → kc + 1 ≤ RC → ks + r.2.2 ≤ RS →
    Z (kc + 1) (ks + r.2.2) (pc + 3) (ws ++ [.inr (.inr (ci, fs))]) lv (.ref ws.length :: st) → Z kc ks pc ws lv st)
def zOpN (l : Launch) (D : va_G) (C : zC) (tab : List (Nat × Instr)) (d RC RS n0 : Nat) (Z : Nat → Nat → zP) : Prop :=
  ∀ (kc ks mc ms : Nat) (y : MethodName) (cc' : ByteArray) (nL' n idx pc : Nat) (d' : Nat) (σ : Nat → Nat) (wc ws : zS) (lv : zL) (Po : zS → Option Value → Prop) (As st rest : List Value) (b0 : Nat), ((idx = 9 ∧ y = yX0_init) ∨ (idx = 31 ∧ y = yX1_init)) → (Jvm.Cond.instanceMethod y ∈ zG ∧ Jvm.Cond.initialized y.cls ∈ zG ∧ Jvm.Cond.code y cc' nL' none ∈ zG) → (parseMethodDescriptor y.desc).map (fun d => d.parameters.length) = some n → zFunB l D C y cc' nL' none (zRA d' mc ms) (.ref b0 :: As) wc Po → zsb σ ws wc → (∀ k, k < wc.length → σ k < ws.length) → (∀ i, zfo i → σ i = i) → wc.length ≤ ws.length →
    n0 ≤ ws.length → zcW ws → zcL ws.length lv → zcS ws.length rest → zfd tab pc = some (.invokespecial idx) → st = (As.map (zv σ)).reverse ++ .ref (σ b0) :: rest → As.length = n → (rest.map fun v => v.category).sum ≤ 8 → d' < d → nL' ≤ 21 → kc + mc ≤ RC → ks + ms ≤ RS →
    (∀ (w : zS) (rv : Option Value), wc.length ≤ w.length → Po w rv → ∃ ws', zplA σ ws wc.length w ws' ∧ ws'.length ≤ zBIG ∧ Z (kc + mc) (ks + ms) (pc + 3) ws' lv ((rv.map (zv (zsg σ wc.length ws.length))).toList ++ rest)) → Z kc ks pc ws lv st
theorem zobj : Jvm.Cond.instanceMethod Lib.objectInit ∈ zG ∧ Jvm.Cond.code Lib.objectInit ⟨#[0xb1]⟩ 1 none ∈ zG := ⟨zin_mem (h := 68) (by decide +kernel), zin_mem (h := 69) (by decide +kernel)⟩
theorem zarr : Jvm.Cond.arrayClass .int ∈ zG ∧ Jvm.Cond.arrayClass .boolean ∈ zG := ⟨zin_mem (h := 149) (by decide +kernel), zin_mem (h := 696) (by decide +kernel)⟩
theorem zFunC_of {l : Launch} {D : va_G} {C : zC} {y : MethodName} {cc : ByteArray} {nL d RC RS : Nat} {ret : Option FieldType} {av : List Value} {wc : zS} {Po : zS → Option Value → Prop} {tab : List (Nat × Instr)} {fl : Nat → Option (Nat × Nat × Nat)} {ki : Nat → Option Int32} {kj : Nat → Option Int64} (hy : plainName y.cls = true) (hnm : y.name = "<init>") (hO : zokC cc tab = true) (hT : zTb y.cls fl ki kj) (hlen : (zen av).length ≤ nL)
    (body : ∀ Z : Nat → Nat → zP, zOpC l D C y.cls tab fl ki kj d RC RS wc.length (fun ws rv => zRt ret rv ∧ wc.length ≤ ws.length ∧ Po ws rv) Z → (y.cls = RX3 → zOpN l D C tab d RC RS wc.length Z) → Z 0 0 0 wc (zel nL av) []) : zFunB l D C y cc nL ret (zRA d RC RS) av wc Po :=
  zMet_of hy hlen (fun p e s m args below meth c q A F N hname hA => body (zZ p l e (zRA d RC RS) s m args below meth c D C A nL (zQ D C A (zPh wc.length Po q)) wc.length q)
    ⟨fun kc ks n stops pc ws lv st h1 h2 h => zZ_run F hO hT (fun q' ws rv hq h => ⟨h.1, fun H locs t hP hD hS ht hW => ⟨⟨q', ws, rv, ⟨fun i hi => hq i (Or.inl hi), fun i hi => hq i (Or.inr hi), h.2.1, h.2.2⟩, rfl, by rw [ht]; exact hP, hD⟩, hS.F ht⟩⟩) n stops h1 h2 h,
     fun kc ks idx pc a ws lv hd hl h0 kk => zZ_obj F hO hd hl zobj.1 zobj.2 ⟨h0, by show 40 ≤ 40 * d; omega⟩ kk,
     fun kc ks idx pc ci j a r fs v ty ws lv rest hd hw ha hv hl kk => zZ_putF F (hname.trans hnm) hO hd ha hw.1 hw.2.1 hw.2.2.1 hw.2.2.2.1 hw.2.2.2.2.1 hw.2.2.2.2.2 hv hl kk,
     fun kc ks pc N' ws lv st hd hN hn0 hB hcW hcL hcS h1 h2 kk => zZ_newi F hA hO hd zarr.1 hN hn0 hB hcW hcL hcS h1 h2 rfl kk,
     fun kc ks pc N' ws lv st hd hN hn0 hB hcW hcL hcS h1 h2 kk => zZ_newb F hA hO hd zarr.2 hN hn0 hB hcW hcL hcS h1 h2 rfl kk,
     fun kc ks pc idx N' ws lv st hd hw hN hn0 hB hcW hcL hcS h1 h2 kk => zZ_newq F N hA hO hd hw hN hn0 hB hcW hcL hcS h1 h2 kk,
     fun kc ks idx pc ci r fs ws lv st hd hw hn0 hB hcW hcL hcS h1 h2 kk => zZ_new F hA hO hd hw hn0 hB hcW hcL hcS h1 h2 kk⟩
    (fun hx3 => fun kc ks mc ms y' cc' nL' n idx pc d' σ wc' ws lv Po' As st rest b0 hy' hW hdp hM hsb hσ hσB hwB hn0 hcW hcL hcS hd hst hn hrest hdd hL h1 h2 kk => zZ_initN (rm' := zRA d' mc ms) (rest := rest) (hx3 ▸ F) N hA hO hM ⟨by
      rcases hy' with ⟨rfl, rfl⟩ | ⟨rfl, rfl⟩
      · exact N.1
      · exact N.2.1, hW, by rcases hy' with ⟨rfl, rfl⟩ | ⟨rfl, rfl⟩ <;> rfl, by rcases hy' with ⟨rfl, rfl⟩ | ⟨rfl, rfl⟩ <;> decide, by rcases hy' with ⟨rfl, rfl⟩ | ⟨rfl, rfl⟩ <;> decide, hdp⟩ hsb hσ hσB hwB hn0 hcW hcL hcS kk hd hst hn hrest (zRA_le hdd hL) ⟨h1, h2⟩) q (fun _ _ => rfl))
/-- a constructor that makes no cell -/
def zOpQ (l : Launch) (D : va_G) (C : zC) (own : String) (tab : List (Nat × Instr)) (fl : Nat → Option (Nat × Nat × Nat)) (ki : Nat → Option Int32) (kj : Nat → Option Int64) (Kr : zS → Option Value → Prop) (Z : zP) : Prop :=
  (∀ (n : Nat) (stops : List Nat) (pc : Nat) (ws : zS) (lv : zL) (st : List Value), zgo tab fl ki kj stops Z Kr n pc ws lv st → Z pc ws lv st) ∧
  (∀ (idx pc a : Nat) (ws : zS) (lv : zL), zfd tab pc = some (.invokespecial idx) → Jvm.Cond.methodLink own idx Lib.objectInit ∈ zG → Z (pc + 3) ws lv [] → Z pc ws lv [.ref a]) ∧
  (∀ (idx pc ci j a : Nat) (r : vw_C) (fs : List Value) (v : Value) (ty : FieldType) (ws : zS) (lv : zL) (rest : List Value), zfd tab pc = some (.putfield idx) → zPw own idx ci j r ty → ws[a]? = some (.inr (.inr (ci, fs))) → zft ty v → j < fs.length → Z (pc + 3) (ws.set a (.inr (.inr (ci, fs.set j v)))) lv rest → Z pc ws lv (v :: .ref a :: rest))
theorem zFunQ_of {l : Launch} {D : va_G} {C : zC} {y : MethodName} {cc : ByteArray} {nL d : Nat} {ret : Option FieldType} {av : List Value} {wc : zS} {Po : zS → Option Value → Prop} {tab : List (Nat × Instr)} {fl : Nat → Option (Nat × Nat × Nat)} {ki : Nat → Option Int32} {kj : Nat → Option Int64} (hy : plainName y.cls = true) (hnm : y.name = "<init>") (hO : zokC cc tab = true) (hT : zTb y.cls fl ki kj) (hlen : (zen av).length ≤ nL)
    (body : ∀ Z : zP, zOpQ l D C y.cls tab fl ki kj (fun ws rv => zRt ret rv ∧ ws.length = wc.length ∧ Po ws rv) Z → Z 0 wc (zel nL av) []) : zFun l D C y cc nL ret (zR (d + 1)) av wc Po :=
  zMet_of hy hlen (fun p e s m args below meth c q A F N hname hA => body (zAt p l e (zR (d + 1)) s m args below meth c D C A nL (MQ below (zQ D C A (zPk wc.length Po q)) args s 0 0 A) 0 0 q)
    ⟨fun n stops pc ws lv st h => zrun F hO hT n stops h,
     fun idx pc a ws lv hd hl kk => zAt_obj F hO hd hl zobj.1 zobj.2 ⟨Nat.succ_pos d, by show 40 ≤ 40 * (d + 1); omega⟩ kk,
     fun idx pc ci j a r fs v ty ws lv rest hd hw ha hv hl kk => zAt_putF F (hname.trans hnm) hO hd ha hw.1 hw.2.1 hw.2.2.1 hw.2.2.2.1 hw.2.2.2.2.1 hw.2.2.2.2.2 hv hl kk⟩)
section CON
variable {l : Launch} {D : va_G} {C : zC}
theorem zft_rf (C0 : String) (o : Option Nat) : zft (.object C0) (va_rf o) := fun q => by cases o <;> exact ⟨rfl, rfl⟩
theorem zft_int (x : Int32) : zft .int (.int x) := fun _ => ⟨rfl, rfl⟩
theorem zft_ar (t : FieldType) (a : Nat) : zft (.array t) (.ref a) := fun _ => ⟨rfl, rfl⟩
theorem zft_ob (t : String) (a : Nat) : zft (.object t) (.ref a) := fun _ => ⟨rfl, rfl⟩
set_option maxRecDepth 10000 in
theorem c_rule_init {x n : Int32} {o1 o2 : Option Nat} (hx : zft .char (.int x)) : zFun l D C yX2_init cX2_init 5 none (zR 1) [.ref 0, .int x, .int n, va_rf o1, va_rf o2] [.inr (.inr (2, [.int 0, .int 0, .null, .null]))] (fun w rv => w = [.inr (.inr (2, [.int x, .int n, va_rf o1, va_rf o2]))] ∧ rv = none) := by
  refine zFunQ_of (by decide) rfl oX2_init tbX2 ?_ (fun Z o => ?_)
  · cases o1 <;> cases o2 <;> exact Nat.le_of_ble_eq_true rfl
  · have fin : ∀ (v1 v2 : Value), (v1 = va_rf o1) → (v2 = va_rf o2) → zft (.object RX2) v1 → zft (.object RX2) v2 → (∃ a, v1 = .ref a) ∨ v1 = .null → (∃ a, v2 = .ref a) ∨ v2 = .null → Z 0 [.inr (.inr (2, [.int 0, .int 0, .null, .null]))] [some (.ref 0), some (.int x), some (.int n), some v1, some v2] [] := by
      intro v1 v2 e1 e2 f1 f2 g1 g2
      refine o.1 100 [] 0 _ _ _ ?_
      show Z 1 _ _ [.ref 0]
      refine o.2.1 3 1 0 _ _ rfl (zin_mem (h := 280) (by decide +kernel)) ?_
      refine o.1 100 [6] 4 _ _ _ ?_
      show Z 6 _ _ [.int x, .ref 0]
      refine o.2.2 9 6 2 0 0 (RX2, TX2, 4) [.int 0, .int 0, .null, .null] _ .char _ _ _ rfl (zPw_of tbX2 (ci := 2) (j := 0) rfl rfl rfl rfl (by decide +kernel)) rfl hx (Nat.le_of_ble_eq_true rfl) ?_
      show Z 9 [.inr (.inr (2, [.int x, .int 0, .null, .null]))] _ []
      refine o.1 100 [11] 9 _ _ _ ?_
      show Z 11 _ _ [.int n, .ref 0]
      refine o.2.2 15 11 2 1 0 (RX2, TX2, 4) [.int x, .int 0, .null, .null] _ .int _ _ _ rfl (zPw_of tbX2 (ci := 2) (j := 1) rfl rfl rfl rfl (by decide +kernel)) rfl (zft_int n) (Nat.le_of_ble_eq_true rfl) ?_
      show Z 14 [.inr (.inr (2, [.int x, .int n, .null, .null]))] _ []
      have s1 : Z 16 [.inr (.inr (2, [.int x, .int n, .null, .null]))] [some (.ref 0), some (.int x), some (.int n), some v1, some v2] [v1, .ref 0] := by
        refine o.2.2 19 16 2 2 0 (RX2, TX2, 4) [.int x, .int n, .null, .null] _ (.object RX2) _ _ _ rfl (zPw_of tbX2 (ci := 2) (j := 2) rfl rfl rfl rfl (by decide +kernel)) rfl f1 (Nat.le_of_ble_eq_true rfl) ?_
        show Z 19 [.inr (.inr (2, [.int x, .int n, v1, .null]))] _ []
        have s2 : Z 22 [.inr (.inr (2, [.int x, .int n, v1, .null]))] [some (.ref 0), some (.int x), some (.int n), some v1, some v2] [v2, .ref 0] := by
          refine o.2.2 23 22 2 3 0 (RX2, TX2, 4) [.int x, .int n, v1, .null] _ (.object RX2) _ _ _ rfl (zPw_of tbX2 (ci := 2) (j := 3) rfl rfl rfl rfl (by decide +kernel)) rfl f2 (Nat.le_of_ble_eq_true rfl) ?_
          show Z 25 [.inr (.inr (2, [.int x, .int n, v1, v2]))] _ []
          exact o.1 100 [] 25 _ _ _ ⟨rfl, rfl, by rw [e1, e2], rfl⟩
        rcases g2 with ⟨a, rfl⟩ | rfl
        · exact o.1 100 [22] 19 _ _ _ s2
        · exact o.1 100 [22] 19 _ _ _ s2
      rcases g1 with ⟨a, rfl⟩ | rfl
      · exact o.1 100 [16] 14 _ _ _ s1
      · exact o.1 100 [16] 14 _ _ _ s1
    have h := fin (va_rf o1) (va_rf o2) rfl rfl (zft_rf _ _) (zft_rf _ _) (by cases o1 <;> simp [va_rf]) (by cases o2 <;> simp [va_rf])
    have e : zel 5 [.ref 0, .int x, .int n, va_rf o1, va_rf o2] = [some (.ref 0), some (.int x), some (.int n), some (va_rf o1), some (va_rf o2)] := by cases o1 <;> cases o2 <;> rfl
    rw [e]
    exact h
/-- a new island -/
def isl0 : zI := (fun k => if k = 1 then nI 1 else 0, fun _ _ => 0, fun _ => none)
set_option maxRecDepth 10000 in
theorem c_isl_init {RB : Nat} : zFunB l D C yX0_init cX0_init 1 none (zRA 1 11 120) [.ref 0] [.inr (.inr (0, [.int 0, .null, .int 0, .null, .int 0, .int 0, .null, .int 0, .null, .null, .null, .null, .int 0, .int 0, .int 0, .null, .null, .null, .null]))] (fun w rv => w = isl 0 RB isl0 ∧ rv = none) := by
  refine zFunC_of (by decide) rfl oX0_init tbX0 (Nat.le_of_ble_eq_true rfl) (fun Z o _ => ?_)
  refine o.1 0 0 100 [] 0 _ _ _ (Nat.zero_le _) (Nat.zero_le _) ?_
  show Z 0 0 1 _ _ [.ref 0]
  refine o.2.1 0 0 3 1 0 _ _ rfl (zin_mem (h := 75) (by decide +kernel)) (by omega) ?_
  refine o.1 0 0 100 [] 4 _ _ _ (Nat.le_of_ble_eq_true rfl) (Nat.le_of_ble_eq_true rfl) ?_
  show Z 0 0 7 _ _ [.int (nI 24), .ref 0]
  refine o.2.2.2.1 0 0 7 24 _ _ _ rfl (Nat.le_of_ble_eq_true rfl) (Nat.le_of_ble_eq_true rfl) (Nat.le_of_ble_eq_true rfl) (zcW_of rfl) (zcL_of rfl) (zcS_of rfl) (Nat.le_of_ble_eq_true rfl) (Nat.le_of_ble_eq_true rfl) ?_
  show Z 1 24 9 [.inr (.inr (0, [.int 0, .null, .int 0, .null, .int 0, .int 0, .null, .int 0, .null, .null, .null, .null, .int 0, .int 0, .int 0, .null, .null, .null, .null])), .inl (0, 24, fun _ => 0)] _ [.ref 1, .ref 0]
  refine o.2.2.1 1 24 9 9 0 1 0 (RX0, TX0, 19) [.int 0, .null, .int 0, .null, .int 0, .int 0, .null, .int 0, .null, .null, .null, .null, .int 0, .int 0, .int 0, .null, .null, .null, .null] _ (.array .int) _ _ _ rfl (zPw_of tbX0 (ci := 0) (j := 1) rfl rfl rfl rfl (by decide +kernel)) rfl (zft_ar .int 1) (Nat.le_of_ble_eq_true rfl) ?_
  show Z 1 24 12 [.inr (.inr (0, [.int 0, .ref 1, .int 0, .null, .int 0, .int 0, .null, .int 0, .null, .null, .null, .null, .int 0, .int 0, .int 0, .null, .null, .null, .null])), .inl (0, 24, fun _ => 0)] _ []
  refine o.1 1 24 100 [17] 12 _ _ _ (Nat.le_of_ble_eq_true rfl) (Nat.le_of_ble_eq_true rfl) ?_
  show Z 1 24 17 [.inr (.inr (0, [.int 0, .ref 1, .int (nI 1), .null, .int 0, .int 0, .null, .int 0, .null, .null, .null, .null, .int 0, .int 0, .int 0, .null, .null, .null, .null])), .inl (0, 24, fun _ => 0)] _ []
  refine o.1 1 24 100 [] 17 _ _ _ (Nat.le_of_ble_eq_true rfl) (Nat.le_of_ble_eq_true rfl) ?_
  show Z 1 24 20 _ _ [.int (nI 24), .ref 0]
  refine o.2.2.2.1 1 24 20 24 _ _ _ rfl (Nat.le_of_ble_eq_true rfl) (Nat.le_of_ble_eq_true rfl) (Nat.le_of_ble_eq_true rfl) (zcW_of rfl) (zcL_of rfl) (zcS_of rfl) (Nat.le_of_ble_eq_true rfl) (Nat.le_of_ble_eq_true rfl) ?_
  show Z 2 48 22 [.inr (.inr (0, [.int 0, .ref 1, .int (nI 1), .null, .int 0, .int 0, .null, .int 0, .null, .null, .null, .null, .int 0, .int 0, .int 0, .null, .null, .null, .null])), .inl (0, 24, fun _ => 0), .inl (0, 24, fun _ => 0)] _ [.ref 2, .ref 0]
  refine o.2.2.1 2 48 19 22 0 3 0 (RX0, TX0, 19) [.int 0, .ref 1, .int (nI 1), .null, .int 0, .int 0, .null, .int 0, .null, .null, .null, .null, .int 0, .int 0, .int 0, .null, .null, .null, .null] _ (.array .int) _ _ _ rfl (zPw_of tbX0 (ci := 0) (j := 3) rfl rfl rfl rfl (by decide +kernel)) rfl (zft_ar .int 2) (Nat.le_of_ble_eq_true rfl) ?_
  show Z 2 48 25 [.inr (.inr (0, [.int 0, .ref 1, .int (nI 1), .ref 2, .int 0, .int 0, .null, .int 0, .null, .null, .null, .null, .int 0, .int 0, .int 0, .null, .null, .null, .null])), .inl (0, 24, fun _ => 0), .inl (0, 24, fun _ => 0)] _ []
  refine o.1 2 48 100 [] 25 _ _ _ (Nat.le_of_ble_eq_true rfl) (Nat.le_of_ble_eq_true rfl) ?_
  show Z 2 48 28 _ _ [.int (nI 10), .ref 0]
  refine o.2.2.2.2.2.1 2 48 28 22 10 _ _ _ rfl (zin_mem (h := 76) (by decide +kernel)) (Nat.le_of_ble_eq_true rfl) (Nat.le_of_ble_eq_true rfl) (Nat.le_of_ble_eq_true rfl) (zcW_of rfl) (zcL_of rfl) (zcS_of rfl) (Nat.le_of_ble_eq_true rfl) (Nat.le_of_ble_eq_true rfl) ?_
  show Z 3 58 31 [.inr (.inr (0, [.int 0, .ref 1, .int (nI 1), .ref 2, .int 0, .int 0, .null, .int 0, .null, .null, .null, .null, .int 0, .int 0, .int 0, .null, .null, .null, .null])), .inl (0, 24, fun _ => 0), .inl (0, 24, fun _ => 0), .inr (.inl (10, fun _ => none))] _ [.ref 3, .ref 0]
  refine o.2.2.1 3 58 24 31 0 6 0 (RX0, TX0, 19) [.int 0, .ref 1, .int (nI 1), .ref 2, .int 0, .int 0, .null, .int 0, .null, .null, .null, .null, .int 0, .int 0, .int 0, .null, .null, .null, .null] _ (.array (.object RX2)) _ _ _ rfl (zPw_of tbX0 (ci := 0) (j := 6) rfl rfl rfl rfl (by decide +kernel)) rfl (zft_ar (.object RX2) 3) (Nat.le_of_ble_eq_true rfl) ?_
  show Z 3 58 34 [.inr (.inr (0, [.int 0, .ref 1, .int (nI 1), .ref 2, .int 0, .int 0, .ref 3, .int 0, .null, .null, .null, .null, .int 0, .int 0, .int 0, .null, .null, .null, .null])), .inl (0, 24, fun _ => 0), .inl (0, 24, fun _ => 0), .inr (.inl (10, fun _ => none))] _ []
  refine o.1 3 58 100 [] 34 _ _ _ (Nat.le_of_ble_eq_true rfl) (Nat.le_of_ble_eq_true rfl) ?_
  show Z 3 58 37 _ _ [.int (nI 8), .ref 0]
  refine o.2.2.2.1 3 58 37 8 _ _ _ rfl (Nat.le_of_ble_eq_true rfl) (Nat.le_of_ble_eq_true rfl) (Nat.le_of_ble_eq_true rfl) (zcW_of rfl) (zcL_of rfl) (zcS_of rfl) (Nat.le_of_ble_eq_true rfl) (Nat.le_of_ble_eq_true rfl) ?_
  show Z 4 66 39 [.inr (.inr (0, [.int 0, .ref 1, .int (nI 1), .ref 2, .int 0, .int 0, .ref 3, .int 0, .null, .null, .null, .null, .int 0, .int 0, .int 0, .null, .null, .null, .null])), .inl (0, 24, fun _ => 0), .inl (0, 24, fun _ => 0), .inr (.inl (10, fun _ => none)), .inl (0, 8, fun _ => 0)] _ [.ref 4, .ref 0]
  refine o.2.2.1 4 66 28 39 0 8 0 (RX0, TX0, 19) [.int 0, .ref 1, .int (nI 1), .ref 2, .int 0, .int 0, .ref 3, .int 0, .null, .null, .null, .null, .int 0, .int 0, .int 0, .null, .null, .null, .null] _ (.array .int) _ _ _ rfl (zPw_of tbX0 (ci := 0) (j := 8) rfl rfl rfl rfl (by decide +kernel)) rfl (zft_ar .int 4) (Nat.le_of_ble_eq_true rfl) ?_
  show Z 4 66 42 [.inr (.inr (0, [.int 0, .ref 1, .int (nI 1), .ref 2, .int 0, .int 0, .ref 3, .int 0, .ref 4, .null, .null, .null, .int 0, .int 0, .int 0, .null, .null, .null, .null])), .inl (0, 24, fun _ => 0), .inl (0, 24, fun _ => 0), .inr (.inl (10, fun _ => none)), .inl (0, 8, fun _ => 0)] _ []
  refine o.1 4 66 100 [] 42 _ _ _ (Nat.le_of_ble_eq_true rfl) (Nat.le_of_ble_eq_true rfl) ?_
  show Z 4 66 45 _ _ [.int (nI 8), .ref 0]
  refine o.2.2.2.1 4 66 45 8 _ _ _ rfl (Nat.le_of_ble_eq_true rfl) (Nat.le_of_ble_eq_true rfl) (Nat.le_of_ble_eq_true rfl) (zcW_of rfl) (zcL_of rfl) (zcS_of rfl) (Nat.le_of_ble_eq_true rfl) (Nat.le_of_ble_eq_true rfl) ?_
  show Z 5 74 47 [.inr (.inr (0, [.int 0, .ref 1, .int (nI 1), .ref 2, .int 0, .int 0, .ref 3, .int 0, .ref 4, .null, .null, .null, .int 0, .int 0, .int 0, .null, .null, .null, .null])), .inl (0, 24, fun _ => 0), .inl (0, 24, fun _ => 0), .inr (.inl (10, fun _ => none)), .inl (0, 8, fun _ => 0), .inl (0, 8, fun _ => 0)] _ [.ref 5, .ref 0]
  refine o.2.2.1 5 74 31 47 0 9 0 (RX0, TX0, 19) [.int 0, .ref 1, .int (nI 1), .ref 2, .int 0, .int 0, .ref 3, .int 0, .ref 4, .null, .null, .null, .int 0, .int 0, .int 0, .null, .null, .null, .null] _ (.array .int) _ _ _ rfl (zPw_of tbX0 (ci := 0) (j := 9) rfl rfl rfl rfl (by decide +kernel)) rfl (zft_ar .int 5) (Nat.le_of_ble_eq_true rfl) ?_
  show Z 5 74 50 [.inr (.inr (0, [.int 0, .ref 1, .int (nI 1), .ref 2, .int 0, .int 0, .ref 3, .int 0, .ref 4, .ref 5, .null, .null, .int 0, .int 0, .int 0, .null, .null, .null, .null])), .inl (0, 24, fun _ => 0), .inl (0, 24, fun _ => 0), .inr (.inl (10, fun _ => none)), .inl (0, 8, fun _ => 0), .inl (0, 8, fun _ => 0)] _ []
  refine o.1 5 74 100 [] 50 _ _ _ (Nat.le_of_ble_eq_true rfl) (Nat.le_of_ble_eq_true rfl) ?_
  show Z 5 74 53 _ _ [.int (nI 8), .ref 0]
  refine o.2.2.2.1 5 74 53 8 _ _ _ rfl (Nat.le_of_ble_eq_true rfl) (Nat.le_of_ble_eq_true rfl) (Nat.le_of_ble_eq_true rfl) (zcW_of rfl) (zcL_of rfl) (zcS_of rfl) (Nat.le_of_ble_eq_true rfl) (Nat.le_of_ble_eq_true rfl) ?_
  show Z 6 82 55 [.inr (.inr (0, [.int 0, .ref 1, .int (nI 1), .ref 2, .int 0, .int 0, .ref 3, .int 0, .ref 4, .ref 5, .null, .null, .int 0, .int 0, .int 0, .null, .null, .null, .null])), .inl (0, 24, fun _ => 0), .inl (0, 24, fun _ => 0), .inr (.inl (10, fun _ => none)), .inl (0, 8, fun _ => 0), .inl (0, 8, fun _ => 0), .inl (0, 8, fun _ => 0)] _ [.ref 6, .ref 0]
  refine o.2.2.1 6 82 34 55 0 10 0 (RX0, TX0, 19) [.int 0, .ref 1, .int (nI 1), .ref 2, .int 0, .int 0, .ref 3, .int 0, .ref 4, .ref 5, .null, .null, .int 0, .int 0, .int 0, .null, .null, .null, .null] _ (.array .int) _ _ _ rfl (zPw_of tbX0 (ci := 0) (j := 10) rfl rfl rfl rfl (by decide +kernel)) rfl (zft_ar .int 6) (Nat.le_of_ble_eq_true rfl) ?_
  show Z 6 82 58 [.inr (.inr (0, [.int 0, .ref 1, .int (nI 1), .ref 2, .int 0, .int 0, .ref 3, .int 0, .ref 4, .ref 5, .ref 6, .null, .int 0, .int 0, .int 0, .null, .null, .null, .null])), .inl (0, 24, fun _ => 0), .inl (0, 24, fun _ => 0), .inr (.inl (10, fun _ => none)), .inl (0, 8, fun _ => 0), .inl (0, 8, fun _ => 0), .inl (0, 8, fun _ => 0)] _ []
  refine o.1 6 82 100 [] 58 _ _ _ (Nat.le_of_ble_eq_true rfl) (Nat.le_of_ble_eq_true rfl) ?_
  show Z 6 82 61 _ _ [.int (nI 8), .ref 0]
  refine o.2.2.2.1 6 82 61 8 _ _ _ rfl (Nat.le_of_ble_eq_true rfl) (Nat.le_of_ble_eq_true rfl) (Nat.le_of_ble_eq_true rfl) (zcW_of rfl) (zcL_of rfl) (zcS_of rfl) (Nat.le_of_ble_eq_true rfl) (Nat.le_of_ble_eq_true rfl) ?_
  show Z 7 90 63 [.inr (.inr (0, [.int 0, .ref 1, .int (nI 1), .ref 2, .int 0, .int 0, .ref 3, .int 0, .ref 4, .ref 5, .ref 6, .null, .int 0, .int 0, .int 0, .null, .null, .null, .null])), .inl (0, 24, fun _ => 0), .inl (0, 24, fun _ => 0), .inr (.inl (10, fun _ => none)), .inl (0, 8, fun _ => 0), .inl (0, 8, fun _ => 0), .inl (0, 8, fun _ => 0), .inl (0, 8, fun _ => 0)] _ [.ref 7, .ref 0]
  refine o.2.2.1 7 90 37 63 0 11 0 (RX0, TX0, 19) [.int 0, .ref 1, .int (nI 1), .ref 2, .int 0, .int 0, .ref 3, .int 0, .ref 4, .ref 5, .ref 6, .null, .int 0, .int 0, .int 0, .null, .null, .null, .null] _ (.array .int) _ _ _ rfl (zPw_of tbX0 (ci := 0) (j := 11) rfl rfl rfl rfl (by decide +kernel)) rfl (zft_ar .int 7) (Nat.le_of_ble_eq_true rfl) ?_
  show Z 7 90 66 [.inr (.inr (0, [.int 0, .ref 1, .int (nI 1), .ref 2, .int 0, .int 0, .ref 3, .int 0, .ref 4, .ref 5, .ref 6, .ref 7, .int 0, .int 0, .int 0, .null, .null, .null, .null])), .inl (0, 24, fun _ => 0), .inl (0, 24, fun _ => 0), .inr (.inl (10, fun _ => none)), .inl (0, 8, fun _ => 0), .inl (0, 8, fun _ => 0), .inl (0, 8, fun _ => 0), .inl (0, 8, fun _ => 0)] _ []
  refine o.1 7 90 100 [] 66 _ _ _ (Nat.le_of_ble_eq_true rfl) (Nat.le_of_ble_eq_true rfl) ?_
  show Z 7 90 69 _ _ [.int (nI 8), .ref 0]
  refine o.2.2.2.1 7 90 69 8 _ _ _ rfl (Nat.le_of_ble_eq_true rfl) (Nat.le_of_ble_eq_true rfl) (Nat.le_of_ble_eq_true rfl) (zcW_of rfl) (zcL_of rfl) (zcS_of rfl) (Nat.le_of_ble_eq_true rfl) (Nat.le_of_ble_eq_true rfl) ?_
  show Z 8 98 71 [.inr (.inr (0, [.int 0, .ref 1, .int (nI 1), .ref 2, .int 0, .int 0, .ref 3, .int 0, .ref 4, .ref 5, .ref 6, .ref 7, .int 0, .int 0, .int 0, .null, .null, .null, .null])), .inl (0, 24, fun _ => 0), .inl (0, 24, fun _ => 0), .inr (.inl (10, fun _ => none)), .inl (0, 8, fun _ => 0), .inl (0, 8, fun _ => 0), .inl (0, 8, fun _ => 0), .inl (0, 8, fun _ => 0), .inl (0, 8, fun _ => 0)] _ [.ref 8, .ref 0]
  refine o.2.2.1 8 98 40 71 0 15 0 (RX0, TX0, 19) [.int 0, .ref 1, .int (nI 1), .ref 2, .int 0, .int 0, .ref 3, .int 0, .ref 4, .ref 5, .ref 6, .ref 7, .int 0, .int 0, .int 0, .null, .null, .null, .null] _ (.array .int) _ _ _ rfl (zPw_of tbX0 (ci := 0) (j := 15) rfl rfl rfl rfl (by decide +kernel)) rfl (zft_ar .int 8) (Nat.le_of_ble_eq_true rfl) ?_
  show Z 8 98 74 [.inr (.inr (0, [.int 0, .ref 1, .int (nI 1), .ref 2, .int 0, .int 0, .ref 3, .int 0, .ref 4, .ref 5, .ref 6, .ref 7, .int 0, .int 0, .int 0, .ref 8, .null, .null, .null])), .inl (0, 24, fun _ => 0), .inl (0, 24, fun _ => 0), .inr (.inl (10, fun _ => none)), .inl (0, 8, fun _ => 0), .inl (0, 8, fun _ => 0), .inl (0, 8, fun _ => 0), .inl (0, 8, fun _ => 0), .inl (0, 8, fun _ => 0)] _ []
  refine o.1 8 98 100 [] 74 _ _ _ (Nat.le_of_ble_eq_true rfl) (Nat.le_of_ble_eq_true rfl) ?_
  show Z 8 98 77 _ _ [.int (nI 8), .ref 0]
  refine o.2.2.2.1 8 98 77 8 _ _ _ rfl (Nat.le_of_ble_eq_true rfl) (Nat.le_of_ble_eq_true rfl) (Nat.le_of_ble_eq_true rfl) (zcW_of rfl) (zcL_of rfl) (zcS_of rfl) (Nat.le_of_ble_eq_true rfl) (Nat.le_of_ble_eq_true rfl) ?_
  show Z 9 106 79 [.inr (.inr (0, [.int 0, .ref 1, .int (nI 1), .ref 2, .int 0, .int 0, .ref 3, .int 0, .ref 4, .ref 5, .ref 6, .ref 7, .int 0, .int 0, .int 0, .ref 8, .null, .null, .null])), .inl (0, 24, fun _ => 0), .inl (0, 24, fun _ => 0), .inr (.inl (10, fun _ => none)), .inl (0, 8, fun _ => 0), .inl (0, 8, fun _ => 0), .inl (0, 8, fun _ => 0), .inl (0, 8, fun _ => 0), .inl (0, 8, fun _ => 0), .inl (0, 8, fun _ => 0)] _ [.ref 9, .ref 0]
  refine o.2.2.1 9 106 43 79 0 16 0 (RX0, TX0, 19) [.int 0, .ref 1, .int (nI 1), .ref 2, .int 0, .int 0, .ref 3, .int 0, .ref 4, .ref 5, .ref 6, .ref 7, .int 0, .int 0, .int 0, .ref 8, .null, .null, .null] _ (.array .int) _ _ _ rfl (zPw_of tbX0 (ci := 0) (j := 16) rfl rfl rfl rfl (by decide +kernel)) rfl (zft_ar .int 9) (Nat.le_of_ble_eq_true rfl) ?_
  show Z 9 106 82 [.inr (.inr (0, [.int 0, .ref 1, .int (nI 1), .ref 2, .int 0, .int 0, .ref 3, .int 0, .ref 4, .ref 5, .ref 6, .ref 7, .int 0, .int 0, .int 0, .ref 8, .ref 9, .null, .null])), .inl (0, 24, fun _ => 0), .inl (0, 24, fun _ => 0), .inr (.inl (10, fun _ => none)), .inl (0, 8, fun _ => 0), .inl (0, 8, fun _ => 0), .inl (0, 8, fun _ => 0), .inl (0, 8, fun _ => 0), .inl (0, 8, fun _ => 0), .inl (0, 8, fun _ => 0)] _ []
  refine o.1 9 106 100 [] 82 _ _ _ (Nat.le_of_ble_eq_true rfl) (Nat.le_of_ble_eq_true rfl) ?_
  show Z 9 106 85 _ _ [.int (nI 8), .ref 0]
  refine o.2.2.2.1 9 106 85 8 _ _ _ rfl (Nat.le_of_ble_eq_true rfl) (Nat.le_of_ble_eq_true rfl) (Nat.le_of_ble_eq_true rfl) (zcW_of rfl) (zcL_of rfl) (zcS_of rfl) (Nat.le_of_ble_eq_true rfl) (Nat.le_of_ble_eq_true rfl) ?_
  show Z 10 114 87 [.inr (.inr (0, [.int 0, .ref 1, .int (nI 1), .ref 2, .int 0, .int 0, .ref 3, .int 0, .ref 4, .ref 5, .ref 6, .ref 7, .int 0, .int 0, .int 0, .ref 8, .ref 9, .null, .null])), .inl (0, 24, fun _ => 0), .inl (0, 24, fun _ => 0), .inr (.inl (10, fun _ => none)), .inl (0, 8, fun _ => 0), .inl (0, 8, fun _ => 0), .inl (0, 8, fun _ => 0), .inl (0, 8, fun _ => 0), .inl (0, 8, fun _ => 0), .inl (0, 8, fun _ => 0), .inl (0, 8, fun _ => 0)] _ [.ref 10, .ref 0]
  refine o.2.2.1 10 114 46 87 0 17 0 (RX0, TX0, 19) [.int 0, .ref 1, .int (nI 1), .ref 2, .int 0, .int 0, .ref 3, .int 0, .ref 4, .ref 5, .ref 6, .ref 7, .int 0, .int 0, .int 0, .ref 8, .ref 9, .null, .null] _ (.array .int) _ _ _ rfl (zPw_of tbX0 (ci := 0) (j := 17) rfl rfl rfl rfl (by decide +kernel)) rfl (zft_ar .int 10) (Nat.le_of_ble_eq_true rfl) ?_
  show Z 10 114 90 [.inr (.inr (0, [.int 0, .ref 1, .int (nI 1), .ref 2, .int 0, .int 0, .ref 3, .int 0, .ref 4, .ref 5, .ref 6, .ref 7, .int 0, .int 0, .int 0, .ref 8, .ref 9, .ref 10, .null])), .inl (0, 24, fun _ => 0), .inl (0, 24, fun _ => 0), .inr (.inl (10, fun _ => none)), .inl (0, 8, fun _ => 0), .inl (0, 8, fun _ => 0), .inl (0, 8, fun _ => 0), .inl (0, 8, fun _ => 0), .inl (0, 8, fun _ => 0), .inl (0, 8, fun _ => 0), .inl (0, 8, fun _ => 0)] _ []
  refine o.1 10 114 100 [] 90 _ _ _ (Nat.le_of_ble_eq_true rfl) (Nat.le_of_ble_eq_true rfl) ?_
  show Z 10 114 93 _ _ [.int (nI 6), .ref 0]
  refine o.2.2.2.1 10 114 93 6 _ _ _ rfl (Nat.le_of_ble_eq_true rfl) (Nat.le_of_ble_eq_true rfl) (Nat.le_of_ble_eq_true rfl) (zcW_of rfl) (zcL_of rfl) (zcS_of rfl) (Nat.le_of_ble_eq_true rfl) (Nat.le_of_ble_eq_true rfl) ?_
  show Z 11 120 95 [.inr (.inr (0, [.int 0, .ref 1, .int (nI 1), .ref 2, .int 0, .int 0, .ref 3, .int 0, .ref 4, .ref 5, .ref 6, .ref 7, .int 0, .int 0, .int 0, .ref 8, .ref 9, .ref 10, .null])), .inl (0, 24, fun _ => 0), .inl (0, 24, fun _ => 0), .inr (.inl (10, fun _ => none)), .inl (0, 8, fun _ => 0), .inl (0, 8, fun _ => 0), .inl (0, 8, fun _ => 0), .inl (0, 8, fun _ => 0), .inl (0, 8, fun _ => 0), .inl (0, 8, fun _ => 0), .inl (0, 8, fun _ => 0), .inl (0, 6, fun _ => 0)] _ [.ref 11, .ref 0]
  refine o.2.2.1 11 120 49 95 0 18 0 (RX0, TX0, 19) [.int 0, .ref 1, .int (nI 1), .ref 2, .int 0, .int 0, .ref 3, .int 0, .ref 4, .ref 5, .ref 6, .ref 7, .int 0, .int 0, .int 0, .ref 8, .ref 9, .ref 10, .null] _ (.array .int) _ _ _ rfl (zPw_of tbX0 (ci := 0) (j := 18) rfl rfl rfl rfl (by decide +kernel)) rfl (zft_ar .int 11) (Nat.le_of_ble_eq_true rfl) ?_
  show Z 11 120 98 [.inr (.inr (0, [.int 0, .ref 1, .int (nI 1), .ref 2, .int 0, .int 0, .ref 3, .int 0, .ref 4, .ref 5, .ref 6, .ref 7, .int 0, .int 0, .int 0, .ref 8, .ref 9, .ref 10, .ref 11])), .inl (0, 24, fun _ => 0), .inl (0, 24, fun _ => 0), .inr (.inl (10, fun _ => none)), .inl (0, 8, fun _ => 0), .inl (0, 8, fun _ => 0), .inl (0, 8, fun _ => 0), .inl (0, 8, fun _ => 0), .inl (0, 8, fun _ => 0), .inl (0, 8, fun _ => 0), .inl (0, 8, fun _ => 0), .inl (0, 6, fun _ => 0)] _ []
  exact o.1 11 120 100 [] 98 _ _ _ (Nat.le_of_ble_eq_true rfl) (Nat.le_of_ble_eq_true rfl) ⟨rfl, (Nat.le_of_ble_eq_true rfl), rfl, rfl⟩
set_option maxRecDepth 10000 in
theorem c_rdr_init : zFunB l D C yX1_init cX1_init 1 none (zRA 1 1 24) [.ref 0] [.inr (.inr (1, [.null, .int 0, .int 0]))] (fun w rv => w = rdr (fun _ => 0) 0 0 ∧ rv = none) := by
  refine zFunC_of (by decide) rfl oX1_init tbX1 (Nat.le_of_ble_eq_true rfl) (fun Z o _ => ?_)
  refine o.1 0 0 100 [] 0 _ _ _ (Nat.zero_le _) (Nat.zero_le _) ?_
  show Z 0 0 1 _ _ [.ref 0]
  refine o.2.1 0 0 3 1 0 _ _ rfl (zin_mem (h := 155) (by decide +kernel)) (by omega) ?_
  refine o.1 0 0 100 [] 4 _ _ _ (Nat.le_of_ble_eq_true rfl) (Nat.le_of_ble_eq_true rfl) ?_
  show Z 0 0 7 _ _ [.int (nI 24), .ref 0]
  refine o.2.2.2.1 0 0 7 24 _ _ _ rfl (Nat.le_of_ble_eq_true rfl) (Nat.le_of_ble_eq_true rfl) (Nat.le_of_ble_eq_true rfl) (zcW_of rfl) (zcL_of rfl) (zcS_of rfl) (Nat.le_of_ble_eq_true rfl) (Nat.le_of_ble_eq_true rfl) ?_
  show Z 1 24 9 [.inr (.inr (1, [.null, .int 0, .int 0])), .inl (0, 24, fun _ => 0)] _ [.ref 1, .ref 0]
  refine o.2.2.1 1 24 9 9 1 0 0 (RX1, TX1, 3) [.null, .int 0, .int 0] _ (.array .int) _ _ _ rfl (zPw_of tbX1 (ci := 1) (j := 0) rfl rfl rfl rfl (by decide +kernel)) rfl (zft_ar .int 1) (Nat.le_of_ble_eq_true rfl) ?_
  show Z 1 24 12 [.inr (.inr (1, [.ref 1, .int 0, .int 0])), .inl (0, 24, fun _ => 0)] _ []
  exact o.1 1 24 100 [] 12 _ _ _ (Nat.le_of_ble_eq_true rfl) (Nat.le_of_ble_eq_true rfl) ⟨rfl, (Nat.le_of_ble_eq_true rfl), rfl, rfl⟩
end CON
