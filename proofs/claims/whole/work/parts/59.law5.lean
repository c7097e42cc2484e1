/-! THE CLAIM OUT OF ONE WALK OF THE LAW'S BODY. Your part is whole_start (and what it stands on); all else here is the same for every law, but numbers. -/
def R_law : String := "YamIslandLaw"
def lw_P (b : Addr) (xs : List Int32) (args : Array Value) (s : State) : Prop := args = #[.ref b] ∧ s.IntsAt b xs ∧ xs.length ≤ 320 ∧ (Jvm.Cond.and given_1 narrow_1).before args s = true
def lw_Q (_ : Array Value) (s : State) (o : Outcome) (t : State) : Prop := o = .returned (some (.int 1)) ∧ Framed s o t [] 600000 7302250
def lw_Z (below : List Frame) (a : Array Value) (s : State) : State → Prop := fun t => ∃ o, t.status = .running ∧ Ended t below o ∧ lw_Q a s o t
/-- the law's own end, with 1 on the stack, nothing written that was there before, its room as the claim has it -/
theorem lw_ret {p : Program} {l : Launch} {e : Env} {s : State} {m : MethodId} {below : List Frame} {meth : Method} {c : Code} {b : Nat} (hx : p.tables.exec = Jvm.exec) (hb : c.code = code) (hr : meth.sig.returnType = ret) (hlocks : meth.locks = false) {pc : Nat} {H : Heap} {ls : Array Slot} (hdg : decode code pc = .ok (.ireturn, 1)) : W p l e room_1 s m #[Value.ref b] below meth c H [] 600000 7302250 (lw_Z below #[Value.ref b] s) (F0 m pc ls [.int 1]) := by
  intro T hT X
  obtain ⟨fs, hret, hrun, hended, hW, hframe⟩ := X.leave (v := some (.int 1)) (hlocks := hlocks) (fun h => by rw [hr] at h; cases h)
  have hmeth' : T.vm.method? m = some meth := X.method'
  refine ⟨T.setFrames fs, ?_, .returned (some (.int 1)), hrun, hended, rfl, ⟨_, rfl⟩, hW, hframe⟩
  jvm_step X.here [X.here.top, hx, hb, hdg, hmeth', hr, ret, narrow_b1]
  (try refine ⟨rfl, ?_⟩); (try refine ⟨rfl, ?_⟩)
  first | (intro acts; rw [hret _ acts rfl rfl rfl]) | rw [hret _ _ rfl rfl rfl]
  exact Steps.refl _
/-- what holds at the law's entry: the machine, the code, the tables' words (any of lw_tbl by 'hts w (by decide +kernel)'), the script of L ints xs at the cell b, what the Statement gives of the start (any of its parts by flat_of_before) -/
def lw_At (p : Program) (s : State) (m : MethodId) (meth : Method) (c : Code) (b L : Nat) (xs : Nat → Int32) : Prop :=
  p.tables.exec = Jvm.exec ∧ c.code = code ∧ meth.sig.returnType = ret ∧ c.maxLocals = 4 ∧ s.vm.findClass R_law = some m.cls ∧ (∀ w ∈ lw_tbl, w.before #[Value.ref b] s = true) ∧ va_X b L xs s s.heap ∧ b < s.heap.size ∧ meth.locks = false ∧ (Jvm.Cond.and given_1 narrow_1).before #[Value.ref b] s = true
theorem lw_fresh {s t : State} {o : Outcome} {L : List Loc} {k n : Nat} (h : FrameEnd s o t L k n) (hf : ∀ q ∈ L, s.heap.size ≤ q.base) : Framed s o t [] k n :=
  ⟨h.1, h.2.1, h.2.2.weaken (fun y hy hlt => absurd hlt (Nat.not_lt.mpr (hf y hy))) (Nat.le_refl _) (Nat.le_refl _)⟩
set_option maxRecDepth 20000 in
theorem lw_go {p : Program} {l : Launch} {e : Env} {s : State} {m : MethodId} {args : Array Value} {below : List Frame} {meth : Method} {c : Code} {D : va_G} {C : zC} {A : Nat → Prop} {q0 : Nat → Nat} {b L : Nat} {xs : Nat → Int32} (F : zFx p s m args meth c code 4 ret RL D C) (N : zNs s) (hAf : ∀ x, s.heap.size ≤ x → A x) (hX : va_X b L xs s s.heap) (hbl : b < s.heap.size) (hbA : ¬ A b) (hL : L ≤ 320) (h0 : q0 zBIG = b) (h1 : ∀ a, q0 (zBIG + 2 * (a + 1)) = a) :
    zZ p l e room_1 s m args below meth c D C A 4 (fun _ _ o _ => o = .returned (some (.int 1))) 0 q0 0 0 0 [] [some (.ref zBIG), none, none, none] [] := by
  have oo : ∀ tab, zokC code tab = true → zOpL l D C tab L xs (zZ p l e room_1 s m args below meth c D C A 4 (fun _ _ o _ => o = .returned (some (.int 1))) 0 q0) := fun tab hO => zopL_of F N hAf hO hX hbl hbA hL h0 h1
  have o := oo kLc_s oLc_s
  refine zZ_new (R := room_1) (ci := 3) (r := (RX3, TX3, 8)) (fs := [.null, .null, .null, .null, .null, .null, .null, .int 0]) (idx := 7) (tab := kLc_s) F hAf oLc_s rfl nwL_7 (Nat.zero_le _) (Nat.le_of_ble_eq_true rfl) (zcW_of rfl) (zcL_of rfl) (zcS_of rfl) (Nat.le_of_ble_eq_true rfl) (Nat.le_of_ble_eq_true rfl) ?_
  refine o.1 1 8 1 [] 3 _ _ _ (Nat.le_of_ble_eq_true rfl) (Nat.le_of_ble_eq_true rfl) ?_
  refine zZ_init (R := room_1) (rm' := zRA 2 52 598) (σ := sgN 0) (b0 := 0) (As := []) (rest := [.ref 0]) (idx := 9) (n := 0) (tab := kLc_s) (wc := [.inr (.inr (3, [.null, .null, .null, .null, .null, .null, .null, .int 0]))]) F N hAf oLc_s c_yam_init ciL_9 ⟨fun k x hx => ?_, fun i j hi hj _ => sgN_inj hi hj⟩ (fun k hk => ?_) (fun _ h => sgN_F h) (Nat.le_of_ble_eq_true rfl) (Nat.zero_le _) (zcW_of rfl) (zcL_of rfl) (zcS_of rfl) (fun w rv _ hpo => ?_) rfl rfl rfl (Nat.le_of_ble_eq_true rfl) ⟨Nat.le_of_ble_eq_true rfl, Nat.le_of_ble_eq_true rfl⟩ ⟨Nat.le_of_ble_eq_true rfl, Nat.le_of_ble_eq_true rfl⟩
  · match k, hx with
    | 0, hx => cases hx; rfl
    | k + 1, hx => simp at hx
  · have hk : k < 1 := hk
    rw [sgN_lt hk]
    exact hk
  obtain ⟨rfl, rfl⟩ := hpo
  refine ⟨[] ++ yamW 53 yam0, zplA_tail (front := []) (w := yamW 53 yam0) (w' := yamW 53 yam0) (N := 0) rfl (Nat.le_of_ble_eq_true rfl) (Nat.le_of_ble_eq_true rfl) rfl yam_ren, Nat.le_of_ble_eq_true rfl, ?_⟩
  show zZ p l e room_1 s m args below meth c D C A 4 _ 0 q0 53 606 7 (yamW 53 yam0) _ [.ref 0]
  refine o.1 53 606 1 [] 7 _ _ _ (Nat.le_of_ble_eq_true rfl) (Nat.le_of_ble_eq_true rfl) ?_
  refine zZ_new (R := room_1) (ci := 4) (r := (RX4, TX4, 43)) (fs := [.int 0, .null, .null, .int 0, .int 0, .null, .null, .null, .null, .int 0, .int 0, .int 0, .null, .null, .null, .null, .null, .null, .int 0, .null, .int 0, .int 0, .int 0, .int 0, .null, .null, .int 0, .null, .null, .null, .int 0, .int 0, .int 0, .int 0, .int 0, .null, .null, .int 0, .int 0, .int 0, .null, .int 0, .int 0]) (idx := 10) (tab := kLc_s) F hAf oLc_s rfl nwL_10 (Nat.zero_le _) (Nat.le_of_ble_eq_true rfl) (zcW_of rfl) (zcL_of rfl) (zcS_of rfl) (Nat.le_of_ble_eq_true rfl) (Nat.le_of_ble_eq_true rfl) ?_
  refine o.1 54 649 1 [] 11 _ _ _ (Nat.le_of_ble_eq_true rfl) (Nat.le_of_ble_eq_true rfl) ?_
  refine zZ_init (R := room_1) (rm' := zRA 1 21 2231) (σ := sgN 53) (b0 := 0) (As := []) (rest := [.ref 53]) (idx := 12) (n := 0) (tab := kLc_s) (wc := [.inr (.inr (4, [.int 0, .null, .null, .int 0, .int 0, .null, .null, .null, .null, .int 0, .int 0, .int 0, .null, .null, .null, .null, .null, .null, .int 0, .null, .int 0, .int 0, .int 0, .int 0, .null, .null, .int 0, .null, .null, .null, .int 0, .int 0, .int 0, .int 0, .int 0, .null, .null, .int 0, .int 0, .int 0, .null, .int 0, .int 0]))]) F N hAf oLc_s c_md_init ciL_12 ⟨fun k x hx => ?_, fun i j hi hj _ => sgN_inj hi hj⟩ (fun k hk => ?_) (fun _ h => sgN_F h) (Nat.le_of_ble_eq_true rfl) (Nat.zero_le _) (zcW_of rfl) (zcL_of rfl) (zcS_of rfl) (fun w rv _ hpo => ?_) rfl rfl rfl (Nat.le_of_ble_eq_true rfl) ⟨Nat.le_of_ble_eq_true rfl, Nat.le_of_ble_eq_true rfl⟩ ⟨Nat.le_of_ble_eq_true rfl, Nat.le_of_ble_eq_true rfl⟩
  · match k, hx with
    | 0, hx => cases hx; rfl
    | k + 1, hx => simp at hx
  · have hk : k < 1 := hk
    rw [sgN_lt hk]
    show k + 53 < 54
    omega
  obtain ⟨rfl, rfl⟩ := hpo
  refine ⟨yamW 53 yam0 ++ mdW 53 md0, zplA_tail (front := yamW 53 yam0) (w := mdW 0 md0) (w' := mdW 53 md0) (N := 53) rfl (Nat.le_of_ble_eq_true rfl) (Nat.le_of_ble_eq_true rfl) rfl md_ren, Nat.le_of_ble_eq_true rfl, ?_⟩
  show zZ p l e room_1 s m args below meth c D C A 4 _ 0 q0 75 2880 15 (yamW 53 yam0 ++ mdW 53 md0) [some (.ref zBIG), some (.ref 0), none, none] [.ref 53]
  refine o.1 75 2880 100 [18] 15 _ _ _ (Nat.le_of_ble_eq_true rfl) (Nat.le_of_ble_eq_true rfl) ?_
  show zZ p l e room_1 s m args below meth c D C A 4 _ 0 q0 75 2880 18 (yamW 53 yam0 ++ mdW 53 md0) [some (.ref zBIG), some (.ref 0), some (.ref 53), some (.int (nI 0))] []
  exact zZ_perm (τ := tauL) (ws2 := LW md0 yam0 []) (lv2 := lvL (5 * 0)) (st2 := []) tau_sb (fun i hi => by
    have := hi.1
    unfold zBIG at this
    unfold tauL
    rw [if_neg (by omega), if_neg (by omega)]) rfl rfl (law_loop oo hL 64 0 yam0 md0 [] S00 75 2880 rfl rep00 repM00 (Nat.zero_le _) (Nat.le_refl _) (Nat.le_refl _))
theorem whole_start {p : Program} {e : Env} {s : State} {m : MethodId} {below : List Frame} {meth : Method} {c : Code} (l : Launch) {b L : Nat} {xs : Nat → Int32} (hL : L ≤ 320) (C0 : lw_At p s m meth c b L xs) : W p l e room_1 s m #[Value.ref b] below meth c s.heap [] 0 0 (lw_Z below #[Value.ref b] s) (entryFrame m ([Value.ref b] : List Value).toArray 4) := by
  obtain ⟨hx, hb, hr, hml, hown, hts, hX, hbl, hlocks, hgv⟩ := id C0
  have htG : ∀ w ∈ zG, w.before #[Value.ref b] s = true := fun w h => hts w (zG_in h)
  obtain ⟨c0, iS0, k0⟩ := u_known (C := RX0) (T := TX0) (N := 19) (n := 19) htG (zcls 0 _ rfl).1 (htG _ (zin_mem (h := 71) (by decide +kernel)))
  obtain ⟨c1, iS1, k1⟩ := u_known (C := RX1) (T := TX1) (N := 3) (n := 3) htG (zcls 1 _ rfl).1 (htG _ (zin_mem (h := 151) (by decide +kernel)))
  obtain ⟨c2, iS2, k2⟩ := u_known (C := RX2) (T := TX2) (N := 4) (n := 4) htG (zcls 2 _ rfl).1 (htG _ (zin_mem (h := 276) (by decide +kernel)))
  obtain ⟨c3, iS3, k3⟩ := u_known (C := RX3) (T := TX3) (N := 8) (n := 8) htG (zcls 3 _ rfl).1 (htG _ (zin_mem (h := 63) (by decide +kernel)))
  obtain ⟨c4, iS4, k4⟩ := u_known (C := RX4) (T := TX4) (N := 43) (n := 43) htG (zcls 4 _ rfl).1 (htG _ (zin_mem (h := 561) (by decide +kernel)))
  obtain ⟨cI, kI, mI, i1, i2, i3⟩ := Cond.arrayClass_spec (htG _ zarr.1)
  obtain ⟨cB, kB, mB, b1, b2, b3⟩ := Cond.arrayClass_spec (htG _ zarr.2)
  have hAO : va_AO RX2 s := va_AO.of (hts (.arrayOver (.object RX2)) (List.mem_of_getElem? (i := 77) (by decide +kernel)))
  obtain ⟨mR, cR, kR, r1, r2, r3, r4, r5⟩ := Cond.arrayOver_spec hAO
  have N : zNs s := ⟨va_Nw.of rfl (hts (.methodLinkNest RX3 9 yX0_init RX3) (List.mem_of_getElem? (i := 72) (by decide +kernel))), va_Nw.of rfl (hts (.methodLinkNest RX3 31 yX1_init RX3) (List.mem_of_getElem? (i := 152) (by decide +kernel))), hAO⟩
  obtain ⟨D, hKc⟩ : ∃ D : va_G, ∀ (k : Nat) (q : vw_C), vwCl[k]? = some q → u_Kn s q.1 q.2.1 q.2.2 (D.1 k) (D.2 k) := by
    refine ⟨(fun k => if k = 0 then c0 else if k = 1 then c1 else if k = 2 then c2 else if k = 3 then c3 else c4, fun k => if k = 0 then iS0 else if k = 1 then iS1 else if k = 2 then iS2 else if k = 3 then iS3 else iS4), ?_⟩
    intro k q hq
    match k, hq with
    | 0, hq => cases hq; exact k0
    | 1, hq => cases hq; exact k1
    | 2, hq => cases hq; exact k2
    | 3, hq => cases hq; exact k3
    | 4, hq => cases hq; exact k4
    | k + 5, hq => simp [vwCl] at hq
  have hK : va_K D vwCl (ztys (cI, cB, cR)) s := by
    refine ⟨hKc, fun k q hq => ?_⟩
    match k, hq with
    | 0, hq => cases hq; exact ⟨fun n z => ⟨fun k h => (by cases h), kI, i2, mI, i3⟩, i1⟩
    | 1, hq => cases hq; exact ⟨fun n z => ⟨fun k h => (by cases h), kB, b2, mB, b3⟩, b1⟩
    | 2, hq => cases hq; exact ⟨fun n z => ⟨fun k h => (by cases h), kR, r3, mR, r4⟩, kR, mR, r3, r4, r1, r5⟩
    | k + 3, hq => simp [ztys] at hq
  have F : zFx p s m #[Value.ref b] meth c code 4 ret RL D (cI, cB, cR) := ⟨hx, hb, hml, hr, hown, htG, hK, hlocks⟩
  obtain ⟨q0, h0, h1⟩ : ∃ q0 : Nat → Nat, q0 zBIG = b ∧ ∀ a, q0 (zBIG + 2 * (a + 1)) = a := ⟨fun i => if i = zBIG then b else (i - zBIG) / 2 - 1, if_pos rfl, fun a => by
    show (if zBIG + 2 * (a + 1) = zBIG then b else (zBIG + 2 * (a + 1) - zBIG) / 2 - 1) = a
    rw [if_neg (by omega)]; omega⟩
  have hZ := lw_go (l := l) (e := e) (below := below) (A := fun x => s.heap.size ≤ x) F N (fun _ h => h) hX hbl (Nat.not_le.mpr hbl) hL h0 h1
  have hl := lv_entry ([Value.ref b]) (n := 4) (Nat.le_of_ble_eq_true rfl)
  rw [lg_entry_eq]
  have hW := hZ q0 (fun _ _ => rfl) s.heap [] _ (fun k y h => by simp [zw] at h) ⟨fun i j x y h => by simp [zw] at h, fun k y h => by simp [zw] at h⟩ va_S.rf ⟨Nat.le_of_ble_eq_true rfl, by
    show lv_has _ 4 [(0, Value.ref (q0 zBIG))]
    rw [h0]
    exact hl⟩
  intro T hT X
  obtain ⟨t, a1, oc, g1, g2, g3, Ls, g4, g5⟩ := hW T hT X
  exact ⟨t, a1, oc, g1, g2, g3, lw_fresh g4 g5⟩
set_option maxHeartbeats 4000000 in
theorem lw_walk (l : Launch) (b : Addr) (xs : List Int32) : MetFree l x (headSpec (Jvm.Cond.code x code maxLocals ret :: tables_1) room_1) (lw_P b xs) (fun _ _ _ _ _ => True) lw_Q := by
  refine MetFree.of_bodyS (code := code) (maxLocals := maxLocals) (ret := ret) (by decide) ?_ ?_
  · intro args s m h hn
    obtain ⟨meth, c, h1, h2, h3, h4, h5, h6, -, -⟩ := Cond.code_spec hn (atoms_spec (ws := Jvm.Cond.code x code maxLocals ret :: tables_1) h _ List.mem_cons_self)
    exact ⟨meth, c, h1, h2, h3, h4, h5, h6⟩
  · intro p e s m args below meth c s₁ B hml0 hP _
    obtain ⟨rfl, hx, hbd, hgv⟩ := hP
    obtain ⟨scr, harrAt, hlist, hof, hsmall⟩ := hx
    obtain ⟨hcb, hkn, -, -⟩ := State.arrayAt?_spec harrAt
    have hown : s.vm.findClass R_law = some m.cls := findClass_of_methodNamed B.named
    have hts0 : ∀ c ∈ (Jvm.Cond.code x code maxLocals ret :: tables_1), c.before #[Value.ref b] s = true := atoms_spec (ws := Jvm.Cond.code x code maxLocals ret :: tables_1) B.pre
    have hts : ∀ w ∈ lw_tbl, w.before #[Value.ref b] s = true := k2_hts_sels lw_privs (fun w hw => hts0 w (List.mem_cons_of_mem _ hw)) lw_privs_ok
    have hml : c.maxLocals = 4 := B.maxLocals_eq (hts0 _ List.mem_cons_self)
    have X₀ : Stand p l e room_1 s m #[Value.ref b] below meth c s₁ [] 0 0 := Stand.of_body B
    have hh0 : s₁.heap = s.heap := by rw [B.state]; rfl
    have hsz : scr.slots.size = xs.length := by rw [← Array.length_toList, hlist, List.length_map]
    have hval : ∀ j : Nat, j < xs.length → scr.slots[j]? = some (.int (xs.getD j 0)) := fun j hj => by
      rw [← Array.getElem?_toList, hlist]
      simp [hj]
    have hbl : b < s.heap.size := (Array.getElem?_eq_some_iff.mp hcb).1
    have hX : va_X b xs.length (fun j => xs.getD j 0) s s.heap := ⟨scr, hcb, hof, hkn, hsz, hval⟩
    have K : W p l e room_1 s m #[Value.ref b] below meth c s₁.heap [] 0 0 (lw_Z below #[Value.ref b] s) (entryFrame m ([Value.ref b] : List Value).toArray 4) := by
      rw [hh0]
      exact whole_start l hbd ⟨B.exec, B.bytes, B.returns, hml, hown, hts, hX, hbl, B.notSynchronized, hgv⟩
    obtain ⟨t, a1, o, b1, b2, b3⟩ := K s₁ rfl X₀
    exact ⟨t, o, a1, b1, b2, b3⟩
theorem lw_pre_spec {args : Array Value} {s : State} (h : (Jvm.Cond.and given_1 narrow_1).before args s = true) (hr : rest_1_c.before args s = true) : ∃ (b : Addr) (xs : List Int32), lw_P b xs args s := by
  have hs := flat_of_before _ h
  have hq := flat_of_before _ hr
  have hc : (Cond.count 1).before args s = true := hs _ (by decide +kernel)
  have harr : (Cond.arrayOf (.arg 0) .int).before args s = true := hs _ (by decide +kernel)
  have hle : (Cond.le (.length (.arg 0)) (.int 320)).before args s = true := hs _ (by decide +kernel)
  have hlen : (Cond.isInt (.length (.arg 0))).before args s = true := hq _ (by decide +kernel)
  have hall : (Cond.all (.arg 0) (.isInt (.elem (.arg 0) (.index 0)))).before args s = true := hq _ (by decide +kernel)
  obtain ⟨b, xs, hb, hx⟩ := State.ints_of_pre rfl harr hlen hall
  have hsm : xs.length < 2 ^ 31 := hx.choose_spec.2.2.2
  have hev : (Term.length (.arg 0)).eval args s none [] s = some (.int xs.length.toInt32) := hx.length_eval hb
  have hv := Cond.le_ints hev (show (Term.int 320).eval args s none [] s = some (.int 320) from rfl)
  have hd : xs.length.toInt32 ≤ 320 := by
    simpa [Cond.before, Cond.holds, hv] using hle
  have hN : xs.length ≤ 320 := (Int32.ofNat_le_ofNat hsm (by decide)).mp (show Int32.ofNat xs.length ≤ Int32.ofNat 320 from hd)
  exact ⟨b, xs, Cond.one_arg hc (show args[0]? = some (.ref b) from hb), hx, hN, h⟩
theorem lw_comes (l : Launch) : Comes l x (Jvm.Cond.code x code maxLocals ret :: tables_1) room_1 (fun tb e args s => Calls_1 tb e args s ∧ rest_1 tb e args s ∧ Pre_1 tb e args s)
    (fun _ _ args s o t => lw_Q args s o t) := by
  intro p e ha hc hk s m args below hf hfit hheap happ hpre
  obtain ⟨b, xs, hP⟩ := lw_pre_spec hpre.2.2 hpre.2.1
  obtain ⟨k, o, h1, h2, h3, hQ⟩ := lw_walk l b xs p e ha hc hk s m args below hf ((Spec.applies_iff_loose hf).mp happ).1 hP trivial
  exact ⟨k, o, h1, h2, h3, hQ⟩
theorem lw_frame {s t : State} {o : Outcome} {args : Array Value} (h : Framed s o t [] 600000 7302250) :
    Framed s o t (fieldLocs frame_1_writes args s ++ arrayLocs frame_1_arrays args s ++ staticLocs frame_1_statics s) 600000 7302250 := h
theorem lw_limb (L : Cond) (hL : ∀ (args : Array Value) (s t : State), L.after args s (.returned (some (.int 1))) t = true) :
    ArmFor flags0 classFile x code maxLocals ret World_1 tables_1 room_1 Calls_1 rest_1 Pre_1
      (fun tb e a s o t => postC L tb e a s o t ∧ Framed s o t (fieldLocs frame_1_writes a s ++ arrayLocs frame_1_arrays a s ++ staticLocs frame_1_statics s) 600000 7302250) := by
  intro l _ _ _ p e ha hc hk s m args below hf hfit hheap happ hpre
  obtain ⟨k, o, h1, h2, h3, rfl, hF⟩ := lw_comes l p e ha hc hk s m args below hf hfit hheap happ hpre
  exact ⟨k, _, h1, h2, h3, hL args s _, lw_frame hF⟩
theorem i_vc : Claimed_1_1 ∧ Claimed_1_2 := ⟨lw_limb limb_1_1 (fun args s t => by simp [limb_1_1, Cond.after, Cond.holds, Cond.value]), lw_limb limb_1_2 (fun args s t => Cond.after_iff.mpr (by
  first | (rw [show limb_1_2 = Cond.eq .result (.int 1) from rfl, Cond.eq_ints (x := 1) (y := 1) rfl rfl]; simp; done) | (simp [limb_1_2, Cond.value, Term.eval]; done)))⟩
