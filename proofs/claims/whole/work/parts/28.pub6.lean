/-! bits of longs; the reader's take; way, sky, feed -/
theorem bt_nI {n i : Nat} (hi : i < 32) : bt (nI n) i = n.testBit i := by
  show (BitVec.ofNat 32 n).getLsbD i = _
  rw [BitVec.getLsbD_ofNat, decide_eq_true hi, Bool.true_and]
theorem bt_l {z : Int64} {i : Nat} (hi : i < 32) : bt z.toInt32 i = z.toBitVec.getLsbD i := by
  unfold bt
  rw [Int64.toBitVec_toInt32, BitVec.getLsbD_signExtend]
  simp [hi, show i < 64 by omega]
theorem su_l : ∀ n, n < 64 → (((nI n).toInt64.toUInt64 &&& Int64.toUInt64 63).toBitVec % 64).toNat = n := by decide +kernel
theorem ss_l : ∀ n, n < 64 → (((nI n).toInt64 &&& 63).toBitVec.smod 64).toNat = n := by decide +kernel
theorem l_ushr {n : Nat} (hn : n < 64) (x : Int64) (i : Nat) : ((x.toUInt64 >>> ((nI n).toInt64.toUInt64 &&& Int64.toUInt64 63)).toInt64).toBitVec.getLsbD i = x.toBitVec.getLsbD (n + i) := by
  show (x.toUInt64 >>> ((nI n).toInt64.toUInt64 &&& Int64.toUInt64 63)).toBitVec.getLsbD i = _
  rw [UInt64.toBitVec_shiftRight]
  show (x.toBitVec >>> (((nI n).toInt64.toUInt64 &&& Int64.toUInt64 63).toBitVec % 64).toNat).getLsbD i = _
  rw [su_l n hn, BitVec.getLsbD_ushiftRight]
theorem l_sshr {n : Nat} (hn : n < 64) (x : Int64) {i : Nat} (hi : n + i < 64) : (x >>> ((nI n).toInt64 &&& 63)).toBitVec.getLsbD i = x.toBitVec.getLsbD (n + i) := by
  rw [Int64.toBitVec_shiftRight]
  show (x.toBitVec.sshiftRight (((nI n).toInt64 &&& 63).toBitVec.smod 64).toNat).getLsbD i = _
  rw [ss_l n hn, BitVec.getLsbD_sshiftRight]
  simp [hi, show ¬ 64 ≤ i by omega]
theorem wb_bt (x : Int64) (s m i : Nat) (hi : i < 32) : bt (nI (x.toBitVec.toNat / 2 ^ s % 2 ^ m)) i = (decide (i < m) && x.toBitVec.getLsbD (s + i)) := by
  rw [bt_nI hi, Nat.testBit_mod_two_pow, Nat.testBit_div_two_pow, Nat.add_comm i s]
  rfl
theorem b_c3 : ∀ i, i < 32 → bt (nI 3) i = decide (i < 2) := by decide +kernel
theorem l_c3 : ∀ i, i < 32 → (3 : Int64).toBitVec.getLsbD i = decide (i < 2) := by decide +kernel
theorem l_c255 : ∀ i, i < 32 → (255 : Int64).toBitVec.getLsbD i = decide (i < 8) := by decide +kernel
theorem u_wb2 (x : Int64) {k : Nat} (hk : k < 24) : ((x.toUInt64 >>> ((nI 2 * nI k).toInt64.toUInt64 &&& Int64.toUInt64 63)).toInt64).toInt32 &&& nI 3 = nI (wb2 x k) := by
  rw [pk_mul]
  refine b_ext (fun i hi => ?_)
  rw [b_and, bt_l hi, l_ushr (by omega), b_c3 i hi]
  show _ = bt (nI (x.toBitVec.toNat / 2 ^ (2 * k) % 2 ^ 2)) i
  rw [wb_bt x _ _ i hi, Bool.and_comm]
theorem u_wb8 (x : Int64) {k : Nat} (hk : k < 8) : ((x.toUInt64 >>> ((nI 8 * nI k).toInt64.toUInt64 &&& Int64.toUInt64 63)).toInt64).toInt32 &&& nI 255 = nI (wb8 x k) := by
  rw [pk_mul]
  refine b_ext (fun i hi => ?_)
  rw [b_and, bt_l hi, l_ushr (by omega), b_c255 i]
  show _ = bt (nI (x.toBitVec.toNat / 2 ^ (8 * k) % 2 ^ 8)) i
  rw [wb_bt x _ _ i hi, Bool.and_comm]
theorem s_wb2 (x : Int64) {k : Nat} (hk : k < 24) : ((x >>> ((nI 2 * nI k).toInt64 &&& 63)) &&& 3).toInt32 = nI (wb2 x k) := by
  rw [pk_mul]
  refine b_ext (fun i hi => ?_)
  rw [bt_l hi, Int64.toBitVec_and, BitVec.getLsbD_and, l_c3 i hi]
  show _ = bt (nI (x.toBitVec.toNat / 2 ^ (2 * k) % 2 ^ 2)) i
  rw [wb_bt x _ _ i hi]
  by_cases h : i < 2
  · rw [l_sshr (by omega) x (by omega), Bool.and_comm]
  · simp [h]
theorem s_wb8 (x : Int64) {k : Nat} (hk : k < 8) : ((x >>> ((nI 8 * nI k).toInt64 &&& 63)) &&& 255).toInt32 = nI (wb8 x k) := by
  rw [pk_mul]
  refine b_ext (fun i hi => ?_)
  rw [bt_l hi, Int64.toBitVec_and, BitVec.getLsbD_and, l_c255 i hi]
  show _ = bt (nI (x.toBitVec.toNat / 2 ^ (8 * k) % 2 ^ 8)) i
  rw [wb_bt x _ _ i hi]
  by_cases h : i < 8
  · rw [l_sshr (by omega) x (by omega), Bool.and_comm]
  · simp [h]
theorem wb2_lt (x : Int64) (k : Nat) : wb2 x k < 4 := Nat.mod_lt _ (by omega)
-- the reader
def rdr (f : Nat → Int32) (len pl : Int32) : zS := [.inr (.inr (1, [.ref 1, .int len, .int pl])), .inl (0, 24, f)]
def setD (Y : zY) (f : Nat → Int32) (len pl : Int32) : zY := setN (setN (setY Y 1 f) 0 len) 1 pl
theorem yam_rdr (Y : zY) : ∃ hd : zS, hd.length = 50 ∧ (∀ f len pl, yamW 53 (setD Y f len pl) = hd ++ ([.inr (.inr (1, [.ref 51, .int len, .int pl])), .inl (0, 24, f)] ++ [.inl (0, 7, Y.2.1 2)])) ∧ yamW 53 Y = hd ++ ([.inr (.inr (1, [.ref 51, .int (Y.2.2 0), .int (Y.2.2 1)])), .inl (0, 24, Y.2.1 1)] ++ [.inl (0, 7, Y.2.1 2)]) :=
  ⟨.inr (.inr (3, [.ref 1, .ref 13, .ref 25, .ref 37, .ref 49, .ref 50, .ref 52, .int (Y.2.2 2)])) :: (isl 1 53 (Y.1 0) ++ (isl 13 53 (Y.1 1) ++ (isl 25 53 (Y.1 2) ++ (isl 37 53 (Y.1 3) ++ [.inl (0, 8, Y.2.1 0)])))), rfl, fun _ _ _ => rfl, rfl⟩
theorem ysbR {Y : zY} (T : zS) : zsb (fun i => i + 50) (yamW 53 Y ++ T) (rdr (Y.2.1 1) (Y.2.2 0) (Y.2.2 1)) := ⟨fun k x hx => by
  match k, hx with
  | 0, hx => cases hx; rfl
  | 1, hx => cases hx; rfl
  | k + 2, hx => simp [rdr] at hx, fun i j _ _ h => by
  have h : i + 50 = j + 50 := h
  omega⟩
theorem yplR {Y : zY} (T : zS) (f : Nat → Int32) (len pl : Int32) : zpl (fun i => i + 50) (yamW 53 Y ++ T) 2 (rdr f len pl) (yamW 53 (setD Y f len pl) ++ T) := ⟨by simp [yamW_len], fun k x hx => by
  match k, hx with
  | 0, hx => cases hx; rfl
  | 1, hx => cases hx; rfl
  | k + 2, hx => simp [rdr] at hx, fun i hi => by
  have h1 : i ≠ 50 := fun e => hi 0 (by omega) (by show 0 + 50 = i; omega)
  have h2 : i ≠ 51 := fun e => hi 1 (by omega) (by show 1 + 50 = i; omega)
  obtain ⟨hd, hl, ha, hb⟩ := yam_rdr Y
  rw [ha, hb]
  simp only [List.append_assoc]
  rcases Nat.lt_or_ge i 50 with h | h
  · rw [List.getElem?_append_left (by omega), List.getElem?_append_left (by omega)]
  · exact app_out rfl (by show hd.length + 2 ≤ i; omega)⟩
theorem mn_lt {x y z : Int32} : (if y < x then y else x) < z ↔ x < z ∨ y < z := by
  by_cases h : y < x
  · rw [if_pos h]; exact ⟨Or.inr, fun q => q.elim (fun q => Int32.lt_trans h q) id⟩
  · rw [if_neg h]; exact ⟨Or.inl, fun q => q.elim id (fun q => Int32.lt_of_le_of_lt (Int32.not_lt.mp h) q)⟩
theorem mx_lt {x y z : Int32} : z < (if x < y then y else x) ↔ z < x ∨ z < y := by
  by_cases h : x < y
  · rw [if_pos h]; exact ⟨Or.inr, fun q => q.elim (fun q => Int32.lt_trans q h) id⟩
  · rw [if_neg h]; exact ⟨Or.inl, fun q => q.elim id (fun q => Int32.lt_of_lt_of_le q (Int32.not_lt.mp h))⟩
section ZMM
variable {p : Program} {l : Launch} {e : Env} {s : State} {m : MethodId} {args : Array Value} {below : List Frame} {meth : Method} {c : Code}
variable {cc : ByteArray} {nL : Nat} {ret : Option FieldType} {D : va_G} {C : zC} {A : Nat → Prop} {kc ks d : Nat} {q : Nat → Nat} {Q : State → Prop} {tab : List (Nat × Instr)}
theorem zop_min (F : zFx p s m args meth c cc nL ret RX3 D C) (hO : zokC cc tab = true) {pc : Nat} {ws : zS} {lv : zL} {x y : Int32} {rest : List Value} (hd : zfd tab pc = some (.invokestatic 39)) (hrest : (rest.map fun v => v.category).sum ≤ 8) (hd0 : 0 < d)
    (kk : zAt p l e (zR d) s m args below meth c D C A nL Q 0 0 q (pc + 3) ws lv (.int (if y < x then y else x) :: rest)) : zAt p l e (zR d) s m args below meth c D C A nL Q 0 0 q pc ws lv (.int y :: .int x :: rest) := by
  obtain ⟨hx, hb, hml, hr, ho, hts, hK, hlocks⟩ := F
  obtain ⟨⟨l0, hdec, hl0⟩, -⟩ := zokC_at hO hd
  obtain rfl : l0 = 3 := hl0.resolve_left (by simp [zisw])
  intro H locs ls hP hD hS hll
  obtain ⟨⟨w1, w2, w3, w4⟩, -⟩ := vX3_39
  refine va_mmin (R := zR d) (rest := rest.map (zv q)) hx hb (hml.trans hll.2.1.symm) ho (hts _ w1) (hts _ w2) (hts _ w3) (hts _ w4) (show 1 ≤ d from hd0) ?_ (Nat.le_refl 0) (Nat.le_refl 0) hdec ?_
  · have e1 : ((rest.map (zv q)).map fun v => v.category) = rest.map fun v => v.category := by
      rw [List.map_map]; exact List.map_congr_left (fun v _ => zv_cat q v)
    rw [e1]
    show _ + 13 ≤ 40 * d
    omega
  · exact kk H locs ls hP hD hS hll
theorem zop_max (F : zFx p s m args meth c cc nL ret RX3 D C) (hO : zokC cc tab = true) {pc : Nat} {ws : zS} {lv : zL} {x y : Int32} {rest : List Value} (hd : zfd tab pc = some (.invokestatic 45)) (hrest : (rest.map fun v => v.category).sum ≤ 8) (hd0 : 0 < d)
    (kk : zAt p l e (zR d) s m args below meth c D C A nL Q 0 0 q (pc + 3) ws lv (.int (if x < y then y else x) :: rest)) : zAt p l e (zR d) s m args below meth c D C A nL Q 0 0 q pc ws lv (.int y :: .int x :: rest) := by
  obtain ⟨hx, hb, hml, hr, ho, hts, hK, hlocks⟩ := F
  obtain ⟨⟨l0, hdec, hl0⟩, -⟩ := zokC_at hO hd
  obtain rfl : l0 = 3 := hl0.resolve_left (by simp [zisw])
  intro H locs ls hP hD hS hll
  obtain ⟨⟨w1, w2, w3, w4⟩, -⟩ := vX3_45
  refine va_mmax (R := zR d) (rest := rest.map (zv q)) hx hb (hml.trans hll.2.1.symm) ho (hts _ w1) (hts _ w2) (hts _ w3) (hts _ w4) (show 1 ≤ d from hd0) ?_ (Nat.le_refl 0) (Nat.le_refl 0) hdec ?_
  · have e1 : ((rest.map (zv q)).map fun v => v.category) = rest.map fun v => v.category := by
      rw [List.map_map]; exact List.map_congr_left (fun v _ => zv_cat q v)
    rw [e1]
    show _ + 13 ≤ 40 * d
    omega
  · exact kk H locs ls hP hD hS hll
end ZMM
theorem zFunW_of {l : Launch} {D : va_G} {C : zC} {d : Nat} {av : List Value} {wc : zS} {Po : zS → Option Value → Prop} (hlen : (zen av).length ≤ 7)
    (body : ∀ Z : zP, zOps l D C RX3 kX3_way (zfl FX3) (zkI IX3) (zkJ JX3) (d + 1) (fun ws rv => zRt (some .int) rv ∧ ws.length = wc.length ∧ Po ws rv) Z →
      (∀ (pc : Nat) (ws : zS) (lv : zL) (x y : Int32) (rest : List Value), zfd kX3_way pc = some (.invokestatic 39) → (rest.map fun v => v.category).sum ≤ 8 → Z (pc + 3) ws lv (.int (if y < x then y else x) :: rest) → Z pc ws lv (.int y :: .int x :: rest)) →
      (∀ (pc : Nat) (ws : zS) (lv : zL) (x y : Int32) (rest : List Value), zfd kX3_way pc = some (.invokestatic 45) → (rest.map fun v => v.category).sum ≤ 8 → Z (pc + 3) ws lv (.int (if x < y then y else x) :: rest) → Z pc ws lv (.int y :: .int x :: rest)) → Z 0 wc (zel 7 av) []) : zFun l D C yX3_way cX3_way 7 (some .int) (zR (d + 1)) av wc Po :=
  zMet_of (by decide) hlen (fun p e s m args below meth c q A F N _ hA => body _ (zops_of F N hA oX3_way tbX3) (fun pc ws lv x y rest h1 h2 kk => zop_min F oX3_way h1 h2 (Nat.succ_pos d) kk) (fun pc ws lv x y rest h1 h2 kk => zop_max F oX3_way h1 h2 (Nat.succ_pos d) kk))
section PUB6
variable {l : Launch} {D : va_G} {C : zC} {Y : zY} {RL : List zRu} {S : zF} {c : Nat}
set_option maxRecDepth 10000 in
theorem c_take {f : Nat → Int32} {n : Nat} {pl x : Int32} (hn : n < 24) : zFun l D C yX1_take cX1_take 2 none (zR 0) [.ref 0, .int x] (rdr f (nI n) pl) (fun w rv => w = rdr (upd f n x) (nI (n + 1)) pl ∧ rv = none) := by
  refine zFun_of (by decide) oX1_take tbX1 (Nat.le_of_ble_eq_true rfl) (fun Z o => ?_)
  refine o.run 100 [] ⟨fun q => absurd q (by show ¬ nI 24 ≤ nI n; exact nI_ge (by omega) (by omega)), fun _ => ⟨n, rfl, by omega, rfl, rfl, ?_, rfl⟩⟩
  rw [← nI_1 n]; rfl
theorem okT_way {t : zT} {c : Nat} {x0 x1 x2 x3 : Int32} (h : okT t c) (hW : t.1 0 < 6) (h0 : ∃ k, k < 100 ∧ x0 = nI k) (h1 : ∃ k, k < 100 ∧ x1 = nI k) (h2 : ∃ k, k < 100 ∧ x2 = nI k) (h3 : ∃ k, k < 100 ∧ x3 = nI k) : okT (tN (tB t (upd (upd (upd (upd t.2.1 (t.1 0 * 4) x0) (t.1 0 * 4 + 1) x1) (t.1 0 * 4 + 2) x2) (t.1 0 * 4 + 3) x3)) 0 (t.1 0 + 1)) c := by
  obtain ⟨⟨c0, c1, c2, c3, c4, c5, c6⟩, d1, d2, d3, d4⟩ := h
  refine ⟨⟨by show t.1 0 + 1 ≤ 6; omega, c1, c2, c3, c4, c5, c6⟩, fun j => ?_, d2, fun p hp => ⟨(d3 p hp).1, Nat.lt_succ_of_lt (d3 p hp).2⟩, d4⟩
  show ∃ k, k < 100 ∧ upd (upd (upd (upd t.2.1 (t.1 0 * 4) x0) (t.1 0 * 4 + 1) x1) (t.1 0 * 4 + 2) x2) (t.1 0 * 4 + 3) x3 j = nI k
  unfold upd
  split
  · exact h3
  · split
    · exact h2
    · split
      · exact h1
      · split
        · exact h0
        · exact d1 j
theorem b99 {x : Int32} (h0 : ¬ x < 0) (h1 : ¬ nI 99 < x) : ∃ k, k < 100 ∧ x = nI k := by
  obtain ⟨k, hk, rfl⟩ := nI_of h0
  rw [nI_ltI (by omega) (by omega)] at h1
  exact ⟨k, by omega, rfl⟩
set_option maxRecDepth 10000 in
theorem y_way (h : repY RL Y S c) {x0 x1 x2 x3 : Int32} : zPub l D C yX3_way cX3_way 7 1 [.int x0, .int x1, .int x2, .int x3] Y RL c (sWay S x0 x1 x2 x3) := by
  have hI := h.2.1.1
  have hT := h.2.1.2
  have hWb : S.1.1 0 ≤ 6 := hT.1.1
  have hnb : S.1.1 3 ≤ 8 := hT.1.2.2.2.2.1
  have hrb : S.1.1 2 ≤ 10 := hT.1.2.2.2.1
  have e0 : (Y.1 0).1 0 = nI (S.1.1 0) := hI.1.1
  have e3 : (Y.1 0).1 3 = nI (S.1.1 2) := hI.1.2.2.2.1
  have e4 : (Y.1 0).1 4 = nI (S.1.1 3) := hI.1.2.2.2.2.1
  have e5 : (Y.1 0).1 5 = nI (S.1.1 4) := hI.1.2.2.2.2.2.1
  have hmo := rep_mono h (Nat.le_succ c)
  refine zFunW_of (Nat.le_of_ble_eq_true rfl) (fun Z o mn mx => ?_)
  let mi : Int32 → Int32 → Int32 := fun x y => if y < x then y else x
  let ma : Int32 → Int32 → Int32 := fun x y => if x < y then y else x
  have hmi : ∀ z, mi (mi x0 x1) (mi x2 x3) < z ↔ x0 < z ∨ x1 < z ∨ x2 < z ∨ x3 < z := fun z => by
    show (if _ < _ then _ else _) < z ↔ _
    rw [mn_lt, mn_lt, mn_lt, or_assoc]
  have hma : ∀ z, z < ma (ma x0 x1) (ma x2 x3) ↔ z < x0 ∨ z < x1 ∨ z < x2 ∨ z < x3 := fun z => by
    show z < (if _ < _ then _ else _) ↔ _
    rw [mx_lt, mx_lt, mx_lt, or_assoc]
  refine o.run 100 [] ?_
  show Z _ _ _ _
  refine mn _ _ _ _ _ [] rfl (by decide) (o.run 100 [] ?_)
  show Z _ _ _ _
  refine mn _ _ _ _ _ [.int _] rfl (by exact Nat.le_of_ble_eq_true rfl) ?_
  refine mn _ _ _ _ _ [] rfl (by decide) (o.run 100 [] ?_)
  show Z _ _ _ _
  refine mx _ _ _ _ _ [] rfl (by decide) (o.run 100 [] ?_)
  show Z _ _ _ _
  refine mx _ _ _ _ _ [.int _] rfl (by exact Nat.le_of_ble_eq_true rfl) ?_
  refine mx _ _ _ _ _ [] rfl (by decide) ?_
  show Z 30 (yamW 53 Y ++ pol 53 RL) [some (.ref 0), some (.int x0), some (.int x1), some (.int x2), some (.int x3), some (.int (mi (mi x0 x1) (mi x2 x3))), none] [.int (ma (ma x0 x1) (ma x2 x3))]
  generalize mi (mi x0 x1) (mi x2 x3) = lo at hmi ⊢
  generalize ma (ma x0 x1) (ma x2 x3) = hi at hma ⊢
  refine o.run 100 [44] ⟨fun q => ?_, fun q => ?_⟩
  · have h4 : ¬ (x0 < 0 ∨ x1 < 0 ∨ x2 < 0 ∨ x3 < 0) := fun z => Int32.not_le.mpr ((hmi 0).mpr z) q
    have six : (nI 99 < x0 ∨ nI 99 < x1 ∨ nI 99 < x2 ∨ nI 99 < x3 ∨ S.1.1 0 = 6) → Z 63 (yamW 53 Y ++ pol 53 RL) [some (.ref 0), some (.int x0), some (.int x1), some (.int x2), some (.int x3), some (.int lo), some (.int hi)] [] := fun h6 => by
      refine o.run 100 [] ?_
      show Z _ _ _ _
      refine o.cV vX3_48 (c_refuse (k := 6) (by omega) (by omega)) (fun w' rv _ hpo => ?_)
      obtain ⟨rfl, rfl⟩ := hpo
      exact o.run 100 [] (pret (A' := sRf S 6) (by rw [sWay, if_neg h4, if_pos h6]) _ (rep_rf h 6))
    refine o.run 100 [63] ⟨fun q2 => six ?_, fun q2 => ⟨fun q3 => ?_, fun q3 => six ?_⟩⟩
    · have q2 : nI 99 < hi := q2
      rw [hma] at q2
      rcases q2 with z | z | z | z
      · exact Or.inl z
      · exact Or.inr (Or.inl z)
      · exact Or.inr (Or.inr (Or.inl z))
      · exact Or.inr (Or.inr (Or.inr (Or.inl z)))
    · have q2 : ¬ nI 99 < hi := q2
      rw [hma] at q2
      have q3 : (Y.1 0).1 0 < nI 6 := q3
      rw [e0, nI_ltI (by omega) (by omega)] at q3
      show Z _ _ _ _
      refine o.yA 0 (Q := fun I rv => I = setS (setA (Y.1 0) 0 (upd (upd (upd (upd ((Y.1 0).2.1 0) (S.1.1 0 * 4) x0) (S.1.1 0 * 4 + 1) x1) (S.1.1 0 * 4 + 2) x2) (S.1.1 0 * 4 + 3) x3)) 0 (nI (S.1.1 0 + 1)) ∧ rv = some (.int (nI (S.1.1 0)))) (by omega) vX3_56 (c_addWay (I := Y.1 0) (W := S.1.1 0) q3 e0) (fun w rv hpo => ⟨_, hpo.1, rfl, hpo.2⟩) (fun I rv hq => ?_)
      obtain ⟨rfl, rfl⟩ := hq
      refine o.run 100 [] (pret (A' := (nI (S.1.1 0), sW S (tN (tB S.1 (upd (upd (upd (upd S.1.2.1 (S.1.1 0 * 4) x0) (S.1.1 0 * 4 + 1) x1) (S.1.1 0 * 4 + 2) x2) (S.1.1 0 * 4 + 3) x3)) 0 (S.1.1 0 + 1)))) ?_ _ ?_)
      · rw [sWay, if_neg h4, if_neg (fun z => by
          rcases z with z | z | z | z | z
          · exact q2 (Or.inl z)
          · exact q2 (Or.inr (Or.inl z))
          · exact q2 (Or.inr (Or.inr (Or.inl z)))
          · exact q2 (Or.inr (Or.inr (Or.inr z)))
          · omega)]
      · refine repY_J h (repI_set hI rfl rfl rfl ⟨rfl, hI.1.2⟩ ⟨?_, hI.2.1.2⟩) ?_ (Nat.le_succ c)
        · show upd (upd (upd (upd ((Y.1 0).2.1 0) (S.1.1 0 * 4) x0) (S.1.1 0 * 4 + 1) x1) (S.1.1 0 * 4 + 2) x2) (S.1.1 0 * 4 + 3) x3 = upd (upd (upd (upd S.1.2.1 (S.1.1 0 * 4) x0) (S.1.1 0 * 4 + 1) x1) (S.1.1 0 * 4 + 2) x2) (S.1.1 0 * 4 + 3) x3
          rw [hI.2.1.1]
        · exact okT_way (okT_mono hT (Nat.le_succ c)) q3 (b99 (fun z => h4 (Or.inl z)) (fun z => q2 (Or.inl z))) (b99 (fun z => h4 (Or.inr (Or.inl z))) (fun z => q2 (Or.inr (Or.inl z)))) (b99 (fun z => h4 (Or.inr (Or.inr (Or.inl z)))) (fun z => q2 (Or.inr (Or.inr (Or.inl z))))) (b99 (fun z => h4 (Or.inr (Or.inr (Or.inr z)))) (fun z => q2 (Or.inr (Or.inr (Or.inr z)))))
    · have q3 : ¬ (Y.1 0).1 0 < nI 6 := q3
      rw [e0, nI_ltI (by omega) (by omega)] at q3
      exact Or.inr (Or.inr (Or.inr (Or.inr (by omega))))
  · have h4 := (hmi 0).mp (Int32.not_le.mp q)
    refine o.run 100 [] ?_
    show Z _ _ _ _
    refine o.cV vX3_48 (c_refuse (k := 4) (by omega) (by omega)) (fun w' rv _ hpo => ?_)
    obtain ⟨rfl, rfl⟩ := hpo
    exact o.run 100 [] (pret (A' := sRf S 4) (by rw [sWay, if_pos h4]) _ (rep_rf h 4))

theorem mixN_upd (k : Nat) (g f : Nat → Nat) : upd (fun j => nI (mixN k g f j)) k (nI (g k)) = (fun j => nI (mixN (k + 1) g f j)) := by
  funext j
  unfold upd mixN
  by_cases h : j = k
  · subst h
    rw [if_pos rfl, if_pos (Nat.lt_succ_self _)]
  · rw [if_neg h]
    show nI (if j < k then g j else f j) = _
    by_cases h2 : j < k
    · rw [if_pos h2, if_pos (by omega)]
    · rw [if_neg h2, if_neg (by omega)]
set_option maxRecDepth 10000 in
theorem y_sky (h : repY RL Y S c) {n : Int32} {x : Int64} : zPub l D C yX3_sky cX3_sky 7 1 [.int n, .long x] Y RL c (sSky S n x) := by
  have hI := h.2.1.1
  have hT := h.2.1.2
  have hWb : S.1.1 0 ≤ 6 := hT.1.1
  have hnb : S.1.1 3 ≤ 8 := hT.1.2.2.2.2.1
  have hrb : S.1.1 2 ≤ 10 := hT.1.2.2.2.1
  have e0 : (Y.1 0).1 0 = nI (S.1.1 0) := hI.1.1
  have e3 : (Y.1 0).1 3 = nI (S.1.1 2) := hI.1.2.2.2.1
  have e4 : (Y.1 0).1 4 = nI (S.1.1 3) := hI.1.2.2.2.2.1
  have e5 : (Y.1 0).1 5 = nI (S.1.1 4) := hI.1.2.2.2.2.2.1
  have hmo := rep_mono h (Nat.le_succ c)
  refine zFun_of (by decide) oX3_sky tbX3 (Nat.le_of_ble_eq_true rfl) (fun Z o => ?_)
  refine o.run 100 [] ?_
  show Z _ _ _ _
  refine o.cS vX3_67 (c_whyOutside (x := n) (lo := nI 1) (hi := nI 24)) (fun rv hpo => ?_)
  subst hpo
  by_cases h4 : n < nI 1
  · have e : whO n (nI 1) (nI 24) = -(nI 4) := by rw [whO, if_pos h4]; rfl
    rw [e]
    refine o.run 100 [] ⟨fun q => absurd q (by decide), fun _ => ?_⟩
    show Z _ _ _ _
    refine o.cV vX3_48 (c_refuse (k := 4) (by omega) (by omega)) (fun w' rv _ hpo => ?_)
    obtain ⟨rfl, rfl⟩ := hpo
    exact o.run 100 [] (pret (A' := sRf S 4) (by rw [sSky, if_pos h4]) _ (rep_rf h 4))
  by_cases h6 : nI 24 < n
  · have e : whO n (nI 1) (nI 24) = -(nI 6) := by rw [whO, if_neg h4, if_pos h6]; rfl
    rw [e]
    refine o.run 100 [] ⟨fun q => absurd q (by decide), fun _ => ?_⟩
    show Z _ _ _ _
    refine o.cV vX3_48 (c_refuse (k := 6) (by omega) (by omega)) (fun w' rv _ hpo => ?_)
    obtain ⟨rfl, rfl⟩ := hpo
    exact o.run 100 [] (pret (A' := sRf S 6) (by rw [sSky, if_neg h4, if_pos h6]) _ (rep_rf h 6))
  have e : whO n (nI 1) (nI 24) = nI 0 := by rw [whO, if_neg h4, if_neg h6]
  rw [e]
  have h0 : ¬ n < 0 := fun z => h4 (Int32.lt_trans z (by decide))
  obtain ⟨m, hm, rfl⟩ := nI_of h0
  have g4 := h4
  have g6 := h6
  rw [nI_ltI (by omega) (by omega)] at g4 g6
  have hcl : cl (nI m) = m := nI_clamp (by omega)
  let J : Nat → zI := fun k => setA (Y.1 0) 1 (fun j => nI (mixN k (wb2 x) (S.1.2.2.1 0) j))
  have loop : ∀ j k, k + j = m → Z 33 (yamW 53 (setJ Y 0 (J k)) ++ pol 53 RL) [some (.ref 0), some (.int (nI m)), some (.long x), none, some (.int (nI 0)), some (.int ((Y.1 0).1 1)), some (.int (nI k))] [] := by
    intro j
    induction j with
    | zero =>
      intro k hk
      obtain rfl : k = m := by omega
      refine o.run 100 [] ⟨fun _ => pret (Y' := setJ Y 0 (setS (J k) 1 (nI k))) (A' := ((Y.1 0).1 1, sW S (tN (tR S.1 0 (mixN k (wb2 x) (S.1.2.2.1 0))) 1 k))) ?_ ?_, fun q => absurd (nI_le (Nat.le_refl _) (by omega)) q⟩
      · rw [sSky, if_neg h4, if_neg h6, hcl, hI.1.2.1]
      · refine repY_J h (repI_set hI rfl rfl rfl ⟨hI.1.1, rfl, hI.1.2.2⟩ ⟨hI.2.1.1, rfl, hI.2.1.2.2⟩) ?_ (Nat.le_succ c)
        obtain ⟨⟨c0, c1, c2, c3, c4, c5, c6⟩, d1, d2, d3, d4⟩ := okT_mono hT (Nat.le_succ c)
        refine ⟨⟨c0, by show 0 < k; omega, by show k ≤ 24; omega, c3, c4, c5, c6⟩, d1, fun j => ⟨?_, (d2 j).2⟩, d3, d4⟩
        show mixN k (wb2 x) (S.1.2.2.1 0) j < 4
        unfold mixN
        split
        · exact wb2_lt x j
        · exact (d2 j).1
    | succ j ih =>
      intro k hk
      refine o.run 100 [33] ⟨fun q => absurd q (nI_ge (by omega) (by omega)), fun _ => ⟨k, rfl, by omega, ?_⟩⟩
      have := ih (k + 1) (by omega)
      have eJ : J (k + 1) = setA (Y.1 0) 1 (upd (fun j => nI (mixN k (wb2 x) (S.1.2.2.1 0) j)) k (((x.toUInt64 >>> ((nI 2 * nI k).toInt64.toUInt64 &&& Int64.toUInt64 63)).toInt64).toInt32 &&& nI 3)) := by
        rw [u_wb2 x (by omega), mixN_upd]
      rw [eJ, ← nI_1 k] at this
      exact this
  refine o.run 100 [33] ⟨fun _ => ?_, fun q => absurd nI_0 q⟩
  have := loop m 0 (by omega)
  have eJ : J 0 = setA (Y.1 0) 1 ((Y.1 0).2.1 1) := by
    show setA (Y.1 0) 1 (fun j => nI (mixN 0 (wb2 x) (S.1.2.2.1 0) j)) = _
    rw [hI.2.1.2.1]; rfl
  rw [eJ] at this
  exact this

set_option maxRecDepth 10000 in
theorem y_feed (h : repY RL Y S c) {n : Int32} {x : Int64} : zPub l D C yX3_feed cX3_feed 6 1 [.int n, .long x] Y RL c (sFeed S n x) := by
  have hI := h.2.1.1
  have hT := h.2.1.2
  have hWb : S.1.1 0 ≤ 6 := hT.1.1
  have hnb : S.1.1 3 ≤ 8 := hT.1.2.2.2.2.1
  have hrb : S.1.1 2 ≤ 10 := hT.1.2.2.2.1
  have e0 : (Y.1 0).1 0 = nI (S.1.1 0) := hI.1.1
  have e3 : (Y.1 0).1 3 = nI (S.1.1 2) := hI.1.2.2.2.1
  have e4 : (Y.1 0).1 4 = nI (S.1.1 3) := hI.1.2.2.2.2.1
  have e5 : (Y.1 0).1 5 = nI (S.1.1 4) := hI.1.2.2.2.2.2.1
  have hmo := rep_mono h (Nat.le_succ c)
  obtain ⟨t0, t1, t2⟩ := h.2.2.2.1
  refine zFun_of (by decide) oX3_feed tbX3 (Nat.le_of_ble_eq_true rfl) (fun Z o => ?_)
  refine o.run 100 [] ?_
  show Z _ _ _ _
  refine o.cS vX3_67 (c_whyOutside (x := n) (lo := nI 1) (hi := nI 8)) (fun rv hpo => ?_)
  subst hpo
  by_cases h4 : n < nI 1
  · have e : whO n (nI 1) (nI 8) = -(nI 4) := by rw [whO, if_pos h4]; rfl
    rw [e]
    refine o.run 100 [] ⟨fun _ => ⟨fun q => absurd q (by decide), fun _ => ?_⟩, fun q => absurd q (by decide)⟩
    show Z _ _ _ _
    refine o.cV vX3_48 (c_refuse (k := 4) (by omega) (by omega)) (fun w' rv _ hpo => ?_)
    obtain ⟨rfl, rfl⟩ := hpo
    exact o.run 100 [] (pret (A' := sRf S 4) (by rw [sFeed, if_pos h4]) _ (rep_rf h 4))
  by_cases h6 : nI 8 < n
  · have e : whO n (nI 1) (nI 8) = -(nI 6) := by rw [whO, if_neg h4, if_pos h6]; rfl
    rw [e]
    refine o.run 100 [] ⟨fun _ => ⟨fun q => absurd q (by decide), fun _ => ?_⟩, fun q => absurd q (by decide)⟩
    show Z _ _ _ _
    refine o.cV vX3_48 (c_refuse (k := 6) (by omega) (by omega)) (fun w' rv _ hpo => ?_)
    obtain ⟨rfl, rfl⟩ := hpo
    exact o.run 100 [] (pret (A' := sRf S 6) (by rw [sFeed, if_neg h4, if_pos h6]) _ (rep_rf h 6))
  have e : whO n (nI 1) (nI 8) = nI 0 := by rw [whO, if_neg h4, if_neg h6]
  rw [e]
  have h0 : ¬ n < 0 := fun z => h4 (Int32.lt_trans z (by decide))
  obtain ⟨m, hm, rfl⟩ := nI_of h0
  have g4 := h4
  have g6 := h6
  rw [nI_ltI (by omega) (by omega)] at g4 g6
  have hcl : cl (nI m) = m := nI_clamp (by omega)
  have e24 : nI 24 - nI m = nI (24 - m) := pk_sub (by omega)
  refine o.run 100 [44] ⟨fun q => absurd nI_0 q, fun _ => ⟨fun q => ⟨fun _ => ?_, fun q => absurd nI_0 q⟩, fun q => ⟨fun q => absurd q (by decide), fun _ => ?_⟩⟩⟩
  · have q : Y.2.2 0 ≤ nI 24 - nI m := q
    rw [e24, t0, nI_leI (by omega) (by omega)] at q
    let f : Nat → Nat → Int32 := fun k j => if S.2.2.1.1 ≤ j ∧ j < S.2.2.1.1 + k then nI (wb8 x (j - S.2.2.1.1)) else Y.2.1 1 j
    have loop : ∀ j k, k + j = m → Z 47 (yamW 53 (setD Y (f k) (nI (S.2.2.1.1 + k)) (Y.2.2 1)) ++ pol 53 RL) [some (.ref 0), some (.int (nI m)), some (.long x), none, some (.int (nI 0)), some (.int (nI k))] [] := by
      intro j
      induction j with
      | zero =>
        intro k hk
        obtain rfl : k = m := by omega
        refine o.run 100 [] ⟨fun _ => pret (Y' := setD Y (f k) (nI (S.2.2.1.1 + k)) (Y.2.2 1)) (A' := (nI (S.2.2.1.1 + k), (S.1, S.2.1, (S.2.2.1.1 + k, fun j => if j < S.2.2.1.1 then S.2.2.1.2 j else nI (wb8 x (j - S.2.2.1.1))), S.2.2.2))) ?_ ?_, fun q => absurd (nI_le (Nat.le_refl _) (by omega)) q⟩
        · rw [sFeed, if_neg h4, if_neg h6, hcl, if_neg (by omega)]
        · obtain ⟨k1, k2, k3, k4, k5⟩ := hmo
          refine ⟨k1, k2, k3, ⟨rfl, by show S.2.2.1.1 + k ≤ 24; omega, fun j hj => ?_⟩, k5⟩
          have hj : j < S.2.2.1.1 + k := hj
          show f k j = if j < S.2.2.1.1 then S.2.2.1.2 j else nI (wb8 x (j - S.2.2.1.1))
          show (if S.2.2.1.1 ≤ j ∧ j < S.2.2.1.1 + k then nI (wb8 x (j - S.2.2.1.1)) else Y.2.1 1 j) = _
          by_cases hjl : j < S.2.2.1.1
          · rw [if_neg (by omega), if_pos hjl, t2 j hjl]
          · rw [if_pos ⟨by omega, hj⟩, if_neg hjl]
      | succ j ih =>
        intro k hk
        refine o.run 100 [] ⟨fun q => absurd q (nI_ge (by omega) (by omega)), fun _ => ?_⟩
        have ev : ((x.toUInt64 >>> ((nI 8 * nI k).toInt64.toUInt64 &&& Int64.toUInt64 63)).toInt64).toInt32 &&& nI 255 = nI (wb8 x k) := u_wb8 x (by omega)
        show Z _ (yamW 53 (setD Y (f k) (nI (S.2.2.1.1 + k)) (Y.2.2 1)) ++ pol 53 RL) _ [.int (((x.toUInt64 >>> ((nI 8 * nI k).toInt64.toUInt64 &&& Int64.toUInt64 63)).toInt64).toInt32 &&& nI 255), .ref 50]
        rw [ev]
        refine o.cVs (b0 := 0) (As := [.int (nI (wb8 x k))]) (fun i => i + 50) vX3_93 (c_take (f := f k) (n := S.2.2.1.1 + k) (pl := Y.2.2 1) (x := nI (wb8 x k)) (by omega)) (ysbR (Y := setD Y (f k) (nI (S.2.2.1.1 + k)) (Y.2.2 1)) _) (fun w rv _ hpo => ?_)
        obtain ⟨rfl, rfl⟩ := hpo
        refine ⟨_, yplR _ _ _ _, ?_⟩
        refine o.run 100 [47] ?_
        have := ih (k + 1) (by omega)
        have ef : f (k + 1) = upd (f k) (S.2.2.1.1 + k) (nI (wb8 x k)) := by
          funext j
          show (if S.2.2.1.1 ≤ j ∧ j < S.2.2.1.1 + (k + 1) then nI (wb8 x (j - S.2.2.1.1)) else Y.2.1 1 j) = upd (f k) (S.2.2.1.1 + k) (nI (wb8 x k)) j
          unfold upd
          by_cases hj : j = S.2.2.1.1 + k
          · rw [if_pos hj, if_pos ⟨by omega, by omega⟩, hj, Nat.add_sub_cancel_left]
          · rw [if_neg hj]
            show _ = (if S.2.2.1.1 ≤ j ∧ j < S.2.2.1.1 + k then nI (wb8 x (j - S.2.2.1.1)) else Y.2.1 1 j)
            by_cases hj2 : S.2.2.1.1 ≤ j ∧ j < S.2.2.1.1 + k
            · rw [if_pos hj2, if_pos ⟨hj2.1, by omega⟩]
            · rw [if_neg hj2, if_neg (by omega)]
        rw [ef, ← nI_1 k] at this
        exact this
    refine o.run 100 [47] ?_
    have := loop m 0 (by omega)
    have ef : f 0 = Y.2.1 1 := by
      funext j
      show (if S.2.2.1.1 ≤ j ∧ j < S.2.2.1.1 + 0 then nI (wb8 x (j - S.2.2.1.1)) else Y.2.1 1 j) = _
      rw [if_neg (by omega)]
    rw [ef, Nat.add_zero, ← t0] at this
    exact this
  · have q : ¬ Y.2.2 0 ≤ nI 24 - nI m := q
    rw [e24, t0, nI_leI (by omega) (by omega)] at q
    show Z _ _ _ _
    refine o.cV vX3_48 (c_refuse (k := 6) (by omega) (by omega)) (fun w' rv _ hpo => ?_)
    obtain ⟨rfl, rfl⟩ := hpo
    exact o.run 100 [] (pret (A' := sRf S 6) (by rw [sFeed, if_neg h4, if_neg h6, hcl, if_pos (by omega)]) _ (rep_rf h 6))

end PUB6
