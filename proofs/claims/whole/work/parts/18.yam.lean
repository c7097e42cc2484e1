/-! the class's world: four islands (0 island, 1 taken, 2 parted, 3 mind), ownBrought, the reader with its text, refusals; calls on an island -/
/-- islands; rows (0 ownBrought, 1 text, 2 refusals); numbers (0 length, 1 place, 2 isTaken) -/
abbrev zY : Type := (Nat → zI) × (Nat → Nat → Int32) × (Nat → Int32)
def yamW (RB : Nat) (Y : zY) : zS := .inr (.inr (3, [.ref 1, .ref 13, .ref 25, .ref 37, .ref 49, .ref 50, .ref 52, .int (Y.2.2 2)])) :: (isl 1 RB (Y.1 0) ++ (isl 13 RB (Y.1 1) ++ (isl 25 RB (Y.1 2) ++ (isl 37 RB (Y.1 3) ++ [.inl (0, 8, Y.2.1 0), .inr (.inr (1, [.ref 51, .int (Y.2.2 0), .int (Y.2.2 1)])), .inl (0, 24, Y.2.1 1), .inl (0, 7, Y.2.1 2)]))))
def setJ (Y : zY) (k : Nat) (I : zI) : zY := (fun j => if j = k then I else Y.1 j, Y.2)
def setY (Y : zY) (k : Nat) (f : Nat → Int32) : zY := (Y.1, fun j => if j = k then f else Y.2.1 j, Y.2.2)
def setN (Y : zY) (k : Nat) (x : Int32) : zY := (Y.1, Y.2.1, upd Y.2.2 k x)
theorem yamW_len (RB : Nat) (Y : zY) : (yamW RB Y).length = 53 := rfl
theorem setJ_J (Y : zY) (k : Nat) (I : zI) : (setJ Y k I).1 k = I := if_pos rfl
theorem yam_split {RB : Nat} {Y : zY} {k : Nat} (hk : k < 4) : ∃ hd tl : zS, hd.length = 1 + 12 * k ∧ (∀ I, yamW RB (setJ Y k I) = hd ++ (isl (1 + 12 * k) RB I ++ tl)) ∧ yamW RB Y = hd ++ (isl (1 + 12 * k) RB (Y.1 k) ++ tl) := by
  match k, hk with
  | 0, _ => exact ⟨[.inr (.inr (3, [.ref 1, .ref 13, .ref 25, .ref 37, .ref 49, .ref 50, .ref 52, .int (Y.2.2 2)]))], isl 13 RB (Y.1 1) ++ (isl 25 RB (Y.1 2) ++ (isl 37 RB (Y.1 3) ++ [.inl (0, 8, Y.2.1 0), .inr (.inr (1, [.ref 51, .int (Y.2.2 0), .int (Y.2.2 1)])), .inl (0, 24, Y.2.1 1), .inl (0, 7, Y.2.1 2)])), rfl, fun _ => rfl, rfl⟩
  | 1, _ => exact ⟨.inr (.inr (3, [.ref 1, .ref 13, .ref 25, .ref 37, .ref 49, .ref 50, .ref 52, .int (Y.2.2 2)])) :: isl 1 RB (Y.1 0), isl 25 RB (Y.1 2) ++ (isl 37 RB (Y.1 3) ++ [.inl (0, 8, Y.2.1 0), .inr (.inr (1, [.ref 51, .int (Y.2.2 0), .int (Y.2.2 1)])), .inl (0, 24, Y.2.1 1), .inl (0, 7, Y.2.1 2)]), rfl, fun _ => rfl, rfl⟩
  | 2, _ => exact ⟨.inr (.inr (3, [.ref 1, .ref 13, .ref 25, .ref 37, .ref 49, .ref 50, .ref 52, .int (Y.2.2 2)])) :: (isl 1 RB (Y.1 0) ++ isl 13 RB (Y.1 1)), isl 37 RB (Y.1 3) ++ [.inl (0, 8, Y.2.1 0), .inr (.inr (1, [.ref 51, .int (Y.2.2 0), .int (Y.2.2 1)])), .inl (0, 24, Y.2.1 1), .inl (0, 7, Y.2.1 2)], rfl, fun _ => rfl, rfl⟩
  | 3, _ => exact ⟨.inr (.inr (3, [.ref 1, .ref 13, .ref 25, .ref 37, .ref 49, .ref 50, .ref 52, .int (Y.2.2 2)])) :: (isl 1 RB (Y.1 0) ++ (isl 13 RB (Y.1 1) ++ isl 25 RB (Y.1 2))), [.inl (0, 8, Y.2.1 0), .inr (.inr (1, [.ref 51, .int (Y.2.2 0), .int (Y.2.2 1)])), .inl (0, 24, Y.2.1 1), .inl (0, 7, Y.2.1 2)], rfl, fun _ => rfl, rfl⟩
theorem yam_at {RB : Nat} {Y : zY} {k i : Nat} (hk : k < 4) (hi : i < 12) (T : zS) : (yamW RB Y ++ T)[1 + 12 * k + i]? = (isl (1 + 12 * k) RB (Y.1 k))[i]? := by
  obtain ⟨hd, tl, h1, -, h3⟩ := yam_split (RB := RB) (Y := Y) hk
  rw [List.getElem?_append_left (by rw [yamW_len]; omega), h3, List.getElem?_append_right (by omega), h1, List.getElem?_append_left (by rw [isl_len]; omega)]
  congr 1
  omega
theorem app_out {a m1 m2 t : zS} {i : Nat} (hm : m1.length = m2.length) (h : a.length + m1.length ≤ i) : (a ++ (m1 ++ t))[i]? = (a ++ (m2 ++ t))[i]? := by
  have e1 : (a ++ (m1 ++ t))[i]? = t[i - a.length - m1.length]? := by rw [List.getElem?_append_right (by omega), List.getElem?_append_right (by omega)]
  have e2 : (a ++ (m2 ++ t))[i]? = t[i - a.length - m2.length]? := by rw [List.getElem?_append_right (by omega), List.getElem?_append_right (by omega)]
  rw [e1, e2, hm]
theorem yam_out {RB : Nat} {Y : zY} {k i : Nat} (hk : k < 4) (I : zI) (hi : i < 1 + 12 * k ∨ 1 + 12 * k + 12 ≤ i) (T : zS) : (yamW RB (setJ Y k I) ++ T)[i]? = (yamW RB Y ++ T)[i]? := by
  obtain ⟨hd, tl, h1, h2, h3⟩ := yam_split (RB := RB) (Y := Y) hk
  rw [h2, h3]
  simp only [List.append_assoc]
  rcases hi with h | h
  · rw [List.getElem?_append_left (by omega), List.getElem?_append_left (by omega)]
  · exact app_out (by rw [isl_len, isl_len]) (by rw [isl_len]; omega)
theorem isl_zr {σ : Nat → Nat} {b0 RB0 b RB : Nat} (I : zI) (h1 : ∀ i, 1 ≤ i → i < 12 → σ (b0 + i) = b + i) (h2 : ∀ r, σ (r + RB0) = r + RB) {i : Nat} {x : zE} (hx : (isl b0 RB0 I)[i]? = some x) : (isl b RB I)[i]? = some (zr σ x) := by
  have hm : (isl b0 RB0 I).map (zr σ) = isl b RB I := by
    have e : (fun j => ((I.2.2 j).map (fun r => r + RB0)).map σ) = (fun j => (I.2.2 j).map (fun r => r + RB)) := by
      funext j
      cases I.2.2 j with
      | none => rfl
      | some r => show some (σ (r + RB0)) = some (r + RB); rw [h2]
    simp only [isl, List.map_cons, List.map_nil, zr, zv, e]
    rw [h1 1 (by omega) (by omega), h1 2 (by omega) (by omega), h1 3 (by omega) (by omega), h1 4 (by omega) (by omega), h1 5 (by omega) (by omega), h1 6 (by omega) (by omega), h1 7 (by omega) (by omega), h1 8 (by omega) (by omega), h1 9 (by omega) (by omega), h1 10 (by omega) (by omega), h1 11 (by omega) (by omega)]
  rw [← hm, List.getElem?_map, hx]; rfl
theorem pol_zr {σ : Nat → Nat} {RB0 RB : Nat} {RL : List zRu} (h2 : ∀ r, σ (r + RB0) = r + RB) {i : Nat} {x : zE} (hx : (pol RB0 RL)[i]? = some x) : (pol RB RL)[i]? = some (zr σ x) := by
  rw [pol_at] at hx ⊢
  obtain ⟨u, hu, rfl⟩ := Option.map_eq_some_iff.mp hx
  rw [hu]
  obtain ⟨s, n, o1, o2⟩ := u
  simp only [Option.map_some, zr, List.map_cons, List.map_nil]
  congr 4
  cases o1 <;> cases o2 <;> simp [zv, va_rf, h2]
-- an island alone
theorem ysbA {Y : zY} {k : Nat} (hk : k < 4) (T : zS) : zsb (fun i => i + (1 + 12 * k)) (yamW 53 Y ++ T) (isl 0 (52 - 12 * k) (Y.1 k)) := ⟨fun i x hx => by
  have hi : i < 12 := (List.getElem?_eq_some_iff.mp hx).1
  show (yamW 53 Y ++ T)[i + (1 + 12 * k)]? = _
  rw [Nat.add_comm, yam_at hk hi]
  exact isl_zr _ (fun i _ _ => by show 0 + i + (1 + 12 * k) = _; omega) (fun r => by show r + (52 - 12 * k) + (1 + 12 * k) = _; omega) hx, fun i j _ _ h => by
  have h : i + (1 + 12 * k) = j + (1 + 12 * k) := h
  omega⟩
theorem yplA {Y : zY} {k : Nat} (hk : k < 4) (T : zS) (I : zI) : zpl (fun i => i + (1 + 12 * k)) (yamW 53 Y ++ T) 12 (isl 0 (52 - 12 * k) I) (yamW 53 (setJ Y k I) ++ T) := ⟨by simp [yamW_len], fun i x hx => by
  have hi : i < 12 := (List.getElem?_eq_some_iff.mp hx).1
  show (yamW 53 (setJ Y k I) ++ T)[i + (1 + 12 * k)]? = _
  rw [Nat.add_comm, yam_at hk hi, setJ_J]
  exact isl_zr _ (fun i _ _ => by show 0 + i + (1 + 12 * k) = _; omega) (fun r => by show r + (52 - 12 * k) + (1 + 12 * k) = _; omega) hx, fun i hi => by
  refine yam_out hk I ?_ T
  by_cases h1 : i < 1 + 12 * k
  · exact Or.inl h1
  · right
    by_cases h2 : i < 1 + 12 * k + 12
    · exact absurd (show i - (1 + 12 * k) + (1 + 12 * k) = i by omega) (hi (i - (1 + 12 * k)) (by omega))
    · omega⟩
-- an island with the rules
def sgB (k : Nat) : Nat → Nat := fun i => if i < 12 then i + (1 + 12 * k) else i + 41
theorem sgB_lo {k i : Nat} (h : i < 12) : sgB k i = i + (1 + 12 * k) := if_pos h
theorem sgB_hi {k i : Nat} (h : 12 ≤ i) : sgB k i = i + 41 := if_neg (Nat.not_lt.mpr h)
theorem sgB_isl {k : Nat} (I : zI) {i : Nat} {x : zE} (hx : (isl 0 12 I)[i]? = some x) : (isl (1 + 12 * k) 53 I)[i]? = some (zr (sgB k) x) :=
  isl_zr I (fun i _ h => by rw [sgB_lo (by omega)]; omega) (fun r => by rw [sgB_hi (by omega)]) hx
theorem ysbB {Y : zY} {RL : List zRu} {k : Nat} (hk : k < 4) : zsb (sgB k) (yamW 53 Y ++ pol 53 RL) (isl 0 12 (Y.1 k) ++ pol 12 RL) := ⟨fun i x hx => by
  by_cases hi : i < 12
  · rw [List.getElem?_append_left (by rw [isl_len]; exact hi)] at hx
    rw [sgB_lo hi, Nat.add_comm, yam_at hk hi]
    exact sgB_isl _ hx
  · rw [List.getElem?_append_right (by rw [isl_len]; omega), isl_len] at hx
    rw [sgB_hi (by omega), List.getElem?_append_right (by rw [yamW_len]; omega), yamW_len]
    have := pol_zr (σ := sgB k) (RB0 := 12) (RB := 53) (fun r => by rw [sgB_hi (by omega)]) hx
    rw [← this]; congr 1, fun i j _ _ h => by
  unfold sgB at h
  split at h <;> split at h <;> omega⟩
theorem yplB {Y : zY} {RL : List zRu} {k : Nat} (hk : k < 4) (I : zI) : zpl (sgB k) (yamW 53 Y ++ pol 53 RL) (isl 0 12 (Y.1 k) ++ pol 12 RL).length (isl 0 12 I ++ pol 12 RL) (yamW 53 (setJ Y k I) ++ pol 53 RL) := ⟨by simp [yamW_len], fun i x hx => by
  by_cases hi : i < 12
  · rw [List.getElem?_append_left (by rw [isl_len]; exact hi)] at hx
    rw [sgB_lo hi, Nat.add_comm, yam_at hk hi, setJ_J]
    exact sgB_isl _ hx
  · rw [List.getElem?_append_right (by rw [isl_len]; omega), isl_len] at hx
    rw [sgB_hi (by omega), List.getElem?_append_right (by rw [yamW_len]; omega), yamW_len]
    have := pol_zr (σ := sgB k) (RB0 := 12) (RB := 53) (fun r => by rw [sgB_hi (by omega)]) hx
    rw [← this]; congr 1, fun i hi => by
  refine yam_out hk I ?_ _
  by_cases h1 : i < 1 + 12 * k
  · exact Or.inl h1
  · right
    by_cases h2 : i < 1 + 12 * k + 12
    · refine absurd ?_ (hi (i - (1 + 12 * k)) (by rw [List.length_append, isl_len]; omega))
      rw [sgB_lo (by omega)]; omega
    · omega⟩
-- two islands with the rules
def sgC (k1 k2 : Nat) : Nat → Nat := fun i => if i < 12 then i + (1 + 12 * k1) else if i < 24 then i - 12 + (1 + 12 * k2) else i + 29
theorem sgC_1 {k1 k2 i : Nat} (h : i < 12) : sgC k1 k2 i = i + (1 + 12 * k1) := if_pos h
theorem sgC_2 {k1 k2 i : Nat} (h : 12 ≤ i) (h2 : i < 24) : sgC k1 k2 i = i - 12 + (1 + 12 * k2) := by unfold sgC; rw [if_neg (by omega), if_pos h2]
theorem sgC_3 {k1 k2 i : Nat} (h : 24 ≤ i) : sgC k1 k2 i = i + 29 := by unfold sgC; rw [if_neg (by omega), if_neg (by omega)]
theorem ysbC {Y : zY} {RL : List zRu} {k1 k2 : Nat} (h1 : k1 < 4) (h2 : k2 < 4) (hne : k1 ≠ k2) : zsb (sgC k1 k2) (yamW 53 Y ++ pol 53 RL) (isl 0 24 (Y.1 k1) ++ (isl 12 24 (Y.1 k2) ++ pol 24 RL)) := ⟨fun i x hx => by
  by_cases hi : i < 12
  · rw [List.getElem?_append_left (by rw [isl_len]; exact hi)] at hx
    rw [sgC_1 hi, Nat.add_comm, yam_at h1 hi]
    exact isl_zr _ (fun i _ h => by rw [sgC_1 (by omega)]; omega) (fun r => by rw [sgC_3 (by omega)]) hx
  · rw [List.getElem?_append_right (by rw [isl_len]; omega), isl_len] at hx
    by_cases hi2 : i < 24
    · rw [List.getElem?_append_left (by rw [isl_len]; omega)] at hx
      rw [sgC_2 (by omega) hi2, Nat.add_comm, yam_at h2 (by omega)]
      exact isl_zr _ (fun i _ h => by rw [sgC_2 (by omega) (by omega)]; omega) (fun r => by rw [sgC_3 (by omega)]) hx
    · rw [List.getElem?_append_right (by rw [isl_len]; omega), isl_len] at hx
      rw [sgC_3 (by omega), List.getElem?_append_right (by rw [yamW_len]; omega), yamW_len]
      have := pol_zr (σ := sgC k1 k2) (RB0 := 24) (RB := 53) (fun r => by rw [sgC_3 (by omega)]) hx
      rw [← this]; congr 1, fun i j hi hj h => by
  unfold sgC at h
  split at h <;> split at h <;> (try split at h) <;> (try split at h) <;> omega⟩
theorem yplC {Y : zY} {RL : List zRu} {k1 k2 : Nat} (h1 : k1 < 4) (h2 : k2 < 4) (hne : k1 ≠ k2) (I : zI) : zpl (sgC k1 k2) (yamW 53 Y ++ pol 53 RL) (isl 0 24 (Y.1 k1) ++ (isl 12 24 (Y.1 k2) ++ pol 24 RL)).length (isl 0 24 I ++ (isl 12 24 (Y.1 k2) ++ pol 24 RL)) (yamW 53 (setJ Y k1 I) ++ pol 53 RL) := ⟨by simp [yamW_len], fun i x hx => by
  by_cases hi : i < 12
  · rw [List.getElem?_append_left (by rw [isl_len]; exact hi)] at hx
    rw [sgC_1 hi, Nat.add_comm, yam_at h1 hi, setJ_J]
    exact isl_zr _ (fun i _ h => by rw [sgC_1 (by omega)]; omega) (fun r => by rw [sgC_3 (by omega)]) hx
  · have hx0 := hx
    rw [List.getElem?_append_right (by rw [isl_len]; omega), isl_len] at hx
    have hsame : (yamW 53 (setJ Y k1 I) ++ pol 53 RL)[sgC k1 k2 i]? = (yamW 53 Y ++ pol 53 RL)[sgC k1 k2 i]? := by
      refine yam_out h1 I ?_ _
      by_cases hi2 : i < 24
      · rw [sgC_2 (by omega) hi2]; omega
      · rw [sgC_3 (by omega)]; omega
    rw [hsame]
    refine (ysbC h1 h2 hne).1 i x ?_
    rw [List.getElem?_append_right (by rw [isl_len]; omega), isl_len]
    exact hx, fun i hi => by
  refine yam_out h1 I ?_ _
  by_cases g1 : i < 1 + 12 * k1
  · exact Or.inl g1
  · right
    by_cases g2 : i < 1 + 12 * k1 + 12
    · refine absurd ?_ (hi (i - (1 + 12 * k1)) (by rw [List.length_append, isl_len]; omega))
      rw [sgC_1 (by omega)]; omega
    · omega⟩
section YOP
variable {l : Launch} {D : va_G} {C : zC} {d : Nat} {Po : zS → Option Value → Prop} {tab : List (Nat × Instr)} {fl : Nat → Option (Nat × Nat × Nat)} {ki : Nat → Option Int32} {kj : Nat → Option Int64} {Kr : zS → Option Value → Prop} {Z : zP} {own : String}
variable {y' : MethodName} {cc' : ByteArray} {nL' n idx pc d' : Nat} {ret' : Option FieldType} {lv : zL} {As st rest : List Value} {Y : zY} {RL : List zRu}
/-- a call on island k that touches its cells alone -/
theorem zOps.yA (o : zOps l D C own tab fl ki kj d Kr Z) (k : Nat) {Q : zI → Option Value → Prop} (hk : k < 4) (hW : zCV own idx y' cc' nL' ret' n) (hM : zFun l D C y' cc' nL' ret' (zR d') (.ref 0 :: As) (isl 0 (52 - 12 * k) (Y.1 k)) Po) (hP : ∀ w rv, Po w rv → ∃ I, w = isl 0 (52 - 12 * k) I ∧ Q I rv)
    (kk : ∀ (I : zI) (rv : Option Value), Q I rv → Z (pc + 3) (yamW 53 (setJ Y k I) ++ pol 53 RL) lv ((rv.map (zv (fun i => i + (1 + 12 * k)))).toList ++ rest)) (hy : RX0 = y'.cls := by rfl)
    (hd : zfd tab pc = some (.invokevirtual idx) := by rfl) (hst : st = (As.map (zv (fun i => i + (1 + 12 * k)))).reverse ++ .ref (0 + (1 + 12 * k)) :: rest := by rfl) (hn : As.length = n := by rfl) (hrest : (rest.map fun v => v.category).sum ≤ 8 := by exact Nat.le_of_ble_eq_true rfl)
    (hdd : d' < d := by exact Nat.le_of_ble_eq_true rfl) (hL : nL' ≤ 21 := by exact Nat.le_of_ble_eq_true rfl) : Z pc (yamW 53 Y ++ pol 53 RL) lv st :=
  o.cVs (fun i => i + (1 + 12 * k)) hW hM (ysbA hk _) (fun w rv _ h => by
    obtain ⟨I, rfl, hq⟩ := hP w rv h
    exact ⟨_, yplA hk _ I, kk I rv hq⟩) ⟨0, _, _, rfl, rfl, hy⟩ hd hst hn hrest hdd hL
/-- the same, and nothing changes -/
theorem zOps.yAr (o : zOps l D C own tab fl ki kj d Kr Z) (k : Nat) {Q : Option Value → Prop} (hk : k < 4) (hW : zCV own idx y' cc' nL' ret' n) (hM : zFun l D C y' cc' nL' ret' (zR d') (.ref 0 :: As) (isl 0 (52 - 12 * k) (Y.1 k)) (fun w rv => w = isl 0 (52 - 12 * k) (Y.1 k) ∧ Q rv))
    (kk : ∀ (rv : Option Value), Q rv → Z (pc + 3) (yamW 53 Y ++ pol 53 RL) lv ((rv.map (zv (fun i => i + (1 + 12 * k)))).toList ++ rest)) (hy : RX0 = y'.cls := by rfl)
    (hd : zfd tab pc = some (.invokevirtual idx) := by rfl) (hst : st = (As.map (zv (fun i => i + (1 + 12 * k)))).reverse ++ .ref (0 + (1 + 12 * k)) :: rest := by rfl) (hn : As.length = n := by rfl) (hrest : (rest.map fun v => v.category).sum ≤ 8 := by exact Nat.le_of_ble_eq_true rfl)
    (hdd : d' < d := by exact Nat.le_of_ble_eq_true rfl) (hL : nL' ≤ 21 := by exact Nat.le_of_ble_eq_true rfl) : Z pc (yamW 53 Y ++ pol 53 RL) lv st :=
  o.cVs (fun i => i + (1 + 12 * k)) hW hM (ysbA hk _) (fun w rv _ h => by
    obtain ⟨rfl, hq⟩ := h
    exact ⟨_, zpl_same (ysbA hk _), kk rv hq⟩) ⟨0, _, _, rfl, rfl, hy⟩ hd hst hn hrest hdd hL
/-- a call on island k that reads rules -/
theorem zOps.yB (o : zOps l D C own tab fl ki kj d Kr Z) (k : Nat) {Q : zI → Option Value → Prop} (hk : k < 4) (hW : zCV own idx y' cc' nL' ret' n) (hM : zFun l D C y' cc' nL' ret' (zR d') (.ref 0 :: As) (isl 0 12 (Y.1 k) ++ pol 12 RL) Po) (hP : ∀ w rv, Po w rv → ∃ I, w = isl 0 12 I ++ pol 12 RL ∧ Q I rv)
    (kk : ∀ (I : zI) (rv : Option Value), Q I rv → Z (pc + 3) (yamW 53 (setJ Y k I) ++ pol 53 RL) lv ((rv.map (zv (sgB k))).toList ++ rest)) (hy : RX0 = y'.cls := by rfl)
    (hd : zfd tab pc = some (.invokevirtual idx) := by rfl) (hst : st = (As.map (zv (sgB k))).reverse ++ .ref (sgB k 0) :: rest := by rfl) (hn : As.length = n := by rfl) (hrest : (rest.map fun v => v.category).sum ≤ 8 := by exact Nat.le_of_ble_eq_true rfl)
    (hdd : d' < d := by exact Nat.le_of_ble_eq_true rfl) (hL : nL' ≤ 21 := by exact Nat.le_of_ble_eq_true rfl) : Z pc (yamW 53 Y ++ pol 53 RL) lv st :=
  o.cVs (sgB k) hW hM (ysbB hk) (fun w rv _ h => by
    obtain ⟨I, rfl, hq⟩ := hP w rv h
    exact ⟨_, yplB hk I, kk I rv hq⟩) ⟨0, _, _, rfl, rfl, hy⟩ hd hst hn hrest hdd hL
/-- a copy of island k2 into island k1 -/
theorem zOps.yC (o : zOps l D C own tab fl ki kj d Kr Z) (k1 k2 : Nat) {I : zI} {Q : Option Value → Prop} (h1 : k1 < 4) (h2 : k2 < 4) (hne : k1 ≠ k2) (hW : zCV own idx y' cc' nL' ret' 1) (hM : zFun l D C y' cc' nL' ret' (zR d') [.ref 0, .ref 12] (isl 0 24 (Y.1 k1) ++ (isl 12 24 (Y.1 k2) ++ pol 24 RL)) (fun w rv => w = isl 0 24 I ++ (isl 12 24 (Y.1 k2) ++ pol 24 RL) ∧ Q rv))
    (kk : ∀ (rv : Option Value), Q rv → Z (pc + 3) (yamW 53 (setJ Y k1 I) ++ pol 53 RL) lv ((rv.map (zv (sgC k1 k2))).toList ++ rest)) (hy : RX0 = y'.cls := by rfl)
    (hd : zfd tab pc = some (.invokevirtual idx) := by rfl) (hst : st = .ref (sgC k1 k2 12) :: .ref (sgC k1 k2 0) :: rest := by rfl) (hrest : (rest.map fun v => v.category).sum ≤ 8 := by exact Nat.le_of_ble_eq_true rfl)
    (hdd : d' < d := by exact Nat.le_of_ble_eq_true rfl) (hL : nL' ≤ 21 := by exact Nat.le_of_ble_eq_true rfl) : Z pc (yamW 53 Y ++ pol 53 RL) lv st :=
  o.cVs (sgC k1 k2) (As := [.ref 12]) hW hM (ysbC h1 h2 hne) (fun w rv _ h => by
    obtain ⟨rfl, hq⟩ := h
    exact ⟨_, yplC h1 h2 hne I, kk rv hq⟩) ⟨0, _, _, rfl, rfl, hy⟩ hd hst rfl hrest hdd hL
end YOP
