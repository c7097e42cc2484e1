/-! helpers: calls over a part of the world; the pool of rules; more of the island -/
def zB (b : Bool) : Int32 := if b then nI 1 else nI 0
theorem zB_nar (b : Bool) : narrow .boolean (.int (zB b)) = .int (zB b) := by cases b <;> decide +kernel
theorem zB_rt (b : Bool) : zRt (some .boolean) (some (.int (zB b))) := ⟨_, rfl, zB_nar b⟩
theorem zB_0 (b : Bool) : zB b = 0 ↔ b = false := by cases b <;> decide +kernel
def mix (k : Nat) (g f : Nat → Int32) : Nat → Int32 := fun j => if j < k then g j else f j
theorem mix_0 (g f : Nat → Int32) : mix 0 g f = f := by funext j; simp [mix]
theorem mix_upd (k : Nat) (g f : Nat → Int32) : upd (mix k g f) k (g k) = mix (k + 1) g f := by
  funext j
  unfold upd mix
  by_cases h1 : j = k
  · subst h1; simp
  · by_cases h2 : j < k
    · simp [h1, h2, Nat.lt_succ_of_lt h2]
    · have h3 : ¬ j < k + 1 := by omega
      simp [h1, h2, h3]
theorem mix_lt {k j : Nat} {g f : Nat → Int32} (h : j < k) : mix k g f j = g j := if_pos h
theorem mix_ge {k j : Nat} {g f : Nat → Int32} (h : k ≤ j) : mix k g f j = f j := if_neg (Nat.not_lt.mpr h)
theorem isl_len (b RB : Nat) (I : zI) : (isl b RB I).length = 12 := rfl
abbrev zRu : Type := Int32 × Int32 × Option Nat × Option Nat
def pol (RB : Nat) (RL : List zRu) : zS := RL.map (fun r => .inr (.inr (2, [.int r.1, .int r.2.1, va_rf (r.2.2.1.map (fun i => i + RB)), va_rf (r.2.2.2.map (fun i => i + RB))])))
theorem pol_at (RB : Nat) (RL : List zRu) (i : Nat) : (pol RB RL)[i]? = (RL[i]?).map (fun r => .inr (.inr (2, [.int r.1, .int r.2.1, va_rf (r.2.2.1.map (fun i => i + RB)), va_rf (r.2.2.2.map (fun i => i + RB))]))) := by simp [pol]
theorem zsb_pre {wc tl : zS} : zsb (fun i => i) (wc ++ tl) wc := ⟨fun k x h => by
  rw [zr_id, List.getElem?_append_left (List.getElem?_eq_some_iff.mp h).1]; exact h, fun i j _ _ h => h⟩
theorem zpl_pre {wc tl w : zS} (h : w.length = wc.length) : zpl (fun i => i) (wc ++ tl) wc.length w (w ++ tl) := ⟨by simp [h], fun k x hx => by
  rw [zr_id, List.getElem?_append_left (List.getElem?_eq_some_iff.mp hx).1]; exact hx, fun i hi => by
  have h1 : ¬ i < wc.length := fun h1 => hi i h1 rfl
  rw [List.getElem?_append_right (by omega), List.getElem?_append_right (by omega), h]⟩
theorem zsb_one {ws : zS} {a k n : Nat} {f : Nat → Int32} (h : ws[a]? = some (.inl (k, n, f))) : zsb (fun i => i + a) ws [.inl (k, n, f)] := ⟨fun i x hx => by
  cases i with
  | zero =>
    simp at hx
    subst hx
    show ws[0 + a]? = _
    rw [Nat.zero_add]
    exact h
  | succ i => simp at hx, fun i j hi hj h => by
    have h : i + a = j + a := h
    omega⟩
theorem zpl_one {ws : zS} {a : Nat} (y : Nat × Nat × (Nat → Int32)) (h : a < ws.length) : zpl (fun i => i + a) ws 1 [.inl y] (ws.set a (.inl y)) := ⟨by simp, fun i x hx => by
  cases i with
  | zero => simp at hx; subst hx; simp [h, zr]
  | succ i => simp at hx, fun i hi => by
  have h2 : 0 + a ≠ i := hi 0 (by omega)
  have h1 : a ≠ i := by omega
  rw [List.getElem?_set, if_neg h1]⟩
section ZOQ2
variable {l : Launch} {D : va_G} {C : zC} {d : Nat} {Po : zS → Option Value → Prop} {tab : List (Nat × Instr)} {fl : Nat → Option (Nat × Nat × Nat)} {ki : Nat → Option Int32} {kj : Nat → Option Int64} {Kr : zS → Option Value → Prop} {Z : zP} {own : String}
variable {y' : MethodName} {cc' : ByteArray} {nL' n idx pc d' : Nat} {ret' : Option FieldType} {wc tl ws : zS} {lv : zL} {As st rest : List Value} {b0 : Nat}
/-- a virtual call over the first cells of the caller's world -/
theorem zOps.cVp (o : zOps l D C own tab fl ki kj d Kr Z) (hW : zCV own idx y' cc' nL' ret' n) (hM : zFun l D C y' cc' nL' ret' (zR d') (.ref b0 :: As) wc Po) (kk : ∀ (w : zS) (rv : Option Value), w.length = wc.length → Po w rv → Z (pc + 3) (w ++ tl) lv (rv.toList ++ rest))
    (hrc : ∃ (ci : Nat) (fs : List Value) (r : vw_C), wc[b0]? = some (.inr (.inr (ci, fs))) ∧ vwCl[ci]? = some r ∧ r.1 = y'.cls := by exact ⟨_, _, _, rfl, rfl, rfl⟩)
    (hd : zfd tab pc = some (.invokevirtual idx) := by rfl) (hst : st = As.reverse ++ .ref b0 :: rest := by rfl) (hn : As.length = n := by rfl) (hrest : (rest.map fun v => v.category).sum ≤ 8 := by exact Nat.le_of_ble_eq_true rfl)
    (hdd : d' < d := by exact Nat.le_of_ble_eq_true rfl) (hL : nL' ≤ 21 := by exact Nat.le_of_ble_eq_true rfl) : Z pc (wc ++ tl) lv st :=
  o.2.1 y' cc' nL' n idx pc ret' d' (fun i => i) wc (wc ++ tl) lv Po As st rest b0 hW hM zsb_pre hrc hd (by rw [zas_id]; exact hst) hn hrest hdd hL (fun w rv h1 h2 => ⟨w ++ tl, zpl_pre h1, by rw [zrv_id]; exact kk w rv h1 h2⟩)
/-- a static call over one row of the caller's world -/
theorem zOps.cS1 (o : zOps l D C own tab fl ki kj d Kr Z) {a k m : Nat} {f g : Nat → Int32} {Bs : List Value} {P2 : Option Value → Prop} (hW : zCS own idx y' cc' nL' ret' n) (hM : zFun l D C y' cc' nL' ret' (zR d') (.ref 0 :: Bs) [.inl (k, m, f)] (fun w rv => w = [.inl (k, m, g)] ∧ P2 rv)) (ha : ws[a]? = some (.inl (k, m, f))) (kk : ∀ (rv : Option Value), P2 rv → Z (pc + 3) (ws.set a (.inl (k, m, g))) lv ((rv.map (zv (fun i => i + a))).toList ++ rest))
    (hd : zfd tab pc = some (.invokestatic idx) := by rfl) (hst : st = (Bs.map (zv (fun i => i + a))).reverse ++ .ref a :: rest := by rfl) (hn : Bs.length + 1 = n := by rfl) (hrest : (rest.map fun v => v.category).sum ≤ 8 := by exact Nat.le_of_ble_eq_true rfl)
    (hdd : d' < d := by exact Nat.le_of_ble_eq_true rfl) (hL : nL' ≤ 21 := by exact Nat.le_of_ble_eq_true rfl) : Z pc ws lv st :=
  o.2.2.1 y' cc' nL' n idx pc ret' d' (fun i => i + a) [.inl (k, m, f)] ws lv _ (.ref 0 :: Bs) st rest hW hM (zsb_one ha) hd (by rw [hst, List.map_cons, List.reverse_cons, List.append_assoc]; simp [zv]) hn hrest hdd hL (fun w rv h1 h2 => ⟨ws.set a (.inl (k, m, g)), by rw [h2.1]; exact zpl_one _ (List.getElem?_eq_some_iff.mp ha).1, kk rv h2.2⟩)
/-- a field of an object at any name -/
theorem zOps.gf (o : zOps l D C own tab fl ki kj d Kr Z) {ci j kd a : Nat} {fs : List Value} {v : Value} {r : List Value} (hf : fl idx = some (ci, j, kd)) (ha : ws[a]? = some (.inr (.inr (ci, fs)))) (hv : fs[j]? = some v) (kk : Z (pc + 3) ws lv (v :: r)) (hd : zfd tab pc = some (.getfield idx) := by rfl) : Z pc ws lv (.ref a :: r) := by
  refine o.run 1 [] ?_
  unfold zgo
  rw [hd]
  show zgf fl _ pc ws lv (.ref a :: r) idx
  have hb : Nat.beq ci ci = true := Nat.beq_refl ci
  simp only [zgf, hf, ha, hb, hv]
  exact kk
theorem zOps.ial (o : zOps l D C own tab fl ki kj d Kr Z) {a m j : Nat} {f : Nat → Int32} {r : List Value} (ha : ws[a]? = some (.inl (0, m, f))) (hm : m < 2 ^ 31) (hj : j < m) (kk : Z (pc + 1) ws lv (.int (f j) :: r)) (hd : zfd tab pc = some .iaload := by rfl) : Z pc ws lv (.int (nI j) :: .ref a :: r) := by
  refine o.run 1 [] ?_
  unfold zgo
  rw [hd]
  show zia _ pc ws lv (.int (nI j) :: .ref a :: r) 0
  have hb : Nat.blt m 2147483648 = true := by simpa using hm
  have h0 : Nat.beq 0 0 = true := rfl
  simp only [zia, ha, hb, h0]
  exact ⟨j, rfl, hj, kk⟩
theorem zOps.ias (o : zOps l D C own tab fl ki kj d Kr Z) {a m j : Nat} {f : Nat → Int32} {x : Int32} {r : List Value} (ha : ws[a]? = some (.inl (0, m, f))) (hm : m < 2 ^ 31) (hj : j < m) (kk : Z (pc + 1) (ws.set a (.inl (0, m, upd f j x))) lv r) (hd : zfd tab pc = some .iastore := by rfl) : Z pc ws lv (.int x :: .int (nI j) :: .ref a :: r) := by
  refine o.run 1 [] ?_
  unfold zgo
  rw [hd]
  show zis _ pc ws lv (.int x :: .int (nI j) :: .ref a :: r) 0
  have hb : Nat.blt m 2147483648 = true := by simpa using hm
  have h0 : Nat.beq 0 0 = true := rfl
  simp only [zis, ha, hb, h0]
  exact ⟨j, rfl, hj, kk⟩
end ZOQ2
theorem tbJ7 : zTb RJ7 (fun _ => none) (fun _ => none) (fun _ => none) := ⟨fun _ _ _ _ h => by simp at h, fun _ _ h => by simp at h, fun _ _ h => by simp at h⟩
theorem tbJ9 : zTb RJ9 (fun _ => none) (fun _ => none) (fun _ => none) := ⟨fun _ _ _ _ h => by simp at h, fun _ _ h => by simp at h, fun _ _ h => by simp at h⟩
section ISM
variable {l : Launch} {D : va_G} {C : zC} {RB : Nat} {I : zI}
set_option maxRecDepth 10000 in
theorem c_fill {n : Nat} {f : Nat → Int32} {x : Int32} (hn : n < 1000) : zFun l D C yJ7_fill_53178 cJ7_fill_53178 4 none (zR 0) [.ref 0, .int x] [.inl (0, n, f)] (fun w' rv => w' = [.inl (0, n, mix n (fun _ => x) f)] ∧ rv = none) := by
  refine zFun_of (by decide) oJ7_fill_53178 tbJ7 (Nat.le_of_ble_eq_true rfl) (fun Z o => ?_)
  have loop : ∀ j k, k + j = n → Z 5 [.inl (0, n, mix k (fun _ => x) f)] [some (.ref 0), some (.int x), some (.int (nI k)), some (.int (nI n))] [] := by
    intro j
    induction j with
    | zero =>
      intro k hk
      obtain rfl : k = n := by omega
      exact o.run 100 [] ⟨fun _ => ⟨rfl, rfl, rfl, rfl⟩, fun h => absurd (nI_le (Nat.le_refl _) (by omega)) h⟩
    | succ j ih =>
      intro k hk
      refine o.run 100 [5, 13] ⟨fun h => absurd h (nI_ge (by omega) (by omega)), fun _ => ?_⟩
      show Z _ _ _ _
      refine o.ias (a := 0) rfl (by omega) (show k < n by omega) (o.run 100 [5] ?_)
      have := ih (k + 1) (by omega)
      rw [← mix_upd, ← nI_1 k] at this
      exact this
  have h0 := loop n 0 (by omega)
  rw [mix_0] at h0
  exact o.run 100 [5] h0
set_option maxRecDepth 10000 in
theorem c_isDivisor {k y : Nat} (hk : k < 2 ^ 30) (hy : y < 2 ^ 30) : zFun l D C yX0_isDivisor cX0_isDivisor 2 (some .boolean) (zR 0) [.int (nI k), .int (nI y)] [] (fun w' rv => rv = some (.int (zB (decide (0 < k ∧ y % k = 0))))) := by
  refine zFun_of (by decide) oX0_isDivisor tbX0 (Nat.le_of_ble_eq_true rfl) (fun Z o => ?_)
  have hF : (decide (0 < k ∧ y % k = 0)) = false → zRt (some .boolean) (some (.int (nI 0))) ∧ ([] : zS).length = 0 ∧ some (Value.int (nI 0)) = some (.int (zB (decide (0 < k ∧ y % k = 0)))) := fun h => by
    rw [h]; exact ⟨zB_rt false, rfl, rfl⟩
  refine o.run 100 [] ⟨fun h => hF ?_, fun h => ?_⟩
  · have : k = 0 := by
      rcases Nat.eq_zero_or_pos k with h1 | h1
      · exact h1
      · exact absurd h (nI_nle h1 (by omega))
    subst this; simp
  · have hk0 : 0 < k := by
      rcases Nat.eq_zero_or_pos k with h1 | h1
      · subst h1; exact absurd (by decide) h
      · exact h1
    have e : nI y - nI y / nI k * nI k = nI (y % k) := pk_rem (by omega) hk0 (by omega)
    refine ⟨nI_ne0 hk0 (by omega), fun h1 => hF ?_, fun h1 => ?_⟩
    · rw [e] at h1
      have : y % k ≠ 0 := fun h2 => h1 (by rw [h2]; exact nI_0)
      simp [this]
    · rw [e] at h1
      have : y % k = 0 := by
        rcases Nat.eq_zero_or_pos (y % k) with h2 | h2
        · exact h2
        · exact absurd h1 (nI_ne0 h2 (by have := Nat.mod_lt y hk0; omega))
      have e2 : (decide (0 < k ∧ y % k = 0)) = true := by simp [hk0, this]
      rw [e2]
      exact ⟨zB_rt true, rfl, rfl⟩
set_option maxRecDepth 10000 in
theorem c_wayBehind {w W : Nat} (hw : w < 6) (hW : W ≤ 6) (e0 : I.1 0 = nI W) : zFun l D C yX0_wayBehind cX0_wayBehind 2 (some .int) (zR 0) [.ref 0, .int (nI w)] (isl 0 RB I) (fun w' rv => w' = isl 0 RB I ∧ rv = some (.int (nI (if w + 1 < W then w + 1 else 0)))) := by
  refine zFun_of (by decide) oX0_wayBehind tbX0 (Nat.le_of_ble_eq_true rfl) (fun Z o => ?_)
  have e : nI w + zi 1 = nI (w + 1) := nI_1 w
  refine o.run 100 [] ⟨fun h => ⟨⟨_, rfl, rfl⟩, rfl, rfl, ?_⟩, fun h => ⟨⟨_, rfl, rfl⟩, rfl, rfl, ?_⟩⟩
  · rw [e, e0, nI_leI (by omega) (by omega)] at h
    rw [if_neg (by omega)]; rfl
  · rw [e, e0, nI_leI (by omega) (by omega)] at h
    rw [if_pos (by omega), ← e]
set_option maxRecDepth 10000 in
theorem c_allBrought {n : Nat} (hn : n ≤ 8) (e4 : I.1 4 = nI n) : zFun l D C yX0_allBrought cX0_allBrought 3 (some .int) (zR 0) [.ref 0] (isl 0 RB I) (fun w' rv => w' = isl 0 RB I ∧ rv = some (.int (sm (I.2.1 5) n))) := by
  refine zFun_of (by decide) oX0_allBrought tbX0 (Nat.le_of_ble_eq_true rfl) (fun Z o => ?_)
  have loop : ∀ j k, k + j = n → Z 4 (isl 0 RB I) [some (.ref 0), some (.int (sm (I.2.1 5) k)), some (.int (nI k))] [] := by
    intro j
    induction j with
    | zero =>
      intro k hk
      obtain rfl : k = n := by omega
      exact o.run 100 [] ⟨fun _ => ⟨⟨_, rfl, rfl⟩, rfl, rfl, rfl⟩, fun h => absurd (by rw [e4]; exact nI_le (Nat.le_refl _) (by omega)) h⟩
    | succ j ih =>
      intro k hk
      refine o.run 100 [4] ⟨fun h => absurd h (by rw [e4]; exact nI_ge (by omega) (by omega)), fun _ => ⟨k, rfl, by omega, ?_⟩⟩
      have := ih (k + 1) (by omega)
      rw [sm, ← nI_1 k] at this
      exact this
  exact o.run 100 [4] (loop n 0 (by omega))
set_option maxRecDepth 10000 in
theorem c_isAlike {n : Nat} (hn : n ≤ 8) (e4 : I.1 4 = nI n) : zFun l D C yX0_isAlike cX0_isAlike 1 (some .boolean) (zR 1) [.ref 0] (isl 0 RB I) (fun w' rv => w' = isl 0 RB I ∧ rv = some (.int (zB (decide (cnt (fun p => decide (I.2.1 2 p = I.2.1 2 0)) n = n))))) := by
  refine zFun_of (by decide) oX0_isAlike tbX0 (Nat.le_of_ble_eq_true rfl) (fun Z o => ?_)
  refine o.run 100 [] ⟨0, rfl, by omega, ?_⟩
  show Z _ _ _ _
  refine o.cV vX0_93 (c_plantersOf (x := I.2.1 2 0) hn e4) (fun w rv _ hpo => ?_)
  obtain ⟨rfl, rfl⟩ := hpo
  have hc := cnt_le (fun p => decide (I.2.1 2 p = I.2.1 2 0)) n
  refine o.run 100 [] ⟨fun h => ⟨zB_rt false, rfl, rfl, ?_⟩, fun h => ⟨zB_rt true, rfl, rfl, ?_⟩⟩
  · rw [e4, nI_eq (by omega) (by omega)] at h
    rw [show decide (cnt (fun p => decide (I.2.1 2 p = I.2.1 2 0)) n = n) = false from decide_eq_false h]; rfl
  · rw [e4, nI_eq (by omega) (by omega)] at h
    rw [show decide (cnt (fun p => decide (I.2.1 2 p = I.2.1 2 0)) n = n) = true from decide_eq_true h]; rfl
end ISM
