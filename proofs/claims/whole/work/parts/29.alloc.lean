/-! methods that make cells: names grow -/
def zBIG : Nat := 1000000
/-- names of what stands outside the world (zBIG: the script) -/
abbrev zfo (i : Nat) : Prop := zBIG ≤ i ∧ (i - zBIG) % 2 = 0
theorem zfo_B : zfo zBIG := ⟨Nat.le_refl _, by rw [Nat.sub_self]⟩
theorem zfo_no {i : Nat} (h : i < zBIG) : ¬ zfo i := fun z => Nat.not_lt.mpr z.1 h
def zRA (d c s : Nat) : Room := { frames := d, cells := c, slots := s, locals := 40 * d }
theorem zRA_le {a b n c s c' s' : Nat} (h : a < b) (hn : n ≤ 21) : (zRA a c s).frames + 1 ≤ (zRA b c' s').frames ∧ 8 + (n + 11) + (zRA a c s).locals ≤ (zRA b c' s').locals := by
  show a + 1 ≤ b ∧ 8 + (n + 11) + 40 * a ≤ 40 * b
  omega
def zcV (n : Nat) (v : Value) : Prop := ∀ r, v = .ref r → r < n ∨ zfo r
def zcE (n : Nat) (x : zE) : Prop := match x with
  | .inl _ => True
  | .inr (.inl (k, f)) => ∀ j, j < k → ∀ r, f j = some r → r < n ∨ zfo r
  | .inr (.inr (_, fs)) => ∀ v ∈ fs, zcV n v
def zcW (ws : zS) : Prop := ∀ x ∈ ws, zcE ws.length x
def zcL (n : Nat) (lv : zL) : Prop := ∀ v, some v ∈ lv → zcV n v
def zcS (n : Nat) (st : List Value) : Prop := ∀ v ∈ st, zcV n v
def zag (n : Nat) (q q' : Nat → Nat) : Prop := ∀ i, i < n ∨ zfo i → q' i = q i
theorem zv_ag {n : Nat} {q q' : Nat → Nat} {v : Value} (h : zag n q q') (hv : zcV n v) : zv q' v = zv q v := by
  cases v <;> first
    | rfl
    | (rename_i r; show Value.ref (q' r) = .ref (q r); rw [h r (hv r rfl)])
theorem zst_ag {n : Nat} {q q' : Nat → Nat} {st : List Value} (h : zag n q q') (hs : zcS n st) : st.map (zv q') = st.map (zv q) := List.map_congr_left (fun v hv => zv_ag h (hs v hv))
theorem zla_ag {n : Nat} {q q' : Nat → Nat} (h : zag n q q') : ∀ (lv : zL) (i : Nat), zcL n lv → zla q' i lv = zla q i lv
  | [], _, _ => rfl
  | none :: r, i, hl => by
    rw [zla, zla, zla_ag h r (i + 1) (fun v hv => hl v (List.mem_cons_of_mem _ hv))]
  | some w :: r, i, hl => by
    rw [zla, zla, zla_ag h r (i + 1) (fun v hv => hl v (List.mem_cons_of_mem _ hv)), zv_ag h (hl w List.mem_cons_self)]
theorem zh_ag {n : Nat} {q q' : Nat → Nat} {ls : Array Slot} {nL : Nat} {lv : zL} (h : zag n q q') (hl : zcL n lv) (z : zh q ls nL lv) : zh q' ls nL lv := ⟨z.1, by rw [zla_ag h lv 0 hl]; exact z.2⟩
theorem zat_ag {D : va_G} {C : zC} {n : Nat} {q q' : Nat → Nat} {x : zE} (h : zag n q q') (hx : zcE n x) {a : Nat} {H : Heap} (z : va_at D vwCl (a, zc C q x) H) : va_at D vwCl (a, zc C q' x) H := by
  match x, hx, z with
  | .inl _, _, z => exact z
  | .inr (.inl (k, f)), hx, z =>
    have z : H[a]? = some (vp_cell C.2.2 (k, .inr (.inr (.inr (.inr (fun j => (f j).map q)))))) := z
    show H[a]? = some (vp_cell C.2.2 (k, .inr (.inr (.inr (.inr (fun j => (f j).map q'))))))
    rw [z, vp_cell_q, vp_cell_q, arrV_congr C.2.2 k (fun j hj => ?_)]
    cases hf : f j with
    | none => rfl
    | some r => show va_rf (some (q r)) = va_rf (some (q' r)); rw [h r (hx j hj r hf)]
  | .inr (.inr (ci, fs)), hx, z =>
    have e : zc C q' (.inr (.inr (ci, fs))) = zc C q (.inr (.inr (ci, fs))) := by
      show Sum.inr (ci, fs.map (zv q')) = Sum.inr (ci, fs.map (zv q))
      rw [zst_ag h hx]
    rw [e]; exact z
theorem zP_ag {D : va_G} {C : zC} {q q' : Nat → Nat} {ws : zS} {H : Heap} (h : zag ws.length q q') (hw : zcW ws) (hP : va_P D vwCl (zw C q ws) H) : va_P D vwCl (zw C q' ws) H := fun i y hy => by
  rw [zw_at] at hy
  obtain ⟨x, hx, rfl⟩ := Option.map_eq_some_iff.mp hy
  have hi : i < ws.length := (List.getElem?_eq_some_iff.mp hx).1
  have e : q' i = q i := h i (Or.inl hi)
  show va_at D vwCl (q' i, zc C q' x) H
  rw [e]
  exact zat_ag h (hw x (List.mem_of_getElem? hx)) (hP i _ (zw_of hx))
theorem zD_adr {A : Nat → Prop} {W : va_W} {C : zC} {q' : Nat → Nat} {ws' : zS} (hD : va_D A W) (h : ∀ (i : Nat) (x : Nat × va_E), (zw C q' ws')[i]? = some x → ∃ y : Nat × va_E, W[i]? = some y ∧ y.1 = x.1) : va_D A (zw C q' ws') := by
  refine ⟨fun i j x y hx hy hxy => ?_, fun k x hx => ?_⟩
  · obtain ⟨x', hx', ex⟩ := h i x hx
    obtain ⟨y', hy', ey⟩ := h j y hy
    exact hD.1 i j x' y' hx' hy' (by rw [ex, ey, hxy])
  · obtain ⟨x', hx', ex⟩ := h k x hx
    rw [← ex]
    exact hD.2 k x' hx'
/-- one cell more: its name is the world's length -/
theorem z_push {D : va_G} {C : zC} {A : Nat → Prop} {q : Nat → Nat} {ws : zS} {a : Nat} {x : zE} {X : va_E} {H : Heap} (hB : ws.length < zBIG) (hw : zcW ws) (hX : ∀ q', zag ws.length q q' → zc C q' x = X) (hP : va_P D vwCl (zw C q ws ++ [(a, X)]) H) (hD : va_D A (zw C q ws ++ [(a, X)])) :
    ∃ q' : Nat → Nat, zag ws.length q q' ∧ q' ws.length = a ∧ va_P D vwCl (zw C q' (ws ++ [x])) H ∧ va_D A (zw C q' (ws ++ [x])) := by
  let q' : Nat → Nat := fun i => if i = ws.length then a else q i
  have hag : zag ws.length q q' := fun i hi => if_neg (by
    rcases hi with h | h
    · omega
    · have := h.1; omega)
  have hself : q' ws.length = a := if_pos rfl
  refine ⟨q', hag, hself, ?_, zD_adr hD ?_⟩
  · have h1 : va_P D vwCl (zw C q ws) H := fun i y hy => hP i y (by
      rw [List.getElem?_append_left (List.getElem?_eq_some_iff.mp hy).1]; exact hy)
    have h2 := zP_ag hag hw h1
    intro i y hy
    rw [zw_push] at hy
    by_cases hi : i < (zw C q' ws).length
    · rw [List.getElem?_append_left hi] at hy
      exact h2 i y hy
    · rw [List.getElem?_append_right (by omega)] at hy
      have hz : i - (zw C q' ws).length < 1 := (List.getElem?_eq_some_iff.mp hy).1
      rw [show i - (zw C q' ws).length = 0 by omega] at hy
      cases hy
      rw [hself, hX q' hag]
      refine hP (zw C q ws).length _ ?_
      rw [List.getElem?_append_right (Nat.le_refl _), Nat.sub_self]
      rfl
  · intro i y hy
    rw [zw_at] at hy
    obtain ⟨z, hz, rfl⟩ := Option.map_eq_some_iff.mp hy
    have hi : i < ws.length + 1 := by
      have := (List.getElem?_eq_some_iff.mp hz).1
      rw [List.length_append] at this
      exact this
    by_cases h1 : i < ws.length
    · refine ⟨(q i, zc C q (ws[i])), ?_, ?_⟩
      · rw [List.getElem?_append_left (by rw [zw_len]; exact h1)]
        exact zw_of (List.getElem?_eq_getElem h1)
      · exact (hag i (Or.inl h1)).symm
    · obtain rfl : i = ws.length := by omega
      refine ⟨(a, X), ?_, hself.symm⟩
      rw [List.getElem?_append_right (by rw [zw_len]; omega), zw_len, Nat.sub_self]
      rfl
/-- cells may come, at the end; the script stays -/
def zPh (n : Nat) (Po : zS → Option Value → Prop) : (Nat → Nat) → (Nat → Nat) → zS → Option Value → Prop := fun q0 q w rv => (∀ i, i < n → q i = q0 i) ∧ (∀ i, zfo i → q i = q0 i) ∧ n ≤ w.length ∧ Po w rv
abbrev zFunB (l : Launch) (D : va_G) (C : zC) (y : MethodName) (cc : ByteArray) (nL : Nat) (ret : Option FieldType) (rm : Room) (av : List Value) (wc : zS) (Po : zS → Option Value → Prop) : Prop := zMet l D C y cc nL ret rm av wc (zPh wc.length Po)
/-- names behind a call that made cells -/
def zsj (n k : Nat) : Nat := if k < zBIG then k - n else zBIG + (k - zBIG) / 2 - n
def zsi (n j : Nat) : Nat := if j + n < zBIG then j + n else zBIG + 2 * (j + n - zBIG) + 1
def zsg (σ : Nat → Nat) (n N : Nat) : Nat → Nat := fun k => if k < n then σ k else if zfo k then k else zsi N (zsj n k)
def zqg (q q1 : Nat → Nat) (n N : Nat) : Nat → Nat := fun i => if i < N ∨ zfo i then q i else q1 (zsi n (zsj N i))
theorem zsij {n N k : Nat} (hN : N ≤ zBIG) (hn : n ≤ zBIG) (h1 : n ≤ k) (h2 : ¬ zfo k) : N ≤ zsi N (zsj n k) ∧ ¬ zfo (zsi N (zsj n k)) ∧ zsi n (zsj N (zsi N (zsj n k))) = k := by
  have h3 : k < zBIG ∨ (zBIG ≤ k ∧ (k - zBIG) % 2 = 1) := by
    rcases Nat.lt_or_ge k zBIG with h | h
    · exact Or.inl h
    · right
      refine ⟨h, ?_⟩
      have : ¬ (k - zBIG) % 2 = 0 := fun z => h2 ⟨h, z⟩
      omega
  have key : ∀ j, N ≤ zsi N j ∧ ¬ zfo (zsi N j) ∧ zsj N (zsi N j) = j := fun j => by
    unfold zsi
    by_cases hj : j + N < zBIG
    · rw [if_pos hj]
      refine ⟨by omega, zfo_no hj, ?_⟩
      unfold zsj
      rw [if_pos hj]; omega
    · rw [if_neg hj]
      refine ⟨by omega, fun z => ?_, ?_⟩
      · have := z.2; omega
      · unfold zsj
        rw [if_neg (by omega)]; omega
  obtain ⟨g1, g2, g3⟩ := key (zsj n k)
  refine ⟨g1, g2, ?_⟩
  rw [g3]
  unfold zsj
  rcases h3 with h | ⟨h, h'⟩
  · rw [if_pos h]
    unfold zsi
    rw [if_pos (by omega)]; omega
  · rw [if_neg (by omega)]
    unfold zsi
    rw [if_neg (by omega)]; omega
theorem zqg_sg {q q1 σ : Nat → Nat} {n N : Nat} (hN : N ≤ zBIG) (hn : n ≤ zBIG) (hσ : ∀ k, k < n → σ k < N) (h : ∀ k, k < n → q1 k = q (σ k)) (hB : ∀ i, zfo i → q1 i = q i) : (fun k => zqg q q1 n N (zsg σ n N k)) = q1 := by
  funext k
  unfold zsg
  by_cases h1 : k < n
  · rw [if_pos h1]
    unfold zqg
    rw [if_pos (Or.inl (hσ k h1)), h k h1]
  · rw [if_neg h1]
    by_cases h2 : zfo k
    · rw [if_pos h2]
      unfold zqg
      rw [if_pos (Or.inr h2), hB k h2]
    · rw [if_neg h2]
      obtain ⟨g1, g2, g3⟩ := zsij (k := k) hN hn (by omega) h2
      unfold zqg
      rw [if_neg (fun z => z.elim (fun z => by omega) g2), g3]
theorem zsg_hi {σ : Nat → Nat} {n N k : Nat} (h1 : n ≤ k) (h2 : k < zBIG) (h3 : k - n + N < zBIG) : zsg σ n N k = k - n + N := by
  unfold zsg zsi zsj
  rw [if_neg (by omega), if_neg (zfo_no h2), if_pos h2, if_pos h3]
theorem zsg_lo {σ : Nat → Nat} {n N k : Nat} (h1 : k < n) : zsg σ n N k = σ k := by
  unfold zsg
  rw [if_pos h1]
theorem zsg_F {σ : Nat → Nat} {n N k : Nat} (h1 : n ≤ zBIG) (h2 : zfo k) : zsg σ n N k = k := by
  unfold zsg
  rw [if_neg (by have := h2.1; omega), if_pos h2]
/-- the world behind a call that made cells -/
def zplA (σ : Nat → Nat) (ws : zS) (n : Nat) (w ws' : zS) : Prop := ws'.length = ws.length + (w.length - n) ∧ (∀ k x, w[k]? = some x → ws'[zsg σ n ws.length k]? = some (zr (zsg σ n ws.length) x)) ∧ (∀ i, i < ws.length → (∀ k, k < n → σ k ≠ i) → ws'[i]? = ws[i]?)
section ZZ
variable {p : Program} {l : Launch} {e : Env} {R : Room} {s : State} {m : MethodId} {args : Array Value} {below : List Frame} {meth : Method} {c : Code}
variable {cc : ByteArray} {nL : Nat} {ret : Option FieldType} {own : String} {D : va_G} {C : zC} {A : Nat → Prop} {Qc : Array Value → State → Outcome → State → Prop} {kc ks n0 : Nat} {q q0 : Nat → Nat} {tab : List (Nat × Instr)}
def zZ (p : Program) (l : Launch) (e : Env) (R : Room) (s : State) (m : MethodId) (args : Array Value) (below : List Frame) (meth : Method) (c : Code) (D : va_G) (C : zC) (A : Nat → Prop) (nL : Nat) (Qc : Array Value → State → Outcome → State → Prop) (n0 : Nat) (q0 : Nat → Nat) (kc ks : Nat) : zP := fun pc ws lv st =>
  ∀ q, zag n0 q0 q → zAt p l e R s m args below meth c D C A nL (MQ below Qc args s R.cells R.slots A) kc ks q pc ws lv st
theorem zag_tr {n N : Nat} {q0 q q' : Nat → Nat} (h : zag n q0 q) (h2 : zag N q q') (hn : n ≤ N) : zag n q0 q' := fun i hi => (h2 i (hi.imp (fun z => Nat.lt_of_lt_of_le z hn) id)).trans (h i hi)
theorem zcallA_go {pc mc' ms' : Nat} {ws wc : zS} {lv : zL} {st rest : List Value} {σ : Nat → Nat} {Po : zS → Option Value → Prop} {a : Array Value} (hsb : zsb σ ws wc) (hσ : ∀ k, k < wc.length → σ k < ws.length) (hσB : ∀ i, zfo i → σ i = i) (hwN : wc.length ≤ ws.length) (hAf : ∀ x, s.heap.size ≤ x → A x)
    (hn0 : n0 ≤ ws.length) (hcW : zcW ws) (hcL : zcL ws.length lv) (hcS : zcS ws.length rest) (hq : zag n0 q0 q)
    (hr : ∀ (H : Heap) (locs : List Loc) (ls : Array Slot), va_P D vwCl (zw C q ws) H → va_D A (zw C q ws) → zh q ls nL lv →
      va_Run p l e R s m args below meth c H locs kc ks mc' ms' (F0 m pc ls (st.map (zv q))) (rest.map (zv q)) (zQ D C (va_A (zw C (fun i => q (σ i)) wc) H.size) (zPh wc.length Po (fun i => q (σ i))) a) (va_A (zw C (fun i => q (σ i)) wc) H.size))
    (kk : ∀ (w : zS) (rv : Option Value), wc.length ≤ w.length → Po w rv → ∃ ws', zplA σ ws wc.length w ws' ∧ ws'.length ≤ zBIG ∧ zZ p l e R s m args below meth c D C A nL Qc n0 q0 (kc + mc') (ks + ms') (pc + 3) ws' lv ((rv.map (zv (zsg σ wc.length ws.length))).toList ++ rest)) :
    zAt p l e R s m args below meth c D C A nL (MQ below Qc args s R.cells R.slots A) kc ks q pc ws lv st := by
  intro H locs ls hP hD hS hl T hT X
  obtain ⟨v, st₀, t, T', L, h0, X', hL, e1, e2, ⟨⟨q1, w, rv, ⟨hq1, hqB, hlen, hpo⟩, hv, hP1, hD1⟩, hz, hk⟩, stp⟩ := hr H locs ls hP hD hl T hT X
  have hqB : ∀ i, zfo i → q1 i = q i := fun i hi => (hqB i hi).trans (congrArg q (hσB i hi))
  obtain ⟨ws', ⟨hl1, hl2, hl3⟩, hBg, hat⟩ := kk w rv hlen hpo
  have hNB : ws.length ≤ zBIG := by omega
  rw [h0] at hz hk
  have hAsub : ∀ x, va_A (zw C (fun i => q (σ i)) wc) H.size x → A x := by
    rintro x (⟨k, y, hy⟩ | hx)
    · exact hD.2 _ _ (zcell_sub hsb hy)
    · exact hAf x (Nat.le_trans hS.1 hx)
  have hnew : ∀ k, wc.length ≤ k → k < w.length → H.size ≤ q1 k := by
    intro k h1 h2
    rcases hD1.2 k _ (zw_of (List.getElem?_eq_getElem h2)) with ⟨k', y, hy⟩ | hx
    · have hk' : k' < wc.length := by
        have := (List.getElem?_eq_some_iff.mp hy).1
        rwa [zw_len] at this
      rw [zw_at, List.getElem?_eq_getElem hk'] at hy
      have hy1 : q (σ k') = q1 k := congrArg (fun o : Option (Nat × va_E) => (o.getD (0, y)).1) hy
      have := hD1.1 k' k _ _ (zw_of (List.getElem?_eq_getElem (Nat.lt_of_lt_of_le hk' hlen))) (zw_of (List.getElem?_eq_getElem h2)) (by show q1 k' = q1 k; rw [hq1 k' hk']; exact hy1)
      omega
    · exact hx
  let q' : Nat → Nat := zqg q q1 wc.length ws.length
  have hcomp : (fun k => q' (zsg σ wc.length ws.length k)) = q1 := zqg_sg hNB (Nat.le_trans hwN hNB) hσ hq1 hqB
  have hag : zag ws.length q q' := fun i hi => if_pos hi
  have hidx : ∀ i, ws.length ≤ i → i < ws'.length → zsg σ wc.length ws.length (i - ws.length + wc.length) = i ∧ i - ws.length + wc.length < w.length := fun i h1 h2 => by
    constructor
    · rw [zsg_hi (by omega) (by omega) (by omega)]; omega
    · omega
  have hq'n : ∀ i, ws.length ≤ i → i < ws'.length → q' i = q1 (i - ws.length + wc.length) := fun i h1 h2 => by
    rw [← congrFun hcomp (i - ws.length + wc.length)]
    show q' i = q' (zsg σ wc.length ws.length (i - ws.length + wc.length))
    rw [(hidx i h1 h2).1]
  have hP' : va_P D vwCl (zw C q' ws') T'.heap := by
    intro i x hx
    rw [zw_at] at hx
    obtain ⟨y, hy, rfl⟩ := Option.map_eq_some_iff.mp hx
    have hil : i < ws'.length := (List.getElem?_eq_some_iff.mp hy).1
    by_cases hin : ∃ k, k < w.length ∧ zsg σ wc.length ws.length k = i
    · obtain ⟨k, hk1, rfl⟩ := hin
      obtain ⟨z, hz1⟩ : ∃ z, w[k]? = some z := ⟨_, List.getElem?_eq_getElem hk1⟩
      have e3 := hl2 k z hz1
      rw [hy] at e3
      have e4 : y = zr (zsg σ wc.length ws.length) z := Option.some.inj e3
      have h5 := hP1 k _ (zw_of hz1)
      rw [← hcomp, zc_comp C q' (zsg σ wc.length ws.length)] at h5
      rw [e4, e1]
      exact h5
    · have hlt : i < ws.length := by
        rcases Nat.lt_or_ge i ws.length with h | h
        · exact h
        · exact absurd ⟨_, (hidx i h hil).2, (hidx i h hil).1⟩ hin
      have hno : ∀ k, k < wc.length → σ k ≠ i := fun k hk1 e3 => hin ⟨k, by omega, by rw [zsg_lo hk1]; exact e3⟩
      rw [hl3 i hlt hno] at hy
      have h5 := hP i _ (zw_of hy)
      have hlt2 : q i < H.size := h5.lt
      have e : q' i = q i := hag i (Or.inl hlt)
      show va_at D vwCl (q' i, zc C q' y) T'.heap
      rw [e]
      refine zat_ag hag (hcW y (List.mem_of_getElem? hy)) (h5.kept ?_)
      rw [e1]
      refine hk (q i) hlt2 ?_
      rintro (⟨k, y2, hy2⟩ | hx2)
      · have hkl : k < wc.length := by
          have := (List.getElem?_eq_some_iff.mp hy2).1
          rwa [zw_len] at this
        exact hno k hkl (hD.1 _ _ _ _ (zcell_sub hsb hy2) (zw_of hy) rfl)
      · exact absurd hlt2 (Nat.not_lt.mpr hx2)
  have hold : ∀ i, i < ws.length → q i < H.size := fun i hi => (hP i _ (zw_of (List.getElem?_eq_getElem hi))).lt
  have hadr : ∀ (i : Nat) (x : Nat × va_E), (zw C q' ws')[i]? = some x → i < ws'.length ∧ x.1 = q' i := fun i x hx => by
    have h1 := (List.getElem?_eq_some_iff.mp hx).1
    rw [zw_len] at h1
    rw [zw_at, List.getElem?_eq_getElem h1] at hx
    exact ⟨h1, (congrArg (fun o : Option (Nat × va_E) => (o.getD x).1) hx).symm⟩
  have hD' : va_D A (zw C q' ws') := by
    refine ⟨fun i j x y hx hy hxy => ?_, fun k x hx => ?_⟩
    · obtain ⟨hi, ex⟩ := hadr i x hx
      obtain ⟨hj, ey⟩ := hadr j y hy
      rw [ex, ey] at hxy
      rcases Nat.lt_or_ge i ws.length with h1 | h1 <;> rcases Nat.lt_or_ge j ws.length with h2 | h2
      · rw [hag i (Or.inl h1), hag j (Or.inl h2)] at hxy
        exact hD.1 i j _ _ (zw_of (List.getElem?_eq_getElem h1)) (zw_of (List.getElem?_eq_getElem h2)) hxy
      · rw [hag i (Or.inl h1), hq'n j h2 hj] at hxy
        have := hnew _ (by omega) (hidx j h2 hj).2
        have := hold i h1
        omega
      · rw [hq'n i h1 hi, hag j (Or.inl h2)] at hxy
        have := hnew _ (by omega) (hidx i h1 hi).2
        have := hold j h2
        omega
      · rw [hq'n i h1 hi, hq'n j h2 hj] at hxy
        have := hD1.1 _ _ _ _ (zw_of (List.getElem?_eq_getElem (hidx i h1 hi).2)) (zw_of (List.getElem?_eq_getElem (hidx j h2 hj).2)) hxy
        omega
    · obtain ⟨hi, ex⟩ := hadr k x hx
      rw [ex]
      rcases Nat.lt_or_ge k ws.length with h1 | h1
      · rw [hag k (Or.inl h1)]
        exact hD.2 k _ (zw_of (List.getElem?_eq_getElem h1))
      · rw [hq'n k h1 hi]
        exact hAf _ (Nat.le_trans hS.1 (hnew _ (by omega) (hidx k h1 hi).2))
  have hS' : va_S A s.heap T'.heap (locs ++ L) := ⟨Nat.le_trans hS.1 (by rw [e1]; exact hz), fun x h1 h2 => by
      rw [e1, hk x (Nat.lt_of_lt_of_le h1 hS.1) (fun z => h2 (hAsub x z))]
      exact hS.2.1 x h1 h2, fun x hx => by
      rcases List.mem_append.mp hx with h | h
      · exact hS.2.2 x h
      · exact hAsub _ (hL x h)⟩
  obtain ⟨t2, a1, b1⟩ := hat q' (zag_tr hq hag hn0) T'.heap (locs ++ L) ls hP' hD' hS' (zh_ag hag hcL hl) T' rfl X'
  refine ⟨t2, stp t2 ?_, b1⟩
  have hvv : v = rv.map (zv q1) := by injection hv
  have est : v.toList ++ rest.map (zv q) = ((rv.map (zv (zsg σ wc.length ws.length))).toList ++ rest).map (zv q') := by
    rw [hvv, List.map_append, zst_ag hag hcS]
    congr 1
    cases rv with
    | none => rfl
    | some r =>
      show [zv q1 r] = [zv q' (zv (zsg σ wc.length ws.length) r)]
      rw [← zv_comp q' (zsg σ wc.length ws.length) r, hcomp]
  rw [← est] at a1
  exact a1
end ZZ
