/-! THE LAYER: worlds by names (a name is a place in a list of cells), an evaluator of straight code over them, contracts over them -/
def zG : List Jvm.Cond := lw_tbl.filter goodWord
theorem zG_in {w : Jvm.Cond} (h : w ∈ zG) : w ∈ lw_tbl := (List.mem_filter.mp h).1
theorem zG_good {w : Jvm.Cond} (h : w ∈ zG) : (w.onTables && w.keeps) = true ∨ ∃ ty, w = .arrayClass ty := good_of_word (List.mem_filter.mp h).2
def zin (h : Nat) (w : Jvm.Cond) : Bool := decide (lw_tbl[h]? = some w) && goodWord w
theorem zin_mem {h : Nat} {w : Jvm.Cond} (e : zin h w = true) : w ∈ zG := by
  unfold zin at e
  rw [Bool.and_eq_true, decide_eq_true_eq] at e
  exact List.mem_filter.mpr ⟨List.mem_of_getElem? e.1, e.2⟩
-- cells by names
abbrev zE : Type := (Nat × Nat × (Nat → Int32)) ⊕ ((Nat × (Nat → Option Nat)) ⊕ (Nat × List Value))
abbrev zS : Type := List zE
abbrev zL : Type := List (Option Value)
abbrev zC : Type := ClassId × ClassId × ClassId
def zv (q : Nat → Nat) (v : Value) : Value := match v with
  | .ref n => .ref (q n)
  | v => v
def zc (C : zC) (q : Nat → Nat) (x : zE) : va_E := match x with
  | .inl (k, n, f) => .inl (if k = 0 then C.1 else C.2.1, n, .inl f)
  | .inr (.inl (n, f)) => .inl (C.2.2, n, .inr (.inr (.inr (.inr (fun j => (f j).map q)))))
  | .inr (.inr (ci, fs)) => .inr (ci, fs.map (zv q))
def zw (C : zC) (q : Nat → Nat) (ws : zS) : va_W := ws.mapIdx (fun i x => (q i, zc C q x))
abbrev ztys (C : zC) : List (ClassId × FieldType) := [(C.1, .int), (C.2.1, .boolean), (C.2.2, .object RX2)]
theorem zw_at (C : zC) (q : Nat → Nat) (ws : zS) (i : Nat) : (zw C q ws)[i]? = (ws[i]?).map (fun x => (q i, zc C q x)) := by
  simp [zw]
theorem zw_len (C : zC) (q : Nat → Nat) (ws : zS) : (zw C q ws).length = ws.length := by simp [zw]
theorem zw_of {C : zC} {q : Nat → Nat} {ws : zS} {i : Nat} {x : zE} (h : ws[i]? = some x) : (zw C q ws)[i]? = some (q i, zc C q x) := by
  rw [zw_at, h]; rfl
theorem zw_set (C : zC) (q : Nat → Nat) (ws : zS) (i : Nat) (x : zE) : zw C q (ws.set i x) = (zw C q ws).set i (q i, zc C q x) := by
  apply List.ext_getElem?
  intro j
  rw [zw_at, List.getElem?_set, List.getElem?_set, zw_len]
  by_cases h : i = j
  · subst h
    by_cases h2 : i < ws.length <;> simp [h2]
  · simp [h, zw_at]
theorem zw_push (C : zC) (q : Nat → Nat) (ws : zS) (x : zE) : zw C q (ws ++ [x]) = zw C q ws ++ [(q ws.length, zc C q x)] := by
  apply List.ext_getElem?
  intro j
  rw [zw_at, List.getElem?_append, List.getElem?_append, zw_len, zw_at]
  by_cases h : j < ws.length
  · simp [h]
  · simp only [h, if_false]
    by_cases h2 : j = ws.length
    · subst h2; simp
    · have : 1 ≤ j - ws.length := by omega
      rw [List.getElem?_eq_none (by simpa using this), List.getElem?_eq_none (by simpa using this)]; rfl
theorem zv_cat (q : Nat → Nat) (v : Value) : (zv q v).category = v.category := by cases v <;> rfl
-- locals
def zla (q : Nat → Nat) : Nat → zL → List (Nat × Value)
  | _, [] => []
  | i, none :: r => zla q (i + 1) r
  | i, some v :: r => (i, zv q v) :: zla q (i + 1) r
theorem zla_mem (q : Nat → Nat) : ∀ (lv : zL) (i : Nat) (x : Nat × Value), x ∈ zla q i lv ↔ ∃ (k : Nat) (v : Value), lv[k]? = some (some v) ∧ x = (i + k, zv q v)
  | [], i, x => by simp [zla]
  | none :: r, i, x => by
    rw [zla, zla_mem q r (i + 1) x]
    constructor
    · rintro ⟨k, v, h, e⟩
      exact ⟨k + 1, v, by simpa using h, by rw [e]; congr 1; omega⟩
    · rintro ⟨k, v, h, e⟩
      cases k with
      | zero => simp at h
      | succ k => exact ⟨k, v, by simpa using h, by rw [e]; congr 1; omega⟩
  | some w :: r, i, x => by
    rw [zla, List.mem_cons, zla_mem q r (i + 1) x]
    constructor
    · rintro (h | ⟨k, v, h, e⟩)
      · exact ⟨0, w, by simp, by rw [h]; rfl⟩
      · exact ⟨k + 1, v, by simpa using h, by rw [e]; congr 1; omega⟩
    · rintro ⟨k, v, h, e⟩
      cases k with
      | zero =>
        left
        simp at h
        rw [e, ← h]
        rfl
      | succ k => exact Or.inr ⟨k, v, by simpa using h, by rw [e]; congr 1; omega⟩
def zh (q : Nat → Nat) (ls : Array Slot) (nL : Nat) (lv : zL) : Prop := lv.length ≤ nL ∧ lv_has ls nL (zla q 0 lv)
theorem zh_at {q : Nat → Nat} {ls : Array Slot} {nL : Nat} {lv : zL} (h : zh q ls nL lv) {i : Nat} {v : Value} (hi : lv[i]? = some (some v)) : ls[i]? = some (.val (zv q v)) :=
  h.2.2.2 (i, zv q v) ((zla_mem q lv 0 _).mpr ⟨i, v, hi, by simp⟩)
def zok (lv : zL) (i : Nat) : Bool := Nat.blt i lv.length && (match i with
  | 0 => true
  | j + 1 => match lv[j]? with
    | some (some (.long _)) => false
    | some (some (.double _)) => false
    | _ => true)
theorem zok_lt {lv : zL} {i : Nat} (h : zok lv i = true) : i < lv.length := by
  unfold zok at h
  rw [Bool.and_eq_true] at h
  simpa using h.1
theorem zok_cat {lv : zL} {i : Nat} (h : zok lv (i + 1) = true) {v : Value} (hv : lv[i]? = some (some v)) : v.category = 1 := by
  unfold zok at h
  rw [Bool.and_eq_true] at h
  have h2 := h.2
  simp only [hv] at h2
  cases v <;> first | rfl | (simp at h2)
theorem zh_set {q : Nat → Nat} {ls ls' : Array Slot} {nL : Nat} {lv : zL} {i : Nat} {v : Value} (h : zh q ls nL lv) (hk : zok lv i = true)
    (h' : lv_has ls' nL ((i, zv q v) :: (zla q 0 lv).filter (fun q => !(q.1 == i) && !(q.1 + 1 == i && q.2.category == 2)))) : zh q ls' nL (lv.set i (some v)) := by
  refine ⟨by rw [List.length_set]; exact h.1, h'.1, h'.2.1, fun x hx => h'.2.2 x ?_⟩
  obtain ⟨k, w, hw, e⟩ := (zla_mem q _ 0 x).mp hx
  rw [Nat.zero_add] at e
  rw [List.getElem?_set] at hw
  by_cases hik : i = k
  · subst hik
    rw [if_pos rfl, if_pos (zok_lt hk)] at hw
    cases hw
    rw [e]
    exact List.mem_cons_self
  · rw [if_neg hik] at hw
    refine List.mem_cons_of_mem _ (List.mem_filter.mpr ⟨(zla_mem q lv 0 x).mpr ⟨k, w, hw, by rw [e, Nat.zero_add]⟩, ?_⟩)
    rw [e]
    have e1 : (k == i) = false := by simp; omega
    simp only [e1, Bool.not_false, Bool.true_and, Bool.not_eq_true', Bool.and_eq_false_iff]
    by_cases h2 : k + 1 = i
    · right
      subst h2
      rw [zv_cat, zok_cat hk hw]
      rfl
    · left
      simp; omega
