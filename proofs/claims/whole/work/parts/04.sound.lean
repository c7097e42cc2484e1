/-! the machine stands at a place with a world by names; a step of the evaluator is a step of the machine -/
def zFx (p : Program) (s : State) (m : MethodId) (args : Array Value) (meth : Method) (c : Code) (cc : ByteArray) (nL : Nat) (ret : Option FieldType) (own : String) (D : va_G) (C : zC) : Prop :=
  p.tables.exec = Jvm.exec ∧ c.code = cc ∧ c.maxLocals = nL ∧ meth.sig.returnType = ret ∧ s.vm.findClass own = some m.cls ∧ (∀ w ∈ zG, w.before args s = true) ∧ va_K D vwCl (ztys C) s ∧ meth.locks = false
def zAt (p : Program) (l : Launch) (e : Env) (R : Room) (s : State) (m : MethodId) (args : Array Value) (below : List Frame) (meth : Method) (c : Code) (D : va_G) (C : zC) (A : Nat → Prop) (nL : Nat) (Q : State → Prop) (kc ks : Nat) (q : Nat → Nat) : zP := fun pc ws lv st =>
  ∀ (H : Heap) (locs : List Loc) (ls : Array Slot), va_P D vwCl (zw C q ws) H → va_D A (zw C q ws) → va_S A s.heap H locs → zh q ls nL lv → W p l e R s m args below meth c H locs kc ks Q (F0 m pc ls (st.map (zv q)))
def zFl (own : String) (fl : Nat → Option (Nat × Nat × Nat)) : Prop := ∀ idx ci j kd, fl idx = some (ci, j, kd) → ∃ r : vw_C, vwCl[ci]? = some r ∧ j < r.2.2 ∧ Jvm.Cond.fieldLink own idx (r.2.1 j).1 (r.2.1 j).2.1 (r.2.1 j).2.2.1 ∈ zG ∧ (kd = 0 → (r.2.1 j).2.2.2 = false ∧ (r.2.1 j).2.2.1 = "I") ∧ (kd = 1 → (r.2.1 j).2.2.2 = false ∧ (r.2.1 j).2.2.1 = "Z")
def zTb (own : String) (fl : Nat → Option (Nat × Nat × Nat)) (ki : Nat → Option Int32) (kj : Nat → Option Int64) : Prop :=
  zFl own fl ∧ (∀ idx v, ki idx = some v → Jvm.Cond.constant own idx v ∈ zG) ∧ (∀ idx v, kj idx = some v → Jvm.Cond.constantLong own idx v ∈ zG)
def zRt (ret : Option FieldType) (rv : Option Value) : Prop := match rv with
  | none => ret = none
  | some (.int v) => ∃ ty, ret = some ty ∧ narrow ty (.int v) = .int v
  | some (.ref _) => ∃ n, ret = some (.object n)
  | some .null => ∃ n, ret = some (.object n)
  | _ => False
/-- each class's layout words are among the good words, and its table of types fits -/
def zCls : Prop := ∀ (ci : Nat) (r : vw_C), vwCl[ci]? = some r → (∀ w ∈ u_ws r.1 r.2.1 r.2.2, w ∈ zG) ∧ ∃ ty0 : Nat → FieldType, (∀ k, k < r.2.2 → parseFieldDescriptor (r.2.1 k).2.2.1 = some (ty0 k)) ∧ (∀ a, a < r.2.2 → ∀ b, b < r.2.2 → a ≠ b → (r.2.1 a).2.1 ≠ (r.2.1 b).2.1)
theorem zI1_inv {st : List Value} {f : Int32 → List Value → Prop} (h : zI1 st f) : ∃ x r, st = .int x :: r ∧ f x r := by
  unfold zI1 at h
  split at h
  · exact ⟨_, _, rfl, h⟩
  · exact h.elim
theorem zI2_inv {st : List Value} {f : Int32 → Int32 → List Value → Prop} (h : zI2 st f) : ∃ x y r, st = .int y :: .int x :: r ∧ f x y r := by
  unfold zI2 at h
  split at h
  · exact ⟨_, _, _, rfl, h⟩
  · exact h.elim
theorem zJ1_inv {st : List Value} {f : Int64 → List Value → Prop} (h : zJ1 st f) : ∃ x r, st = .long x :: r ∧ f x r := by
  unfold zJ1 at h
  split at h
  · exact ⟨_, _, rfl, h⟩
  · exact h.elim
theorem zJ2_inv {st : List Value} {f : Int64 → Int64 → List Value → Prop} (h : zJ2 st f) : ∃ x y r, st = .long y :: .long x :: r ∧ f x y r := by
  unfold zJ2 at h
  split at h
  · exact ⟨_, _, _, rfl, h⟩
  · exact h.elim
theorem zJI_inv {st : List Value} {f : Int64 → Int32 → List Value → Prop} (h : zJI st f) : ∃ x y r, st = .int y :: .long x :: r ∧ f x y r := by
  unfold zJI at h
  split at h
  · exact ⟨_, _, _, rfl, h⟩
  · exact h.elim
theorem zc1_cat {q : Nat → Nat} {v : Value} (h : zc1 v = true) : (zv q v).category = 1 := by
  cases v <;> first | rfl | (simp [zc1] at h)
theorem ztok_eq {pc : Nat} {o : Int} (h : ztok pc o = true) : (pc : Int) + o = (zt pc o : Int) := of_decide_eq_true h
theorem zts_inv {k : Nat → Prop} {pc : Nat} {x : Int32} : ∀ (os : List Int) (lo : Int), zts k pc x lo os → (∀ j : Nat, j < os.length → (zi (lo + j)).toInt = lo + j) → ∀ (j : Nat) (o : Int), os[j]? = some o → x.toInt = lo + j → k (zt pc o)
  | [], lo, _, _, j, o, ho, _ => by simp at ho
  | a :: r, lo, h, hz, j, o, ho, hx => by
    cases j with
    | zero =>
      simp at ho
      subst ho
      refine h.1 ?_
      have h1 := hz 0 (by simp)
      apply Int32.toInt_inj.mp
      rw [hx]
      simp at h1 ⊢
      exact h1.symm
    | succ j =>
      refine zts_inv r (lo + 1) h.2 (fun i hi => ?_) j o (by simpa using ho) (by rw [hx]; push_cast; omega)
      have h1 := hz (i + 1) (by simp; omega)
      have e : lo + 1 + (i : Int) = lo + ((i + 1 : Nat) : Int) := by push_cast; omega
      rw [e]
      exact h1
theorem zls_inv {k : Nat → Prop} {pc : Nat} {x : Int32} (d : Int) : ∀ (ps : List (Int × Int)), zls k pc x ps → (zln x ps → k (zt pc d)) → (∀ e ∈ ps, (zi e.1).toInt = e.1) → k (zt pc (lookupswitch.offset ps d x.toInt))
  | [], _, h2, _ => h2 trivial
  | (a, o) :: r, h, h2, hz => by
    rw [lookupswitch.offset_cons]
    by_cases ha : a = x.toInt
    · rw [if_pos ha]
      refine h.1 (Int32.toInt_inj.mp ?_)
      rw [hz (a, o) List.mem_cons_self, ha]
    · rw [if_neg ha]
      refine zls_inv d r h.2 (fun hn => h2 ⟨fun e => ha ?_, hn⟩) (fun e he => hz e (List.mem_cons_of_mem _ he))
      rw [e, hz (a, o) List.mem_cons_self]
section ZA
variable {p : Program} {l : Launch} {e : Env} {R : Room} {s : State} {m : MethodId} {args : Array Value} {below : List Frame} {meth : Method} {c : Code}
variable {cc : ByteArray} {nL : Nat} {ret : Option FieldType} {own : String} {D : va_G} {C : zC} {A : Nat → Prop} {Q : State → Prop} {kc ks : Nat} {q : Nat → Nat}
theorem zAt_ald (F : zFx p s m args meth c cc nL ret own D C) {pc n pc' : Nat} {ws : zS} {lv : zL} {st : List Value} (hd : decode cc pc = .ok (.aload n, 2) ∧ pc' = pc + 2 ∨ ∃ k : Fin 4, decode cc pc = .ok (.aload_n k, 1) ∧ pc' = pc + 1 ∧ (k : Nat) = n)
    (h : zald (zAt p l e R s m args below meth c D C A nL Q kc ks q) pc' ws lv st n) : zAt p l e R s m args below meth c D C A nL Q kc ks q pc ws lv st := by
  obtain ⟨hx, hb, -⟩ := F
  intro H locs ls hP hD hS hl
  unfold zald at h
  split at h
  · rename_i a ha
    rcases hd with ⟨hd, rfl⟩ | ⟨k, hd, rfl, hk⟩
    · exact lv_aload hx hb hd (zh_at hl ha) (h H locs ls hP hD hS hl)
    · exact lv_aload_n hx hb hd hk (zh_at hl ha) (h H locs ls hP hD hS hl)
  · rename_i ha
    rcases hd with ⟨hd, rfl⟩ | ⟨k, hd, rfl, hk⟩
    · exact lv_aloadN hx hb hd (zh_at hl ha) (h H locs ls hP hD hS hl)
    · exact lv_aload_nN hx hb hd hk (zh_at hl ha) (h H locs ls hP hD hS hl)
  · exact h.elim
theorem zAt_ild (F : zFx p s m args meth c cc nL ret own D C) {pc n pc' : Nat} {ws : zS} {lv : zL} {st : List Value} (hd : decode cc pc = .ok (.iload n, 2) ∧ pc' = pc + 2 ∨ ∃ k : Fin 4, decode cc pc = .ok (.iload_n k, 1) ∧ pc' = pc + 1 ∧ (k : Nat) = n)
    (h : zild (zAt p l e R s m args below meth c D C A nL Q kc ks q) pc' ws lv st n) : zAt p l e R s m args below meth c D C A nL Q kc ks q pc ws lv st := by
  obtain ⟨hx, hb, -⟩ := F
  intro H locs ls hP hD hS hl
  unfold zild at h
  split at h
  · rename_i a ha
    rcases hd with ⟨hd, rfl⟩ | ⟨k, hd, rfl, hk⟩
    · exact lv_iload hx hb hd (zh_at hl ha) (h H locs ls hP hD hS hl)
    · exact lv_iload_n hx hb hd hk (zh_at hl ha) (h H locs ls hP hD hS hl)
  · exact h.elim
theorem zAt_lld (F : zFx p s m args meth c cc nL ret own D C) {pc n pc' : Nat} {ws : zS} {lv : zL} {st : List Value} (hd : decode cc pc = .ok (.lload n, 2) ∧ pc' = pc + 2 ∨ ∃ k : Fin 4, decode cc pc = .ok (.lload_n k, 1) ∧ pc' = pc + 1 ∧ (k : Nat) = n)
    (h : zlld (zAt p l e R s m args below meth c D C A nL Q kc ks q) pc' ws lv st n) : zAt p l e R s m args below meth c D C A nL Q kc ks q pc ws lv st := by
  obtain ⟨hx, hb, -⟩ := F
  intro H locs ls hP hD hS hl
  unfold zlld at h
  split at h
  · rename_i a ha
    rcases hd with ⟨hd, rfl⟩ | ⟨k, hd, rfl, hk⟩
    · exact lv_lload hx hb hd (zh_at hl ha) (h H locs ls hP hD hS hl)
    · exact lv_lload_n hx hb hd hk (zh_at hl ha) (h H locs ls hP hD hS hl)
  · exact h.elim
theorem zAt_ist (F : zFx p s m args meth c cc nL ret own D C) {pc n pc' : Nat} {ws : zS} {lv : zL} {st : List Value} (hd : decode cc pc = .ok (.istore n, 2) ∧ pc' = pc + 2 ∨ ∃ k : Fin 4, decode cc pc = .ok (.istore_n k, 1) ∧ pc' = pc + 1 ∧ (k : Nat) = n)
    (h : zist (zAt p l e R s m args below meth c D C A nL Q kc ks q) pc' ws lv st n) : zAt p l e R s m args below meth c D C A nL Q kc ks q pc ws lv st := by
  obtain ⟨hx, hb, -⟩ := F
  intro H locs ls hP hD hS hl
  unfold zist at h
  split at h
  · rename_i x r
    split at h
    · rename_i hk0
      rcases hd with ⟨hd, rfl⟩ | ⟨k, hd, rfl, hk⟩
      · exact lv_istore hx hb hd hl.2 (Nat.lt_of_lt_of_le (zok_lt hk0) hl.1) rfl (fun ls' h' => h H locs ls' hP hD hS (zh_set (v := .int x) hl hk0 h'))
      · exact lv_istore_n hx hb hd hk hl.2 (Nat.lt_of_lt_of_le (zok_lt hk0) hl.1) rfl (fun ls' h' => h H locs ls' hP hD hS (zh_set (v := .int x) hl hk0 h'))
    · exact h.elim
  · exact h.elim
theorem zAt_ast (F : zFx p s m args meth c cc nL ret own D C) {pc n pc' : Nat} {ws : zS} {lv : zL} {st : List Value} (hd : decode cc pc = .ok (.astore n, 2) ∧ pc' = pc + 2 ∨ ∃ k : Fin 4, decode cc pc = .ok (.astore_n k, 1) ∧ pc' = pc + 1 ∧ (k : Nat) = n)
    (h : zast (zAt p l e R s m args below meth c D C A nL Q kc ks q) pc' ws lv st n) : zAt p l e R s m args below meth c D C A nL Q kc ks q pc ws lv st := by
  obtain ⟨hx, hb, -⟩ := F
  intro H locs ls hP hD hS hl
  unfold zast at h
  split at h
  · rename_i x r
    split at h
    · rename_i hk0
      rcases hd with ⟨hd, rfl⟩ | ⟨k, hd, rfl, hk⟩
      · exact lv_astore hx hb hd hl.2 (Nat.lt_of_lt_of_le (zok_lt hk0) hl.1) rfl (fun ls' h' => h H locs ls' hP hD hS (zh_set (v := .ref x) hl hk0 h'))
      · exact lv_astore_n hx hb hd hk hl.2 (Nat.lt_of_lt_of_le (zok_lt hk0) hl.1) rfl (fun ls' h' => h H locs ls' hP hD hS (zh_set (v := .ref x) hl hk0 h'))
    · exact h.elim
  · split at h
    · rename_i r hk0
      rcases hd with ⟨hd, rfl⟩ | ⟨k, hd, rfl, hk⟩
      · exact lv_astoreN hx hb hd hl.2 (Nat.lt_of_lt_of_le (zok_lt hk0) hl.1) rfl (fun ls' h' => h H locs ls' hP hD hS (zh_set (v := .null) hl hk0 h'))
      · exact lv_astore_nN hx hb hd hk hl.2 (Nat.lt_of_lt_of_le (zok_lt hk0) hl.1) rfl (fun ls' h' => h H locs ls' hP hD hS (zh_set (v := .null) hl hk0 h'))
    · exact h.elim
  · exact h.elim
theorem zAt_inc (F : zFx p s m args meth c cc nL ret own D C) {pc n : Nat} {d : Int} {ws : zS} {lv : zL} {st : List Value} (hd : decode cc pc = .ok (.iinc n d, 3)) (hz : Int32.ofInt d = zi d)
    (h : zinc (zAt p l e R s m args below meth c D C A nL Q kc ks q) (pc + 3) ws lv st n d) : zAt p l e R s m args below meth c D C A nL Q kc ks q pc ws lv st := by
  obtain ⟨hx, hb, -⟩ := F
  intro H locs ls hP hD hS hl
  unfold zinc at h
  split at h
  · rename_i a ha
    split at h
    · rename_i hk0
      have hm : (n, Value.int a) ∈ zla q 0 lv := (zla_mem q lv 0 _).mpr ⟨n, .int a, ha, by rw [Nat.zero_add]; rfl⟩
      obtain ⟨k, hk⟩ := List.mem_iff_getElem?.mp hm
      exact lv_iinc (v := a + zi d) hx hb hd hl.2 hk (by rw [hz]) (Nat.lt_of_lt_of_le (zok_lt hk0) hl.1) rfl (fun ls' h' => h H locs ls' hP hD hS (zh_set (v := .int (a + zi d)) hl hk0 h'))
    · exact h.elim
  · exact h.elim
theorem zAt_gf (F : zFx p s m args meth c cc nL ret own D C) (hC : zCls) {fl : Nat → Option (Nat × Nat × Nat)} (hF : zFl own fl) {pc idx : Nat} {ws : zS} {lv : zL} {st : List Value} (hd : decode cc pc = .ok (.getfield idx, 3))
    (h : zgf fl (zAt p l e R s m args below meth c D C A nL Q kc ks q) pc ws lv st idx) : zAt p l e R s m args below meth c D C A nL Q kc ks q pc ws lv st := by
  obtain ⟨hx, hb, -, -, ho, hts, hK, -⟩ := F
  intro H locs ls hP hD hS hl
  unfold zgf at h
  split at h
  · rename_i ci j kd a r hfl
    split at h
    · rename_i c' fs hw
      split at h
      · rename_i v hcc hv
        have hcc := Nat.eq_of_beq_eq_true hcc
        subst hcc
        obtain ⟨⟨Cn, T, N⟩, hr, hj, hlk, -⟩ := hF idx _ j kd hfl
        exact va_get (D := D) hx hb hts (hC _ _ hr).1 ho hK hP a (zw_of hw) hr j hj (hts _ hlk) (fun _ h9 => h9) (by rw [List.getElem?_map, hv]; rfl) hd (h H locs ls hP hD hS hl)
      · exact h.elim
    · exact h.elim
  · exact h.elim
theorem zAt_pf (F : zFx p s m args meth c cc nL ret own D C) (hC : zCls) {fl : Nat → Option (Nat × Nat × Nat)} (hF : zFl own fl) {pc idx : Nat} {ws : zS} {lv : zL} {st : List Value} (hd : decode cc pc = .ok (.putfield idx, 3))
    (h : zpf fl (zAt p l e R s m args below meth c D C A nL Q kc ks q) pc ws lv st idx) : zAt p l e R s m args below meth c D C A nL Q kc ks q pc ws lv st := by
  obtain ⟨hx, hb, -, -, ho, hts, hK, -⟩ := F
  intro H locs ls hP hD hS hl
  unfold zpf at h
  split at h
  · rename_i ci j kd x a r hfl
    split at h
    · rename_i c' fs hw
      split at h
      · rename_i hcc hlt
        have hcc := Nat.eq_of_beq_eq_true hcc
        subst hcc
        obtain ⟨⟨Cn, T, N⟩, hr, hj, hlk, h0, -⟩ := hF idx _ j _ hfl
        obtain ⟨h1, ty0, h2, h3⟩ := hC _ _ hr
        have hlt : j < fs.length := by simpa using hlt
        refine va_put (D := D) (ty := .int) (v := .int x) hx hb hts h1 ty0 h2 h3 ho hK hP hD hS a (zw_of hw) hr j hj (hts _ hlk) (fun _ h9 => h9) (h0 rfl).1 (by rw [(h0 rfl).2]; decide +kernel) rfl rfl (by rw [List.length_map]; exact hlt) hd (fun H1 locs1 hP hD hS => ?_)
        have e1 : (zw C q ws).set a (q a, Sum.inr (c', (fs.map (zv q)).set j (.int x))) = zw C q (ws.set a (.inr (.inr (c', fs.set j (.int x))))) := by
          rw [zw_set]
          show _ = (zw C q ws).set a (q a, Sum.inr (c', (fs.set j (.int x)).map (zv q)))
          rw [List.map_set]
          rfl
        rw [e1] at hP hD
        exact h H1 locs1 ls hP hD hS hl
      · rename_i hcc hlt
        have hcc := Nat.eq_of_beq_eq_true hcc
        subst hcc
        obtain ⟨⟨Cn, T, N⟩, hr, hj, hlk, -, h0⟩ := hF idx _ j _ hfl
        obtain ⟨h1, ty0, h2, h3⟩ := hC _ _ hr
        have hlt : j < fs.length := by simpa using hlt
        obtain ⟨hx01, h⟩ := h
        refine va_put (D := D) (ty := .boolean) (v := .int x) hx hb hts h1 ty0 h2 h3 ho hK hP hD hS a (zw_of hw) hr j hj (hts _ hlk) (fun _ h9 => h9) (h0 rfl).1 (by rw [(h0 rfl).2]; decide +kernel) (by rcases hx01 with rfl | rfl <;> decide +kernel) (by rcases hx01 with rfl | rfl <;> decide +kernel) (by rw [List.length_map]; exact hlt) hd (fun H1 locs1 hP hD hS => ?_)
        have e1 : (zw C q ws).set a (q a, Sum.inr (c', (fs.map (zv q)).set j (.int x))) = zw C q (ws.set a (.inr (.inr (c', fs.set j (.int x))))) := by
          rw [zw_set]
          show _ = (zw C q ws).set a (q a, Sum.inr (c', (fs.set j (.int x)).map (zv q)))
          rw [List.map_set]
          rfl
        rw [e1] at hP hD
        exact h H1 locs1 ls hP hD hS hl
      · exact h.elim
    · exact h.elim
  · exact h.elim
theorem zAt_ia (F : zFx p s m args meth c cc nL ret own D C) {pc kd : Nat} {ws : zS} {lv : zL} {st : List Value} (hd : kd = 0 ∧ decode cc pc = .ok (.iaload, 1) ∨ kd = 1 ∧ decode cc pc = .ok (.baload, 1))
    (h : zia (zAt p l e R s m args below meth c D C A nL Q kc ks q) pc ws lv st kd) : zAt p l e R s m args below meth c D C A nL Q kc ks q pc ws lv st := by
  obtain ⟨hx, hb, -, -, ho, hts, hK, -⟩ := F
  intro H locs ls hP hD hS hl
  unfold zia at h
  split at h
  · rename_i i a r
    split at h
    · rename_i k' n f hw
      split at h
      · rename_i hkk hnn
        have hkk := Nat.eq_of_beq_eq_true hkk
        subst hkk
        obtain ⟨j, rfl, hj, h⟩ := h
        have hn : n < 2 ^ 31 := by simpa using hnn
        have hcl : (nI j).toNatClampNeg = j := nI_clamp (by omega)
        rcases hd with ⟨rfl, hd⟩ | ⟨rfl, hd⟩
        · refine va_iald hx hb hK hP a 0 (zw_of hw) rfl (vp_in_nI hj hn) hd ?_
          rw [hcl]
          exact h H locs ls hP hD hS hl
        · refine va_zald hx hb hK hP a 1 (zw_of hw) rfl (vp_in_nI hj hn) hd ?_
          rw [hcl]
          exact h H locs ls hP hD hS hl
      · exact h.elim
    · exact h.elim
  · exact h.elim
theorem zAt_is (F : zFx p s m args meth c cc nL ret own D C) {pc kd : Nat} {ws : zS} {lv : zL} {st : List Value} (hd : kd = 0 ∧ decode cc pc = .ok (.iastore, 1) ∨ kd = 1 ∧ decode cc pc = .ok (.bastore, 1))
    (h : zis (zAt p l e R s m args below meth c D C A nL Q kc ks q) pc ws lv st kd) : zAt p l e R s m args below meth c D C A nL Q kc ks q pc ws lv st := by
  obtain ⟨hx, hb, -, -, ho, hts, hK, -⟩ := F
  intro H locs ls hP hD hS hl
  unfold zis at h
  split at h
  · rename_i x i a r
    split at h
    · rename_i k' n f hw
      split at h
      · rename_i hkk hnn
        have hkk := Nat.eq_of_beq_eq_true hkk
        subst hkk
        obtain ⟨j, rfl, hj, h⟩ := h
        have hn : n < 2 ^ 31 := by simpa using hnn
        have hcl : (nI j).toNatClampNeg = j := nI_clamp (by omega)
        rcases hd with ⟨rfl, hd⟩ | ⟨rfl, hd⟩
        · refine va_iast hx hb hK hP hD hS a 0 (zw_of hw) rfl (vp_in_nI hj hn) hd (fun H1 locs1 hP hD hS => ?_)
          rw [hcl] at hP hD
          have e1 : (zw C q ws).set a (q a, Sum.inl (C.1, n, Sum.inl (upd f j x))) = zw C q (ws.set a (.inl (0, n, upd f j x))) := by
            rw [zw_set]; rfl
          exact h H1 locs1 ls (e1 ▸ hP) (e1 ▸ hD) hS hl
        · refine va_zast hx hb hK hP hD hS a 1 (zw_of hw) rfl (vp_in_nI hj hn) hd (fun H1 locs1 hP hD hS => ?_)
          rw [hcl] at hP hD
          have e1 : (zw C q ws).set a (q a, Sum.inl (C.2.1, n, Sum.inl (upd f j (vp_nar .boolean x)))) = zw C q (ws.set a (.inl (1, n, upd f j (vp_nar .boolean x)))) := by
            rw [zw_set]; rfl
          exact h H1 locs1 ls (e1 ▸ hP) (e1 ▸ hD) hS hl
      · exact h.elim
    · exact h.elim
  · exact h.elim
theorem zAt_al (F : zFx p s m args meth c cc nL ret own D C) {pc : Nat} {ws : zS} {lv : zL} {st : List Value} (hd : decode cc pc = .ok (.arraylength, 1))
    (h : zal (zAt p l e R s m args below meth c D C A nL Q kc ks q) pc ws lv st) : zAt p l e R s m args below meth c D C A nL Q kc ks q pc ws lv st := by
  obtain ⟨hx, hb, -, -, ho, hts, hK, -⟩ := F
  intro H locs ls hP hD hS hl
  unfold zal at h
  split at h
  · rename_i a r
    split at h
    · rename_i k' n f hw
      by_cases hk : k' = 0
      · exact va_alen (v := nI n) (x := (n, .inl f)) hx hb hK hP a 0 (cA := C.1) (by rw [zw_of hw]; simp [zc, hk]) (rfl : (ztys C)[0]? = _) rfl hd (h H locs ls hP hD hS hl)
      · exact va_alen (v := nI n) (x := (n, .inl f)) hx hb hK hP a 1 (cA := C.2.1) (by rw [zw_of hw]; simp [zc, hk]) (rfl : (ztys C)[1]? = _) rfl hd (h H locs ls hP hD hS hl)
    · rename_i n f hw
      exact va_alen (v := nI n) (x := (n, .inr (.inr (.inr (.inr (fun j => (f j).map q)))))) hx hb hK hP a 2 (cA := C.2.2) (zw_of hw) (rfl : (ztys C)[2]? = _) rfl hd (h H locs ls hP hD hS hl)
    · exact h.elim
  · exact h.elim
end ZA
section ZB
variable {p : Program} {l : Launch} {e : Env} {R : Room} {s : State} {m : MethodId} {args : Array Value} {below : List Frame} {meth : Method} {c : Code}
variable {cc : ByteArray} {nL : Nat} {ret : Option FieldType} {own : String} {D : va_G} {C : zC} {A : Nat → Prop} {kc ks mc ms : Nat} {q : Nat → Nat} {Qc : Array Value → State → Outcome → State → Prop}
/-- what is to be shown where a method returns -/
def zRe (s : State) (args : Array Value) (D : va_G) (C : zC) (A : Nat → Prop) (q : Nat → Nat) (ret : Option FieldType) (Qc : Array Value → State → Outcome → State → Prop) (ws : zS) (rv : Option Value) : Prop :=
  zRt ret rv ∧ ∀ (H : Heap) (locs : List Loc) (t : State), va_P D vwCl (zw C q ws) H → va_D A (zw C q ws) → va_S A s.heap H locs → t.heap = H → s.WarmedH t.vm → Qc args s (.returned (rv.map (zv q))) t
set_option maxHeartbeats 4000000 in
theorem zstp_sound (F : zFx p s m args meth c cc nL ret own D C) (hC : zCls) {fl : Nat → Option (Nat × Nat × Nat)} {ki : Nat → Option Int32} {kj : Nat → Option Int64} (hT : zTb own fl ki kj) {K k : zP} {Kr : zS → Option Value → Prop}
    (hkc : kc ≤ mc) (hks : ks ≤ ms)
    (hK : ∀ pc ws lv st, K pc ws lv st → zAt p l e R s m args below meth c D C A nL (MQ below Qc args s mc ms A) kc ks q pc ws lv st)
    (hk : ∀ pc ws lv st, k pc ws lv st → zAt p l e R s m args below meth c D C A nL (MQ below Qc args s mc ms A) kc ks q pc ws lv st)
    (hR : ∀ ws rv, Kr ws rv → zRe s args D C A q ret Qc ws rv)
    {i : Instr} {l0 pc : Nat} {ws : zS} {lv : zL} {st : List Value} (hd : decode cc pc = .ok (i, l0)) (hl0 : zisw i = true ∨ l0 = zlen i) (hok : zokI pc i = true) (h : zstp fl ki kj K Kr k i pc ws lv st) :
    zAt p l e R s m args below meth c D C A nL (MQ below Qc args s mc ms A) kc ks q pc ws lv st := by
  have hd1 : zisw i = false → decode cc pc = .ok (i, zlen i) := fun hs => by
    rcases hl0 with h0 | h0
    · rw [hs] at h0; cases h0
    · rw [← h0]; exact hd
  have F0' := F
  obtain ⟨hx, hb, hml, hr, ho, hts, hKs, hlocks⟩ := F
  cases i
  case aconst_null => intro H locs ls hP hD hS hl; exact lv_null hx hb (hd1 rfl) (hk _ _ _ _ h H locs ls hP hD hS hl)
  case aload n => exact zAt_ald F0' (Or.inl ⟨hd1 rfl, rfl⟩) (by revert h; show zald k _ _ _ _ _ → _; unfold zald; split <;> first | exact hk _ _ _ _ | exact id)
  case aload_n n => exact zAt_ald F0' (Or.inr ⟨n, hd1 rfl, rfl, rfl⟩) (by revert h; show zald k _ _ _ _ _ → _; unfold zald; split <;> first | exact hk _ _ _ _ | exact id)
  case iload n => exact zAt_ild F0' (Or.inl ⟨hd1 rfl, rfl⟩) (by revert h; show zild k _ _ _ _ _ → _; unfold zild; split <;> first | exact hk _ _ _ _ | exact id)
  case iload_n n => exact zAt_ild F0' (Or.inr ⟨n, hd1 rfl, rfl, rfl⟩) (by revert h; show zild k _ _ _ _ _ → _; unfold zild; split <;> first | exact hk _ _ _ _ | exact id)
  case lload n => exact zAt_lld F0' (Or.inl ⟨hd1 rfl, rfl⟩) (by revert h; show zlld k _ _ _ _ _ → _; unfold zlld; split <;> first | exact hk _ _ _ _ | exact id)
  case lload_n n => exact zAt_lld F0' (Or.inr ⟨n, hd1 rfl, rfl, rfl⟩) (by revert h; show zlld k _ _ _ _ _ → _; unfold zlld; split <;> first | exact hk _ _ _ _ | exact id)
  case istore n => exact zAt_ist F0' (Or.inl ⟨hd1 rfl, rfl⟩) (by revert h; show zist k _ _ _ _ _ → _; unfold zist; split <;> (try split) <;> first | exact hk _ _ _ _ | exact id)
  case istore_n n => exact zAt_ist F0' (Or.inr ⟨n, hd1 rfl, rfl, rfl⟩) (by revert h; show zist k _ _ _ _ _ → _; unfold zist; split <;> (try split) <;> first | exact hk _ _ _ _ | exact id)
  case astore n => exact zAt_ast F0' (Or.inl ⟨hd1 rfl, rfl⟩) (by revert h; show zast k _ _ _ _ _ → _; unfold zast; split <;> (try split) <;> first | exact hk _ _ _ _ | exact id)
  case astore_n n => exact zAt_ast F0' (Or.inr ⟨n, hd1 rfl, rfl, rfl⟩) (by revert h; show zast k _ _ _ _ _ → _; unfold zast; split <;> (try split) <;> first | exact hk _ _ _ _ | exact id)
  case iinc n d => exact zAt_inc F0' (hd1 rfl) (of_decide_eq_true hok) (by revert h; show zinc k _ _ _ _ _ _ → _; unfold zinc; split <;> (try split) <;> first | exact hk _ _ _ _ | exact id)
  case iconst n => intro H locs ls hP hD hS hl; exact lv_iconst hx hb (hd1 rfl) (of_decide_eq_true hok) (hk _ _ _ _ h H locs ls hP hD hS hl)
  case bipush n => intro H locs ls hP hD hS hl; exact lv_bipush hx hb (hd1 rfl) (of_decide_eq_true hok) (hk _ _ _ _ h H locs ls hP hD hS hl)
  case sipush n => intro H locs ls hP hD hS hl; exact lv_sipush hx hb (hd1 rfl) (of_decide_eq_true hok) (hk _ _ _ _ h H locs ls hP hD hS hl)
  case lconst n => intro H locs ls hP hD hS hl; exact lv_lconst hx hb (hd1 rfl) rfl (hk _ _ _ _ h H locs ls hP hD hS hl)
  case ldc idx =>
    have h : (match ki idx with
      | some v => k (pc + 2) ws lv (.int v :: st)
      | none => False) := h
    split at h
    · rename_i v hv
      intro H locs ls hP hD hS hl; exact lv_ldc hx hb ho (hts _ (hT.2.1 idx v hv)) (hd1 rfl) (hk _ _ _ _ h H locs ls hP hD hS hl)
    · exact h.elim
  case ldc2_w idx =>
    have h : (match kj idx with
      | some v => k (pc + 3) ws lv (.long v :: st)
      | none => False) := h
    split at h
    · rename_i v hv
      intro H locs ls hP hD hS hl; exact lv_ldc2 hx hb ho (hts _ (hT.2.2 idx v hv)) (hd1 rfl) (hk _ _ _ _ h H locs ls hP hD hS hl)
    · exact h.elim
  case iadd => obtain ⟨x, y, r, rfl, h⟩ := zI2_inv (show zI2 st fun x y r => k (pc + 1) ws lv (.int (x + y) :: r) from h); intro H locs ls hP hD hS hl; exact lv_iadd hx hb (hd1 rfl) (hk _ _ _ _ h H locs ls hP hD hS hl)
  case isub => obtain ⟨x, y, r, rfl, h⟩ := zI2_inv (show zI2 st fun x y r => k (pc + 1) ws lv (.int (x - y) :: r) from h); intro H locs ls hP hD hS hl; exact lv_isub hx hb (hd1 rfl) (hk _ _ _ _ h H locs ls hP hD hS hl)
  case imul => obtain ⟨x, y, r, rfl, h⟩ := zI2_inv (show zI2 st fun x y r => k (pc + 1) ws lv (.int (x * y) :: r) from h); intro H locs ls hP hD hS hl; exact lv_imul hx hb (hd1 rfl) (hk _ _ _ _ h H locs ls hP hD hS hl)
  case iand => obtain ⟨x, y, r, rfl, h⟩ := zI2_inv (show zI2 st fun x y r => k (pc + 1) ws lv (.int (x &&& y) :: r) from h); intro H locs ls hP hD hS hl; exact lv_iand hx hb (hd1 rfl) (hk _ _ _ _ h H locs ls hP hD hS hl)
  case ior => obtain ⟨x, y, r, rfl, h⟩ := zI2_inv (show zI2 st fun x y r => k (pc + 1) ws lv (.int (x ||| y) :: r) from h); intro H locs ls hP hD hS hl; exact lv_ior hx hb (hd1 rfl) (hk _ _ _ _ h H locs ls hP hD hS hl)
  case ixor => obtain ⟨x, y, r, rfl, h⟩ := zI2_inv (show zI2 st fun x y r => k (pc + 1) ws lv (.int (x ^^^ y) :: r) from h); intro H locs ls hP hD hS hl; exact lv_ixor hx hb (hd1 rfl) (hk _ _ _ _ h H locs ls hP hD hS hl)
  case idiv => obtain ⟨x, y, r, rfl, h0, h⟩ := zI2_inv (show zI2 st fun x y r => ¬ y = 0 ∧ k (pc + 1) ws lv (.int (x / y) :: r) from h); intro H locs ls hP hD hS hl; exact lv_idiv hx hb (hd1 rfl) h0 (hk _ _ _ _ h H locs ls hP hD hS hl)
  case irem => obtain ⟨x, y, r, rfl, h0, h⟩ := zI2_inv (show zI2 st fun x y r => ¬ y = 0 ∧ k (pc + 1) ws lv (.int (x - x / y * y) :: r) from h); intro H locs ls hP hD hS hl; exact lv_irem hx hb (hd1 rfl) h0 (hk _ _ _ _ h H locs ls hP hD hS hl)
  case ineg => obtain ⟨x, r, rfl, h⟩ := zI1_inv (show zI1 st fun x r => k (pc + 1) ws lv (.int (-x) :: r) from h); intro H locs ls hP hD hS hl; exact lv_ineg hx hb (hd1 rfl) (hk _ _ _ _ h H locs ls hP hD hS hl)
  case ishl => obtain ⟨x, y, r, rfl, h⟩ := zI2_inv (show zI2 st fun x y r => k (pc + 1) ws lv (.int (x <<< (y &&& 31)) :: r) from h); intro H locs ls hP hD hS hl; exact lv_ishl hx hb (hd1 rfl) (hk _ _ _ _ h H locs ls hP hD hS hl)
  case ishr => obtain ⟨x, y, r, rfl, h⟩ := zI2_inv (show zI2 st fun x y r => k (pc + 1) ws lv (.int (x >>> (y &&& 31)) :: r) from h); intro H locs ls hP hD hS hl; exact lv_ishr hx hb (hd1 rfl) (hk _ _ _ _ h H locs ls hP hD hS hl)
  case i2l => obtain ⟨x, r, rfl, h⟩ := zI1_inv (show zI1 st fun x r => k (pc + 1) ws lv (.long x.toInt64 :: r) from h); intro H locs ls hP hD hS hl; exact lv_i2l hx hb (hd1 rfl) rfl (hk _ _ _ _ h H locs ls hP hD hS hl)
  case l2i => obtain ⟨x, r, rfl, h⟩ := zJ1_inv (show zJ1 st fun x r => k (pc + 1) ws lv (.int x.toInt32 :: r) from h); intro H locs ls hP hD hS hl; exact lv_l2i hx hb (hd1 rfl) rfl (hk _ _ _ _ h H locs ls hP hD hS hl)
  case i2c => obtain ⟨x, r, rfl, h⟩ := zI1_inv (show zI1 st fun x r => k (pc + 1) ws lv (.int (x.toUInt32 % 65536).toInt32 :: r) from h); intro H locs ls hP hD hS hl; exact lv_i2c hx hb (hd1 rfl) rfl (hk _ _ _ _ h H locs ls hP hD hS hl)
  case land => obtain ⟨x, y, r, rfl, h⟩ := zJ2_inv (show zJ2 st fun x y r => k (pc + 1) ws lv (.long (x &&& y) :: r) from h); intro H locs ls hP hD hS hl; exact lv_land hx hb (hd1 rfl) (hk _ _ _ _ h H locs ls hP hD hS hl)
  case lor => obtain ⟨x, y, r, rfl, h⟩ := zJ2_inv (show zJ2 st fun x y r => k (pc + 1) ws lv (.long (x ||| y) :: r) from h); intro H locs ls hP hD hS hl; exact lv_lor hx hb (hd1 rfl) (hk _ _ _ _ h H locs ls hP hD hS hl)
  case lcmp => obtain ⟨x, y, r, rfl, h⟩ := zJ2_inv (show zJ2 st fun x y r => k (pc + 1) ws lv (.int (lg_cmp x y) :: r) from h); intro H locs ls hP hD hS hl; exact W.lcmp hx hb (hd1 rfl) (hk _ _ _ _ h H locs ls hP hD hS hl)
  case lshl => obtain ⟨x, y, r, rfl, h⟩ := zJI_inv (show zJI st fun x y r => k (pc + 1) ws lv (.long (x <<< (y.toInt64 &&& 63)) :: r) from h); intro H locs ls hP hD hS hl; exact lv_lshl hx hb (hd1 rfl) rfl (hk _ _ _ _ h H locs ls hP hD hS hl)
  case lshr => obtain ⟨x, y, r, rfl, h⟩ := zJI_inv (show zJI st fun x y r => k (pc + 1) ws lv (.long (x >>> (y.toInt64 &&& 63)) :: r) from h); intro H locs ls hP hD hS hl; exact lv_lshr hx hb (hd1 rfl) rfl (hk _ _ _ _ h H locs ls hP hD hS hl)
  case lushr => obtain ⟨x, y, r, rfl, h⟩ := zJI_inv (show zJI st fun x y r => k (pc + 1) ws lv (.long (x.toUInt64 >>> (y.toInt64.toUInt64 &&& Int64.toUInt64 63)).toInt64 :: r) from h); intro H locs ls hP hD hS hl; exact lv_lushr hx hb (hd1 rfl) rfl (hk _ _ _ _ h H locs ls hP hD hS hl)
  case dup =>
    simp only [zstp] at h
    split at h
    · split at h
      · rename_i hv
        intro H locs ls hP hD hS hl; exact lv_dup hx hb (hd1 rfl) (zc1_cat hv) (hk _ _ _ _ h H locs ls hP hD hS hl)
      · exact h.elim
    · exact h.elim
  case pop =>
    simp only [zstp] at h
    split at h
    · split at h
      · rename_i hv
        intro H locs ls hP hD hS hl; exact lv_pop hx hb (hd1 rfl) (zc1_cat hv) (hk _ _ _ _ h H locs ls hP hD hS hl)
      · exact h.elim
    · exact h.elim
  case dup_x1 =>
    simp only [zstp] at h
    split at h
    · split at h
      · rename_i hv hw
        intro H locs ls hP hD hS hl; exact lv_dup_x1 hx hb (hd1 rfl) (zc1_cat hv) (zc1_cat hw) (hk _ _ _ _ h H locs ls hP hD hS hl)
      · exact h.elim
    · exact h.elim
  case dup2 =>
    simp only [zstp] at h
    split at h
    · split at h
      · rename_i hv hw
        intro H locs ls hP hD hS hl; exact lv_dup2_11 hx hb (hd1 rfl) (zc1_cat hv) (zc1_cat hw) (hk _ _ _ _ h H locs ls hP hD hS hl)
      · exact h.elim
    · exact h.elim
  case goto o => intro H locs ls hP hD hS hl; exact lv_goto hx hb (hd1 rfl) (ztok_eq hok) (hk _ _ _ _ h H locs ls hP hD hS hl)
  case ifnull o =>
    simp only [zstp] at h
    split at h
    · intro H locs ls hP hD hS hl; exact lv_ifnull hx hb (hd1 rfl) (hk _ _ _ _ h H locs ls hP hD hS hl)
    · intro H locs ls hP hD hS hl; exact lv_ifnullN hx hb (hd1 rfl) (ztok_eq hok) (hk _ _ _ _ h H locs ls hP hD hS hl)
    · exact h.elim
  case ifnonnull o =>
    simp only [zstp] at h
    split at h
    · intro H locs ls hP hD hS hl; exact lv_ifnonnull hx hb (hd1 rfl) (ztok_eq hok) (hk _ _ _ _ h H locs ls hP hD hS hl)
    · intro H locs ls hP hD hS hl; exact lv_ifnonnullN hx hb (hd1 rfl) (hk _ _ _ _ h H locs ls hP hD hS hl)
    · exact h.elim
  case ifCond cd o =>
    cases cd <;> (obtain ⟨x, r, rfl, h1, h2⟩ := zI1_inv (by simpa only [zstp] using h); intro H locs ls hP hD hS hl)
    · exact lv_if_eq hx hb (hd1 rfl) (ztok_eq hok) (fun g => hk _ _ _ _ (h1 g) H locs ls hP hD hS hl) (fun g => hk _ _ _ _ (h2 g) H locs ls hP hD hS hl)
    · exact lv_if_ne hx hb (hd1 rfl) (ztok_eq hok) (fun g => hk _ _ _ _ (h1 g) H locs ls hP hD hS hl) (fun g => hk _ _ _ _ (h2 g) H locs ls hP hD hS hl)
    · exact lv_if_lt hx hb (hd1 rfl) (ztok_eq hok) (fun g => hk _ _ _ _ (h1 g) H locs ls hP hD hS hl) (fun g => hk _ _ _ _ (h2 g) H locs ls hP hD hS hl)
    · exact lv_if_ge hx hb (hd1 rfl) (ztok_eq hok) (fun g => hk _ _ _ _ (h1 g) H locs ls hP hD hS hl) (fun g => hk _ _ _ _ (h2 g) H locs ls hP hD hS hl)
    · exact lv_if_gt hx hb (hd1 rfl) (ztok_eq hok) (fun g => hk _ _ _ _ (h1 g) H locs ls hP hD hS hl) (fun g => hk _ _ _ _ (h2 g) H locs ls hP hD hS hl)
    · exact lv_if_le hx hb (hd1 rfl) (ztok_eq hok) (fun g => hk _ _ _ _ (h1 g) H locs ls hP hD hS hl) (fun g => hk _ _ _ _ (h2 g) H locs ls hP hD hS hl)
  case if_icmp cd o =>
    cases cd <;> (obtain ⟨x, y, r, rfl, h1, h2⟩ := zI2_inv (by simpa only [zstp] using h); intro H locs ls hP hD hS hl)
    · exact lv_icmp_eq hx hb (hd1 rfl) (ztok_eq hok) (fun g => hk _ _ _ _ (h1 g) H locs ls hP hD hS hl) (fun g => hk _ _ _ _ (h2 g) H locs ls hP hD hS hl)
    · exact lv_icmp_ne hx hb (hd1 rfl) (ztok_eq hok) (fun g => hk _ _ _ _ (h1 g) H locs ls hP hD hS hl) (fun g => hk _ _ _ _ (h2 g) H locs ls hP hD hS hl)
    · exact lv_icmp_lt hx hb (hd1 rfl) (ztok_eq hok) (fun g => hk _ _ _ _ (h1 g) H locs ls hP hD hS hl) (fun g => hk _ _ _ _ (h2 g) H locs ls hP hD hS hl)
    · exact lv_icmp_ge hx hb (hd1 rfl) (ztok_eq hok) (fun g => hk _ _ _ _ (h1 g) H locs ls hP hD hS hl) (fun g => hk _ _ _ _ (h2 g) H locs ls hP hD hS hl)
    · exact lv_icmp_gt hx hb (hd1 rfl) (ztok_eq hok) (fun g => hk _ _ _ _ (h1 g) H locs ls hP hD hS hl) (fun g => hk _ _ _ _ (h2 g) H locs ls hP hD hS hl)
    · exact lv_icmp_le hx hb (hd1 rfl) (ztok_eq hok) (fun g => hk _ _ _ _ (h1 g) H locs ls hP hD hS hl) (fun g => hk _ _ _ _ (h2 g) H locs ls hP hD hS hl)
  case tableswitch d lo hi offs =>
    obtain ⟨x, r, rfl, h1, h2⟩ := zI1_inv (show zI1 st fun x r => zts (fun t => k t ws lv r) pc x lo offs.toList ∧ ((x.toInt < lo ∨ hi < x.toInt) → k (zt pc d) ws lv r) from h)
    simp only [zokI, Bool.and_eq_true, decide_eq_true_eq, List.all_eq_true, List.mem_range] at hok
    obtain ⟨⟨⟨hk1, hk2⟩, hk3⟩, hk4⟩ := hok
    intro H locs ls hP hD hS hl
    by_cases hout : x.toInt < lo ∨ hi < x.toInt
    · exact lv_tableOut hx hb hd hout (ztok_eq hk1) (hk _ _ _ _ (h2 hout) H locs ls hP hD hS hl)
    · have g1 : ¬ x.toInt < lo := fun z => hout (Or.inl z)
      have g2 : ¬ hi < x.toInt := fun z => hout (Or.inr z)
      have g3 : (x.toInt - lo).toNat < offs.toList.length := by omega
      have g4 : offs[(x.toInt - lo).toNat]? = some (offs.toList[(x.toInt - lo).toNat]) := by
        rw [← Array.getElem?_toList]; exact List.getElem?_eq_getElem g3
      have g5 : offs.toList[(x.toInt - lo).toNat]? = some (offs.toList[(x.toInt - lo).toNat]) := List.getElem?_eq_getElem g3
      refine lv_tableIn hx hb hd g1 g2 g4 (ztok_eq (hk3 _ (List.getElem_mem g3))) ?_
      exact hk _ _ _ _ (zts_inv _ _ h1 hk4 _ _ g5 (by omega)) H locs ls hP hD hS hl
  case lookupswitch d ps =>
    obtain ⟨x, r, rfl, h1, h2⟩ := zI1_inv (show zI1 st fun x r => zls (fun t => k t ws lv r) pc x ps.toList ∧ (zln x ps.toList → k (zt pc d) ws lv r) from h)
    simp only [zokI, Bool.and_eq_true, List.all_eq_true, decide_eq_true_eq] at hok
    obtain ⟨⟨hk1, hk2⟩, hk3⟩ := hok
    intro H locs ls hP hD hS hl
    have hz := zls_inv d _ h1 h2 (fun e he => (hk2 e he).2)
    have ht : ∀ (ps : List (Int × Int)), (∀ e ∈ ps, ztok pc e.2 = true ∧ (zi e.1).toInt = e.1) → ztok pc (lookupswitch.offset ps d x.toInt) = true := by
      intro ps
      induction ps with
      | nil => intro _; exact hk1
      | cons a r ih =>
        intro hh
        obtain ⟨a1, a2⟩ := a
        rw [lookupswitch.offset_cons]
        split
        · exact (hh _ List.mem_cons_self).1
        · exact ih (fun e he => hh e (List.mem_cons_of_mem _ he))
    exact lv_lookup hx hb hd (List.all_eq_true.mpr (fun z hz => by simpa using hk3 z hz)) rfl (ztok_eq (ht _ hk2)) (hk _ _ _ _ hz H locs ls hP hD hS hl)
  case getfield idx => exact zAt_gf F0' hC hT.1 (hd1 rfl) (by revert h; show zgf fl k _ _ _ _ _ → _; unfold zgf; (repeat' split); all_goals first | exact hk _ _ _ _ | exact id)
  case putfield idx => exact zAt_pf F0' hC hT.1 (hd1 rfl) (by revert h; show zpf fl k _ _ _ _ _ → _; unfold zpf; (repeat' split); all_goals first | exact hk _ _ _ _ | exact And.imp_right (hk _ _ _ _) | exact id)
  case iaload => exact zAt_ia F0' (Or.inl ⟨rfl, hd1 rfl⟩) (by revert h; show zia k _ _ _ _ _ → _; unfold zia; (repeat' split); all_goals first | exact fun ⟨j, h1, h2, h3⟩ => ⟨j, h1, h2, hk _ _ _ _ h3⟩ | exact id)
  case baload => exact zAt_ia F0' (Or.inr ⟨rfl, hd1 rfl⟩) (by revert h; show zia k _ _ _ _ _ → _; unfold zia; (repeat' split); all_goals first | exact fun ⟨j, h1, h2, h3⟩ => ⟨j, h1, h2, hk _ _ _ _ h3⟩ | exact id)
  case iastore => exact zAt_is F0' (Or.inl ⟨rfl, hd1 rfl⟩) (by revert h; show zis k _ _ _ _ _ → _; unfold zis; (repeat' split); all_goals first | exact fun ⟨j, h1, h2, h3⟩ => ⟨j, h1, h2, hk _ _ _ _ h3⟩ | exact id)
  case bastore => exact zAt_is F0' (Or.inr ⟨rfl, hd1 rfl⟩) (by revert h; show zis k _ _ _ _ _ → _; unfold zis; (repeat' split); all_goals first | exact fun ⟨j, h1, h2, h3⟩ => ⟨j, h1, h2, hk _ _ _ _ h3⟩ | exact id)
  case arraylength => exact zAt_al F0' (hd1 rfl) (by revert h; show zal k _ _ _ _ → _; unfold zal; (repeat' split); all_goals first | exact hk _ _ _ _ | exact id)
  case ireturn =>
    simp only [zstp] at h
    split at h
    · rename_i v
      obtain ⟨⟨ty, hrt, hn⟩, hq⟩ := hR _ _ h
      intro H locs ls hP hD hS hl
      refine W.widen hkc hks ?_
      exact W.zret (v := v) hx hb (hr.trans hrt) hn (fun t ht hW => hq H locs t hP hD hS ht hW) hS.2.2 (hd1 rfl)
    · exact h.elim
  case areturn =>
    simp only [zstp] at h
    split at h
    · rename_i a
      obtain ⟨⟨n, hrt⟩, hq⟩ := hR _ _ h
      intro H locs ls hP hD hS hl
      refine W.widen hkc hks ?_
      exact W.aret (v := .ref (q a)) hx hb (hr.trans hrt) (Or.inl ⟨n, rfl⟩) (Or.inr ⟨_, rfl⟩) (fun t ht hW => hq H locs t hP hD hS ht hW) hS.2.2 (hd1 rfl)
    · obtain ⟨⟨n, hrt⟩, hq⟩ := hR _ _ h
      intro H locs ls hP hD hS hl
      refine W.widen hkc hks ?_
      exact W.aret (v := .null) hx hb (hr.trans hrt) (Or.inl ⟨n, rfl⟩) (Or.inl rfl) (fun t ht hW => hq H locs t hP hD hS ht hW) hS.2.2 (hd1 rfl)
    · exact h.elim
  case return_ =>
    simp only [zstp] at h
    split at h
    · obtain ⟨hrt, hq⟩ := hR _ _ h
      intro H locs ls hP hD hS hl
      refine W.widen hkc hks ?_
      exact W.vret hx hb (hr.trans hrt) (fun t ht hW => hq H locs t hP hD hS ht hW) hS.2.2 (hd1 rfl)
    · exact h.elim
  all_goals exact hK _ _ _ _ h
theorem zgo_sound (F : zFx p s m args meth c cc nL ret own D C) (hC : zCls) {fl : Nat → Option (Nat × Nat × Nat)} {ki : Nat → Option Int32} {kj : Nat → Option Int64} (hT : zTb own fl ki kj) {tab : List (Nat × Instr)} (hO : zokC cc tab = true) {stops : List Nat} {K : zP} {Kr : zS → Option Value → Prop}
    (hkc : kc ≤ mc) (hks : ks ≤ ms)
    (hK : ∀ pc ws lv st, K pc ws lv st → zAt p l e R s m args below meth c D C A nL (MQ below Qc args s mc ms A) kc ks q pc ws lv st)
    (hR : ∀ ws rv, Kr ws rv → zRe s args D C A q ret Qc ws rv) : ∀ (n pc : Nat) (ws : zS) (lv : zL) (st : List Value), zgo tab fl ki kj stops K Kr n pc ws lv st →
    zAt p l e R s m args below meth c D C A nL (MQ below Qc args s mc ms A) kc ks q pc ws lv st
  | 0, pc, ws, lv, st, h => hK _ _ _ _ h
  | n + 1, pc, ws, lv, st, h => by
    unfold zgo at h
    split at h
    · rename_i i hi
      obtain ⟨⟨l0, hd, hl0⟩, hok⟩ := zokC_at hO hi
      refine zstp_sound F hC hT hkc hks hK (fun pc ws lv st h => ?_) hR hd hl0 hok h
      split at h
      · exact hK _ _ _ _ h
      · exact zgo_sound F hC hT hO hkc hks hK hR n pc ws lv st h
    · exact h.elim
end ZB
