/-! the law: its world, rows over its room, the script -/
/-- the class's names behind those of the reference -/
def shL (k : Nat) : Nat := if zfo k then k else zsi 22 (zsj 0 k)
theorem shL_lo {k : Nat} (h : k + 22 < zBIG) : shL k = k + 22 := by
  unfold shL zsi zsj
  rw [if_neg (zfo_no (by omega)), if_pos (show k < zBIG by omega), Nat.sub_zero, if_pos h]
theorem shL_F {k : Nat} (h : zfo k) : shL k = k := if_pos h
theorem zsg_shL {n : Nat} (h : n + 22 ≤ zBIG) : zsg shL n (n + 22) = shL := by
  funext k
  unfold zsg
  by_cases h1 : k < n
  · rw [if_pos h1]
  · rw [if_neg h1]
    by_cases h2 : zfo k
    · rw [if_pos h2, shL_F h2]
    · rw [if_neg h2]
      unfold shL
      rw [if_neg h2]
      unfold zsi zsj
      by_cases h3 : k < zBIG
      · rw [if_pos h3, if_pos h3]
        by_cases h4 : k + 22 < zBIG
        · rw [if_pos (by omega), if_pos (by omega)]; omega
        · rw [if_neg (by omega), if_neg (by omega)]; omega
      · rw [if_neg h3, if_neg h3]
        rw [if_neg (by omega), if_neg (by omega)]; omega
section TL
variable {M : zM} {wc w : zS}
theorem zsb_tl (h : wc.length + 22 < zBIG) : zsb shL (mdW 0 M ++ wc.map (zr shL)) wc := ⟨fun k x hx => by
  have hk : k < wc.length := (List.getElem?_eq_some_iff.mp hx).1
  rw [shL_lo (by omega), List.getElem?_append_right (by rw [mdW_len]; omega), mdW_len, Nat.add_sub_cancel, List.getElem?_map, hx]; rfl, fun i j hi hj e => by
  rw [shL_lo (by omega), shL_lo (by omega)] at e
  omega⟩
theorem tl_len : (mdW 0 M ++ wc.map (zr shL)).length = wc.length + 22 := by
  rw [List.length_append, List.length_map, mdW_len]; omega
theorem zpl_tl (h : wc.length + 22 < zBIG) (hw : w.length = wc.length) : zpl shL (mdW 0 M ++ wc.map (zr shL)) wc.length w (mdW 0 M ++ w.map (zr shL)) := ⟨by rw [tl_len, tl_len, hw], (zsb_tl (by rw [hw]; exact h)).1, fun i hi => by
  by_cases h1 : i < 22
  · rw [List.getElem?_append_left (by rw [mdW_len]; exact h1), List.getElem?_append_left (by rw [mdW_len]; exact h1)]
  · by_cases h2 : i - 22 < wc.length
    · exact absurd (by rw [shL_lo (by omega)]; omega) (hi (i - 22) h2)
    · rw [List.getElem?_eq_none (by rw [tl_len]; omega), List.getElem?_eq_none (by rw [tl_len]; omega)]⟩
theorem zplA_tl (h : w.length + 22 < zBIG) (hw : wc.length ≤ w.length) : zplA shL (mdW 0 M ++ wc.map (zr shL)) wc.length w (mdW 0 M ++ w.map (zr shL)) := by
  unfold zplA
  rw [tl_len (wc := wc), zsg_shL (by omega)]
  refine ⟨by rw [tl_len]; omega, (zsb_tl h).1, fun i hi hne => ?_⟩
  by_cases h1 : i < 22
  · rw [List.getElem?_append_left (by rw [mdW_len]; exact h1), List.getElem?_append_left (by rw [mdW_len]; exact h1)]
  · exact absurd (by rw [shL_lo (by omega)]; omega) (hne (i - 22) (by omega))
theorem zcV_md {n r : Nat} {x : Int32} (hn : 22 ≤ n) (hr : r < 22) : zcV n (.ref r) ∧ zcV n (.int x) := ⟨zcV_r (by omega), zcV_i⟩
theorem zcE_md {n : Nat} (hn : 22 ≤ n) : ∀ x ∈ mdW 0 M, zcE n x := fun x hx => by
  unfold mdW at hx
  rcases List.mem_cons.mp hx with rfl | hx
  · intro v hv
    simp only [List.mem_cons, List.not_mem_nil, or_false] at hv
    rcases hv with rfl | rfl | rfl | rfl | rfl | rfl | rfl | rfl | rfl | rfl | rfl | rfl | rfl | rfl | rfl | rfl | rfl | rfl | rfl | rfl | rfl | rfl | rfl | rfl | rfl | rfl | rfl | rfl | rfl | rfl | rfl | rfl | rfl | rfl | rfl | rfl | rfl | rfl | rfl | rfl | rfl | rfl | rfl <;> first
      | exact zcV_i
      | exact zcV_r (by omega)
  · simp only [List.mem_cons, List.not_mem_nil, or_false] at hx
    rcases hx with rfl | rfl | rfl | rfl | rfl | rfl | rfl | rfl | rfl | rfl | rfl | rfl | rfl | rfl | rfl | rfl | rfl | rfl | rfl | rfl | rfl <;> trivial
theorem zcN_sh {n r : Nat} (hn : n + 22 < zBIG) (h : r < n ∨ zfo r) : shL r < n + 22 ∨ zfo (shL r) := h.elim (fun z => Or.inl (by rw [shL_lo (by omega)]; omega)) (fun z => Or.inr (by rw [shL_F z]; exact z))
theorem zcV_sh {n : Nat} (hn : n + 22 < zBIG) {v : Value} (h : zcV n v) : zcV (n + 22) (zv shL v) := by
  cases v <;> first
    | (intro r' e; cases e; done)
    | (rename_i r; intro r' e; cases e; exact zcN_sh hn (h r rfl))
theorem zcE_sh {n : Nat} (hn : n + 22 < zBIG) {x : zE} (h : zcE n x) : zcE (n + 22) (zr shL x) := by
  match x, h with
  | .inl _, _ => exact trivial
  | .inr (.inl (k, f)), h =>
    intro j hj r hr
    obtain ⟨r', hr', rfl⟩ := Option.map_eq_some_iff.mp (show (f j).map shL = some r from hr)
    exact (h j hj r' hr').elim (fun z => Or.inl (by rw [shL_lo (by omega)]; omega)) (fun z => Or.inr (by rw [shL_F z]; exact z))
  | .inr (.inr (ci, fs)), h =>
    intro v hv
    obtain ⟨v', hv', rfl⟩ := List.mem_map.mp (show v ∈ fs.map (zv shL) from hv)
    exact zcV_sh hn (h v' hv')
theorem zcW_tl (h : wc.length + 22 < zBIG) (hc : zcW wc) : zcW (mdW 0 M ++ wc.map (zr shL)) := fun x hx => by
  rw [tl_len]
  rcases List.mem_append.mp hx with h1 | h1
  · exact zcE_md (by omega) x h1
  · obtain ⟨y, hy, rfl⟩ := List.mem_map.mp h1
    exact zcE_sh h (hc y hy)
end TL
/-- the law's world -/
def LW (M : zM) (Y : zY) (P : List zRu) : zS := mdW 0 M ++ (yamW 53 Y ++ pol 53 P).map (zr shL)
theorem yp_len {Y : zY} {P : List zRu} : (yamW 53 Y ++ pol 53 P).length = 53 + P.length := by rw [List.length_append, pol_len]; rfl
/-- names that are good -/
def clI (q : Nat → Nat) (n : Nat) (I : zI) : zI := (I.1, I.2.1, fun j => if j < 10 then (I.2.2 j).map (fun r => if r < n ∨ zfo (r + 53) then r else zBIG + 2 * (q (r + 53) + 1) - 53) else none)
def clY (q : Nat → Nat) (n : Nat) (Y : zY) : zY := (fun k => clI q n (Y.1 k), Y.2)
theorem clY_c (q : Nat → Nat) (P : List zRu) (Y : zY) : zcY P (clY q P.length Y) := fun k _ j r hr => by
  have hr : (if j < 10 then ((Y.1 k).2.2 j).map (fun r => if r < P.length ∨ zfo (r + 53) then r else zBIG + 2 * (q (r + 53) + 1) - 53) else none) = some r := hr
  split at hr
  · obtain ⟨r', -, e⟩ := Option.map_eq_some_iff.mp hr
    split at e
    · subst e; assumption
    · subst e
      refine Or.inr ⟨?_, ?_⟩ <;> unfold zBIG <;> omega
  · cases hr
theorem clI_lt {q : Nat → Nat} {P : List zRu} {I : zI} {j i : Nat} (hj : j < 10) (h : I.2.2 j = some i) (hi : i < P.length) : (clI q P.length I).2.2 j = some i := by
  show (if j < 10 then (I.2.2 j).map _ else none) = _
  rw [if_pos hj, h]
  show some (if i < P.length ∨ zfo (i + 53) then i else _) = _
  rw [if_pos (Or.inl hi)]
theorem clI_rep {q : Nat → Nat} {P : List zRu} {I : zI} {t : zT} (h10 : t.1 2 ≤ 10) (h : repI P I t) : repI P (clI q P.length I) t := by
  refine ⟨h.1, h.2.1, fun r hr => ?_, fun k hk r hkr => ?_⟩
  · obtain ⟨i, g1, g2, g3⟩ := h.2.2.1 r hr
    refine ⟨i, clI_lt (by omega) g1 g2, g2, fun x => ?_⟩
    rw [← g3 x]
    unfold dnI
    rw [clI_lt (by omega) g1 g2, g1]
  · cases hI : I.2.2 k with
    | none =>
      have hkr : (if k < 10 then (I.2.2 k).map _ else none) = some r := hkr
      rw [if_pos hk, hI] at hkr
      cases hkr
    | some i =>
      have := h.2.2.2 k hk i hI
      rw [clI_lt hk hI this] at hkr
      cases hkr
      exact this
theorem clY_rep {q : Nat → Nat} {P : List zRu} {Y : zY} {S : zF} {c : Nat} (h : repY P Y S c) : repY P (clY q P.length Y) S c := by
  obtain ⟨h1, ⟨h2, h3⟩, h4, h5⟩ := h
  refine ⟨h1, ⟨clI_rep h3.1.2.2.2.1 h2, h3⟩, ?_, h5⟩
  revert h4
  cases S.2.1 with
  | none => exact id
  | some t => exact fun z => ⟨clI_rep z.2.1.1.2.2.2.1 z.1, z.2.1, z.2.2⟩
section ZL
variable {p : Program} {l : Launch} {e : Env} {R : Room} {s : State} {m : MethodId} {args : Array Value} {below : List Frame} {meth : Method} {c : Code}
variable {cc : ByteArray} {nL : Nat} {ret : Option FieldType} {own : String} {D : va_G} {C : zC} {A : Nat → Prop} {Qc : Array Value → State → Outcome → State → Prop} {kc ks pc : Nat} {q q0 : Nat → Nat} {tab : List (Nat × Instr)} {lv : zL} {st : List Value}
/-- other cells that say the same -/
theorem zAt_w {Q : State → Prop} {ws ws' : zS} (hl : ws'.length = ws.length) (h : ∀ i x, ws[i]? = some x → ∃ x', ws'[i]? = some x' ∧ ∀ H : Heap, va_at D vwCl (q i, zc C q x) H → va_at D vwCl (q i, zc C q x') H) (kk : zAt p l e R s m args below meth c D C A nL Q kc ks q pc ws' lv st) : zAt p l e R s m args below meth c D C A nL Q kc ks q pc ws lv st := by
  intro H locs ls hP hD hS hll
  have hex : ∀ (i : Nat) (y : Nat × va_E), (zw C q ws')[i]? = some y → ∃ (x x' : zE), ws[i]? = some x ∧ ws'[i]? = some x' ∧ y = (q i, zc C q x') := fun i y hy => by
    rw [zw_at] at hy
    obtain ⟨x', hx', rfl⟩ := Option.map_eq_some_iff.mp hy
    have hi : i < ws.length := by rw [← hl]; exact (List.getElem?_eq_some_iff.mp hx').1
    exact ⟨ws[i], x', List.getElem?_eq_getElem hi, hx', rfl⟩
  refine kk H locs ls (fun i y hy => ?_) ⟨fun i j y z hy hz hyz => ?_, fun i y hy => ?_⟩ hS hll
  · obtain ⟨x, x', h1, h2, rfl⟩ := hex i y hy
    obtain ⟨x'', h3, h4⟩ := h i x h1
    rw [h2] at h3
    cases h3
    exact h4 H (hP i _ (zw_of h1))
  · obtain ⟨x, x', h1, h2, rfl⟩ := hex i y hy
    obtain ⟨z0, z', h3, h4, rfl⟩ := hex j z hz
    exact hD.1 i j _ _ (zw_of h1) (zw_of h3) hyz
  · obtain ⟨x, x', h1, h2, rfl⟩ := hex i y hy
    exact hD.2 i (q i, zc C q x) (zw_of h1)
/-- the same cells under other names -/
theorem zZ_perm {ws ws2 : zS} {lv2 : zL} {st2 : List Value} {τ : Nat → Nat} (hτ : zsb τ ws ws2) (hF : ∀ i, zfo i → τ i = i) (hlv : lv = lv2.map (Option.map (zv τ))) (hst : st = st2.map (zv τ)) (kk : zZ p l e R s m args below meth c D C A nL Qc 0 q0 kc ks pc ws2 lv2 st2) : zZ p l e R s m args below meth c D C A nL Qc 0 q0 kc ks pc ws lv st := fun q hq => by
  intro H locs ls hP hD hS hll
  have hla : ∀ (lv2 : zL) (i : Nat), zla (fun i => q (τ i)) i lv2 = zla q i (lv2.map (Option.map (zv τ))) := by
    intro lv2
    induction lv2 with
    | nil => intro i; rfl
    | cons x r ih =>
      intro i
      cases x with
      | none => exact ih (i + 1)
      | some v =>
        show (i, zv (fun i => q (τ i)) v) :: zla (fun i => q (τ i)) (i + 1) r = (i, zv q (zv τ v)) :: zla q (i + 1) (r.map (Option.map (zv τ)))
        rw [ih (i + 1), zv_comp q τ]
  have := kk (fun i => q (τ i)) (fun i hi => by
    rcases hi with h | h
    · exact absurd h (Nat.not_lt_zero _)
    · show q (τ i) = q0 i
      rw [hF i h]
      exact hq i (Or.inr h)) H locs ls (fun i y hy => hP _ y (zcell_sub hτ hy)) ⟨fun i j x y hx hy hxy => hτ.2 i j (by have := (List.getElem?_eq_some_iff.mp hx).1; rwa [zw_len] at this) (by have := (List.getElem?_eq_some_iff.mp hy).1; rwa [zw_len] at this) (hD.1 _ _ _ _ (zcell_sub hτ hx) (zcell_sub hτ hy) hxy), fun i y hy => hD.2 _ y (zcell_sub hτ hy)⟩ hS (by
      refine ⟨?_, ?_⟩
      · have := hll.1
        rw [hlv, List.length_map] at this
        exact this
      · rw [hla lv2 0, ← hlv]
        exact hll.2)
  have e1 : st.map (zv q) = st2.map (zv (fun i => q (τ i))) := by
    rw [hst, List.map_map]
    exact List.map_congr_left (fun v _ => (zv_comp q τ v).symm)
  rw [e1]
  exact this
/-- the class's island with good names -/
theorem zZ_clean {M : zM} {Y : zY} {P : List zRu} (h0 : ∀ a, q0 (zBIG + 2 * (a + 1)) = a) (hP : P.length + 100 < zBIG) (kk : ∀ Y', (∃ q, Y' = clY q P.length Y) → zZ p l e R s m args below meth c D C A nL Qc 0 q0 kc ks pc (LW M Y' P) lv st) : zZ p l e R s m args below meth c D C A nL Qc 0 q0 kc ks pc (LW M Y P) lv st := fun q hq => by
  refine zAt_w (ws' := LW M (clY (fun i => q (shL i)) P.length Y) P) ?_ ?_ (kk _ ⟨_, rfl⟩ q hq)
  · unfold LW
    rw [tl_len, tl_len, yp_len, yp_len]
  · have isl_c : ∀ (b : Nat) (I : zI) (i : Nat) (x : zE), (isl b 53 I)[i]? = some x → ∃ x', (isl b 53 (clI (fun i => q (shL i)) P.length I))[i]? = some x' ∧ ∀ (a : Nat) (H : Heap), va_at D vwCl (a, zc C q (zr shL x)) H → va_at D vwCl (a, zc C q (zr shL x')) H := by
      intro b I i x hx
      match i, hx with
      | 0, hx => cases hx; exact ⟨_, rfl, fun _ _ h => h⟩
      | 1, hx => cases hx; exact ⟨_, rfl, fun _ _ h => h⟩
      | 2, hx => cases hx; exact ⟨_, rfl, fun _ _ h => h⟩
      | 3, hx =>
        cases hx
        refine ⟨_, rfl, fun a H h => ?_⟩
        have h : H[a]? = some (vp_cell C.2.2 (10, .inr (.inr (.inr (.inr (fun j => (((I.2.2 j).map (fun r => r + 53)).map shL).map q)))))) := h
        show H[a]? = some (vp_cell C.2.2 (10, .inr (.inr (.inr (.inr (fun j => ((((clI (fun i => q (shL i)) P.length I).2.2 j).map (fun r => r + 53)).map shL).map q))))))
        rw [h, vp_cell_q, vp_cell_q, arrV_congr C.2.2 10 (fun j hj => ?_)]
        congr 1
        show _ = (((if j < 10 then (I.2.2 j).map (fun r => if r < P.length ∨ zfo (r + 53) then r else zBIG + 2 * (q (shL (r + 53)) + 1) - 53) else none).map (fun r => r + 53)).map shL).map q
        rw [if_pos hj]
        cases I.2.2 j with
        | none => rfl
        | some r =>
          show some (q (shL (r + 53))) = some (q (shL ((if r < P.length ∨ zfo (r + 53) then r else zBIG + 2 * (q (shL (r + 53)) + 1) - 53) + 53)))
          split
          · rfl
          · have e2 : zBIG + 2 * (q (shL (r + 53)) + 1) - 53 + 53 = zBIG + 2 * (q (shL (r + 53)) + 1) := by unfold zBIG; omega
            have hf : zfo (zBIG + 2 * (q (shL (r + 53)) + 1)) := ⟨by omega, by omega⟩
            rw [e2, shL_F hf, hq _ (Or.inr hf), h0]
      | 4, hx => cases hx; exact ⟨_, rfl, fun _ _ h => h⟩
      | 5, hx => cases hx; exact ⟨_, rfl, fun _ _ h => h⟩
      | 6, hx => cases hx; exact ⟨_, rfl, fun _ _ h => h⟩
      | 7, hx => cases hx; exact ⟨_, rfl, fun _ _ h => h⟩
      | 8, hx => cases hx; exact ⟨_, rfl, fun _ _ h => h⟩
      | 9, hx => cases hx; exact ⟨_, rfl, fun _ _ h => h⟩
      | 10, hx => cases hx; exact ⟨_, rfl, fun _ _ h => h⟩
      | 11, hx => cases hx; exact ⟨_, rfl, fun _ _ h => h⟩
      | i + 12, hx => simp [isl] at hx
    have app_c : ∀ (A1 A2 B1 B2 : zS), A1.length = A2.length → (∀ (i : Nat) (x : zE), A1[i]? = some x → ∃ x', A2[i]? = some x' ∧ ∀ (a : Nat) (H : Heap), va_at D vwCl (a, zc C q (zr shL x)) H → va_at D vwCl (a, zc C q (zr shL x')) H) → (∀ (i : Nat) (x : zE), B1[i]? = some x → ∃ x', B2[i]? = some x' ∧ ∀ (a : Nat) (H : Heap), va_at D vwCl (a, zc C q (zr shL x)) H → va_at D vwCl (a, zc C q (zr shL x')) H) → ∀ (i : Nat) (x : zE), (A1 ++ B1)[i]? = some x → ∃ x', (A2 ++ B2)[i]? = some x' ∧ ∀ (a : Nat) (H : Heap), va_at D vwCl (a, zc C q (zr shL x)) H → va_at D vwCl (a, zc C q (zr shL x')) H := by
      intro A1 A2 B1 B2 hl hA hB i x hx
      rw [List.getElem?_append] at hx ⊢
      rw [← hl]
      split at hx
      · rename_i h; rw [if_pos h]; exact hA i x hx
      · rename_i h; rw [if_neg h]; exact hB _ x hx
    have same_c : ∀ (A1 : zS) (i : Nat) (x : zE), A1[i]? = some x → ∃ x', A1[i]? = some x' ∧ ∀ (a : Nat) (H : Heap), va_at D vwCl (a, zc C q (zr shL x)) H → va_at D vwCl (a, zc C q (zr shL x')) H := fun A1 i x hx => ⟨x, hx, fun _ _ h => h⟩
    have key := app_c (yamW 53 Y) (yamW 53 (clY (fun i => q (shL i)) P.length Y)) (pol 53 P) (pol 53 P) rfl (app_c [_] [_] _ _ rfl (same_c _) (app_c (isl 1 53 (Y.1 0)) (isl 1 53 (clI (fun i => q (shL i)) P.length (Y.1 0))) _ _ rfl (isl_c 1 (Y.1 0)) (app_c (isl 13 53 (Y.1 1)) (isl 13 53 (clI (fun i => q (shL i)) P.length (Y.1 1))) _ _ rfl (isl_c 13 (Y.1 1)) (app_c (isl 25 53 (Y.1 2)) (isl 25 53 (clI (fun i => q (shL i)) P.length (Y.1 2))) _ _ rfl (isl_c 25 (Y.1 2)) (app_c (isl 37 53 (Y.1 3)) (isl 37 53 (clI (fun i => q (shL i)) P.length (Y.1 3))) _ _ rfl (isl_c 37 (Y.1 3)) (same_c _)))))) (same_c _)
    intro i x hx
    unfold LW at hx ⊢
    rw [List.getElem?_append] at hx ⊢
    split at hx
    · rename_i h1
      rw [if_pos h1]
      exact ⟨x, hx, fun _ h => h⟩
    · rename_i h1
      rw [if_neg h1]
      rw [List.getElem?_map] at hx
      obtain ⟨y, hy, rfl⟩ := Option.map_eq_some_iff.mp hx
      obtain ⟨y', hy', hh⟩ := key _ y hy
      exact ⟨zr shL y', by rw [List.getElem?_map, hy']; rfl, fun H h => hh (q i) H h⟩
/-- a number of the script -/
theorem zZ_sld {b L : Nat} {xs : Nat → Int32} (F : zFx p s m args meth c cc nL ret own D C) (hO : zokC cc tab = true) (hX : va_X b L xs s s.heap) (hbl : b < s.heap.size) (hbA : ¬ A b) (h0 : q0 zBIG = b) {ws : zS} {j n0 : Nat} (hL : L < 2 ^ 31) (hd : zfd tab pc = some .iaload) (hj : j < L) (kk : zZ p l e R s m args below meth c D C A nL Qc n0 q0 kc ks (pc + 1) ws lv (.int (xs j) :: st)) : zZ p l e R s m args below meth c D C A nL Qc n0 q0 kc ks pc ws lv (.int (nI j) :: .ref zBIG :: st) := fun q hq => by
  obtain ⟨hx, hb, hml, hr, ho, hts, hK, hlocks⟩ := F
  obtain ⟨⟨l0, hdec, hl0⟩, -⟩ := zokC_at hO hd
  obtain rfl : l0 = 1 := hl0.resolve_left (by simp [zisw])
  intro H locs ls hP hD hS hll
  have e1 : (nI j).toNatClampNeg = j := nI_clamp (by omega)
  have e2 : zv q (.ref zBIG) = .ref b := by
    show Value.ref (q zBIG) = _
    rw [hq zBIG (Or.inr zfo_B), h0]
  rw [List.map_cons, List.map_cons, e2]
  refine va_sld hx hb hX hbl hbA hS (i := nI j) (vp_in_nI hj hL) hdec ?_
  rw [e1]
  exact kk q hq H locs ls hP hD hS hll
/-- how many the script has -/
theorem zZ_slen {b L : Nat} {xs : Nat → Int32} (F : zFx p s m args meth c cc nL ret own D C) (hO : zokC cc tab = true) (hX : va_X b L xs s s.heap) (hbl : b < s.heap.size) (hbA : ¬ A b) (h0 : q0 zBIG = b) {ws : zS} {n0 : Nat} (hd : zfd tab pc = some .arraylength) (kk : zZ p l e R s m args below meth c D C A nL Qc n0 q0 kc ks (pc + 1) ws lv (.int (nI L) :: st)) : zZ p l e R s m args below meth c D C A nL Qc n0 q0 kc ks pc ws lv (.ref zBIG :: st) := fun q hq => by
  obtain ⟨hx, hb, hml, hr, ho, hts, hK, hlocks⟩ := F
  obtain ⟨⟨l0, hdec, hl0⟩, -⟩ := zokC_at hO hd
  obtain rfl : l0 = 1 := hl0.resolve_left (by simp [zisw])
  intro H locs ls hP hD hS hll
  have e2 : zv q (.ref zBIG) = .ref b := by
    show Value.ref (q zBIG) = _
    rw [hq zBIG (Or.inr zfo_B), h0]
  rw [List.map_cons, e2]
  exact va_slen hx hb hX hbl hbA hS hdec (kk q hq H locs ls hP hD hS hll)
end ZL
