/-! the class's public methods, 1: as the spec says -/
theorem okT_mono {t : zT} {c d : Nat} (h : okT t c) (hd : c ≤ d) : okT t d := by
  obtain ⟨⟨c0, c1, c2, c3, c4, c5, c6⟩, d1⟩ := h
  exact ⟨⟨c0, c1, c2, c3, c4, by omega, c6⟩, d1⟩
theorem rep_mono {RL : List zRu} {Y : zY} {S : zF} {c d : Nat} (h : repY RL Y S c) (hd : c ≤ d) : repY RL Y S d := by
  obtain ⟨h1, ⟨h2, h3⟩, h4, h5⟩ := h
  refine ⟨h1, ⟨h2, okT_mono h3 hd⟩, ?_, h5⟩
  revert h4
  cases S.2.1 with
  | none => exact id
  | some t => exact fun h => ⟨h.1, okT_mono h.2.1 hd, h.2.2⟩
theorem rep_rf {RL : List zRu} {Y : zY} {S : zF} {c : Nat} (h : repY RL Y S c) (k : Nat) : repY RL (setY Y 2 (rfu (Y.2.1 2) k)) (S.1, S.2.1, S.2.2.1, rfu S.2.2.2 k) (c + 1) := by
  obtain ⟨h1, h2, h3, h4, h5⟩ := rep_mono h (Nat.le_succ c)
  refine ⟨h1, h2, h3, h4, ?_⟩
  show rfu (Y.2.1 2) k = rfu S.2.2.2 k
  rw [h5]
/-- the class's public method: a call answers and changes as the spec says -/
def zPub (l : Launch) (D : va_G) (C : zC) (y : MethodName) (cc : ByteArray) (nL d : Nat) (args : List Value) (Y : zY) (RL : List zRu) (c : Nat) (A : zA) : Prop :=
  zFun l D C y cc nL (some .int) (zR d) (.ref 0 :: args) (yamW 53 Y ++ pol 53 RL) (fun w rv => (∃ Y', w = yamW 53 Y' ++ pol 53 RL ∧ repY RL Y' A.2 (c + 1)) ∧ rv = some (.int A.1))
theorem pret {RL : List zRu} {Y : zY} {c : Nat} {A A' : zA} (e : A = A') (Y' : zY) (h : repY RL Y' A'.2 (c + 1)) : zRt (some .int) (some (.int A'.1)) ∧ (yamW 53 Y' ++ pol 53 RL).length = (yamW 53 Y ++ pol 53 RL).length ∧ (∃ Y'', yamW 53 Y' ++ pol 53 RL = yamW 53 Y'' ++ pol 53 RL ∧ repY RL Y'' A.2 (c + 1)) ∧ some (Value.int A'.1) = some (.int A.1) := by
  subst e
  exact ⟨⟨_, rfl, rfl⟩, rfl, ⟨Y', rfl, h⟩, rfl⟩
theorem wh0 {x : Int32} {n : Nat} (h : whK x n = 0) : ∃ m, x = nI m ∧ 1 ≤ m ∧ m ≤ 60 ∧ 0 < n := by
  unfold whK at h
  split at h
  · cases h
  · rename_i h1
    split at h
    · cases h
    · rename_i h2
      split at h
      · cases h
      · rename_i h3
        have h0 : ¬ x < 0 := fun q => h1 (Int32.lt_trans q (by decide))
        obtain ⟨j, hj, rfl⟩ := nI_of h0
        rw [nI_ltI (by omega) (by omega)] at h1 h2
        exact ⟨j, rfl, by omega, by omega, by omega⟩
theorem whR_0 {x : Int32} {n : Nat} (h : whK x n = 0) : whR x n = nI 0 := by
  unfold whK at h
  unfold whR
  split at h
  · cases h
  · rename_i h1
    rw [if_neg h1]
    split at h
    · cases h
    · rename_i h2
      rw [if_neg h2]
      split at h
      · cases h
      · rename_i h3
        rw [if_neg h3]
theorem whR_k {x : Int32} {n : Nat} (h : ¬ whK x n = 0) : whR x n = -(nI (whK x n)) ∧ 0 < whK x n ∧ whK x n < 7 ∧ ¬ -(nI (whK x n)) = 0 := by
  unfold whR
  revert h
  unfold whK
  split
  · exact fun _ => ⟨rfl, by decide, by decide, by decide⟩
  · split
    · exact fun _ => ⟨rfl, by decide, by decide, by decide⟩
    · split
      · exact fun _ => ⟨rfl, by decide, by decide, by decide⟩
      · exact fun h => absurd rfl h
theorem isN_cl {x : Int32} {k : Nat} (hk : k < 2 ^ 31) (h : isN x k = true) : x = nI (cl x) ∧ cl x < k := by
  obtain ⟨j, hj, rfl⟩ := isN_t hk h
  rw [show cl (nI j) = j from nI_clamp (by omega)]
  exact ⟨rfl, hj⟩
theorem zB_t {b : Bool} (h : ¬ zB b = 0) : b = true := by
  cases hb : b with
  | true => rfl
  | false => exact absurd ((zB_0 b).mpr hb) h
/-- an island with the same rules: what it is -/
theorem repI_set {RL : List zRu} {I I' : zI} {t t' : zT} (h : repI RL I t) (hr : I'.2.2 = I.2.2) (h2 : t'.1 2 = t.1 2) (h3 : t'.2.2.2.2 = t.2.2.2.2) (hn : I'.1 0 = nI (t'.1 0) ∧ I'.1 1 = nI (t'.1 1) ∧ I'.1 2 = nI 0 ∧ I'.1 3 = nI (t'.1 2) ∧ I'.1 4 = nI (t'.1 3) ∧ I'.1 5 = nI (t'.1 4) ∧ I'.1 6 = nI (t'.1 5) ∧ I'.1 7 = nI 0)
    (ha : I'.2.1 0 = t'.2.1 ∧ I'.2.1 1 = (fun j => nI (t'.2.2.1 0 j)) ∧ I'.2.1 2 = (fun j => nI (t'.2.2.1 1 j)) ∧ I'.2.1 3 = (fun j => nI (t'.2.2.1 2 j)) ∧ I'.2.1 4 = t'.2.2.2.1 0 ∧ I'.2.1 5 = t'.2.2.2.1 1) : repI RL I' t' := by
  refine ⟨hn, ha, fun r hr2 => ?_, fun k hk r hkr => h.2.2.2 k hk r (by rw [← hr]; exact hkr)⟩
  obtain ⟨i, g1, g2, g3⟩ := h.2.2.1 r (by rw [← h2]; exact hr2)
  exact ⟨i, by rw [hr]; exact g1, g2, fun x => by rw [hr, g3 x, h3]⟩
/-- the island itself changed -/
theorem repY_J {RL : List zRu} {Y : zY} {S : zF} {c d : Nat} {I : zI} {t : zT} (h : repY RL Y S c) (hI : repI RL I t) (ht : okT t d) (hd : c ≤ d) : repY RL (setJ Y 0 I) (sW S t) d := by
  obtain ⟨h1, -, h3, h4⟩ := rep_mono h hd
  exact ⟨h1, ⟨hI, ht⟩, h3, h4⟩
theorem upd_nI (f : Nat → Nat) (k x : Nat) : upd (fun j => nI (f j)) k (nI x) = (fun j => nI (updN f k x j)) := by
  funext j
  unfold upd updN
  split <;> rfl
theorem okT_person {t : zT} {c w r : Nat} (h : okT t c) (hn : t.1 3 < 8) (hw : w < t.1 0) (hr : r < t.1 2) : okT (tN (tX (tX (tR (tR t 1 (updN (t.2.2.1 1) (t.1 3) w)) 2 (updN (t.2.2.1 2) (t.1 3) r)) 0 (upd (t.2.2.2.1 0) (t.1 3) (nI 255))) 1 (upd (t.2.2.2.1 1) (t.1 3) (nI 0))) 3 (t.1 3 + 1)) c := by
  obtain ⟨⟨c0, c1, c2, c3, c4, c5, c6⟩, d1, d2, d3, d4⟩ := h
  refine ⟨⟨c0, c1, c2, c3, by show t.1 3 + 1 ≤ 8; omega, c5, c6⟩, d1, fun j => ⟨(d2 j).1, ?_, ?_⟩, fun p hp => ?_, d4⟩
  · show updN (t.2.2.1 1) (t.1 3) w j < 6
    unfold updN; split
    · omega
    · exact (d2 j).2.1
  · show updN (t.2.2.1 2) (t.1 3) r j < 10
    unfold updN; split
    · omega
    · exact (d2 j).2.2
  · have hp : p < t.1 3 + 1 := hp
    show updN (t.2.2.1 2) (t.1 3) r p < t.1 2 ∧ updN (t.2.2.1 1) (t.1 3) w p < t.1 0
    unfold updN
    by_cases hq : p = t.1 3
    · rw [if_pos hq, if_pos hq]; exact ⟨hr, hw⟩
    · rw [if_neg hq, if_neg hq]; exact d3 p (by omega)
theorem okT_lives {t : zT} {c p r : Nat} (h : okT t c) (hr : r < t.1 2) : okT (tR t 2 (updN (ruT t) p r)) c := by
  obtain ⟨⟨c0, c1, c2, c3, c4, c5, c6⟩, d1, d2, d3, d4⟩ := h
  refine ⟨⟨c0, c1, c2, c3, c4, c5, c6⟩, d1, fun j => ⟨(d2 j).1, (d2 j).2.1, ?_⟩, fun q hq => ⟨?_, (d3 q hq).2⟩, d4⟩
  · show updN (ruT t) p r j < 10
    unfold updN; split
    · omega
    · exact (d2 j).2.2
  · show updN (ruT t) p r q < t.1 2
    unfold updN; split
    · exact hr
    · exact (d3 q hq).1
theorem okT_plants {t : zT} {c p w : Nat} (h : okT t c) (hw : w < t.1 0) : okT (tR t 1 (updN (t.2.2.1 1) p w)) c := by
  obtain ⟨⟨c0, c1, c2, c3, c4, c5, c6⟩, d1, d2, d3, d4⟩ := h
  refine ⟨⟨c0, c1, c2, c3, c4, c5, c6⟩, d1, fun j => ⟨(d2 j).1, ?_, (d2 j).2.2⟩, fun q hq => ⟨(d3 q hq).1, ?_⟩, d4⟩
  · show updN (t.2.2.1 1) p w j < 6
    unfold updN; split
    · omega
    · exact (d2 j).2.1
  · show updN (t.2.2.1 1) p w q < t.1 0
    unfold updN; split
    · exact hw
    · exact (d3 q hq).2
section PUB
variable {l : Launch} {D : va_G} {C : zC} {Y : zY} {RL : List zRu} {S : zF} {c : Nat}
set_option maxRecDepth 10000 in
theorem y_brings (h : repY RL Y S c) {w t v : Int32} : zPub l D C yX3_brings cX3_brings 6 1 [.int w, .int t, .int v] Y RL c (sBrings S w t v) := by
  have hI := h.2.1.1
  have hT := h.2.1.2
  have hWb : S.1.1 0 ≤ 6 := hT.1.1
  have hnb : S.1.1 3 ≤ 8 := hT.1.2.2.2.2.1
  have hrb : S.1.1 2 ≤ 10 := hT.1.2.2.2.1
  have e0 : (Y.1 0).1 0 = nI (S.1.1 0) := hI.1.1
  have e3 : (Y.1 0).1 3 = nI (S.1.1 2) := hI.1.2.2.2.1
  have e4 : (Y.1 0).1 4 = nI (S.1.1 3) := hI.1.2.2.2.2.1
  refine zFun_of (by decide) oX3_brings tbX3 (Nat.le_of_ble_eq_true rfl) (fun Z o => ?_)
  have bad : ((isN w (S.1.1 0) && isN t 4)) = false → Z 17 (yamW 53 Y ++ pol 53 RL) [some (.ref 0), some (.int w), some (.int t), some (.int v), none, none] [.int (zi (-1)), .ref 0] := fun hf => by
    refine o.cV vX3_48 (c_refuse (k := 1) (by omega) (by omega)) (fun w' rv _ hpo => ?_)
    obtain ⟨rfl, rfl⟩ := hpo
    exact o.run 100 [] (pret (A' := sRf S 1) (by rw [sBrings, hf]; rfl) _ (rep_rf h 1))
  have good : (isN w (S.1.1 0) && isN t 4) = true → Z 21 (yamW 53 Y ++ pol 53 RL) [some (.ref 0), some (.int w), some (.int t), some (.int v), none, none] [] := fun hb => by
    obtain ⟨hq1, hq2⟩ := Bool.and_eq_true_iff.mp hb
    obtain ⟨ew, hwl⟩ := isN_cl (by omega) hq1
    obtain ⟨et, htl⟩ := isN_cl (by omega) hq2
    refine o.run 100 [] ?_
    show Z _ _ _ _
    refine o.cS vX3_67 (c_whyOutside (x := v) (lo := nI 0) (hi := nI 99)) (fun rv hpo => ?_)
    subst hpo
    by_cases h4 : v < 0
    · have e : whO v (nI 0) (nI 99) = -(nI 4) := by rw [whO, nI_0, if_pos h4]; rfl
      rw [e]
      refine o.run 100 [] ⟨fun q => absurd q (by decide), fun _ => ?_⟩
      show Z _ _ _ _
      refine o.cV vX3_48 (c_refuse (k := 4) (by omega) (by omega)) (fun w' rv _ hpo => ?_)
      obtain ⟨rfl, rfl⟩ := hpo
      exact o.run 100 [] (pret (A' := sRf S 4) (by rw [sBrings, if_pos hb, if_pos h4]) _ (rep_rf h 4))
    by_cases h6 : nI 99 < v
    · have e : whO v (nI 0) (nI 99) = -(nI 6) := by rw [whO, nI_0, if_neg h4, if_pos h6]; rfl
      rw [e]
      refine o.run 100 [] ⟨fun q => absurd q (by decide), fun _ => ?_⟩
      show Z _ _ _ _
      refine o.cV vX3_48 (c_refuse (k := 6) (by omega) (by omega)) (fun w' rv _ hpo => ?_)
      obtain ⟨rfl, rfl⟩ := hpo
      exact o.run 100 [] (pret (A' := sRf S 6) (by rw [sBrings, if_pos hb, if_neg h4, if_pos h6]) _ (rep_rf h 6))
    have e : whO v (nI 0) (nI 99) = nI 0 := by rw [whO, nI_0, if_neg h4, if_neg h6]
    rw [e]
    refine o.run 100 [] ⟨fun _ => ?_, fun q => absurd nI_0 q⟩
    show Z 48 (yamW 53 Y ++ pol 53 RL) [some (.ref 0), some (.int w), some (.int t), some (.int v), some (.int (nI 0)), none] [.int t, .int w, .ref 1]
    obtain ⟨wn, hwn⟩ : ∃ k, k = cl w := ⟨_, rfl⟩
    obtain ⟨tn, htn⟩ : ∃ k, k = cl t := ⟨_, rfl⟩
    rw [← hwn] at ew hwl
    rw [← htn] at et htl
    subst ew et
    refine o.yAr 0 (by omega) vX3_71 (c_bringsOf (I := Y.1 0) (w := wn) (t := tn) (by omega) htl) (fun rv hpo => ?_)
    subst hpo
    refine o.run 100 [] ⟨wn * 4 + tn, by show nI wn * nI 4 + nI tn = _; rw [pk_mul, nI_add], by omega, ?_⟩
    refine pret (A' := ((Y.1 0).2.1 0 (wn * 4 + tn), sW S (tB S.1 (upd S.1.2.1 (wn * 4 + tn) v)))) ?_ (setJ Y 0 (setA (Y.1 0) 0 (upd ((Y.1 0).2.1 0) (wn * 4 + tn) v))) ?_
    · rw [sBrings, if_pos hb, if_neg h4, if_neg h6, ← hwn, ← htn, hI.2.1.1]
    · refine repY_J h (repI_set hI rfl rfl rfl hI.1 ⟨?_, hI.2.1.2⟩) ?_ (Nat.le_succ c)
      · show upd ((Y.1 0).2.1 0) (wn * 4 + tn) v = upd S.1.2.1 (wn * 4 + tn) v
        rw [hI.2.1.1]
      · refine ⟨(okT_mono hT (Nat.le_succ c)).1, fun j => ?_, hT.2.2⟩
        show ∃ k, k < 100 ∧ upd S.1.2.1 (wn * 4 + tn) v j = nI k
        unfold upd
        split
        · obtain ⟨k, hk, rfl⟩ := nI_of h4
          rw [nI_ltI (by omega) (by omega)] at h6
          exact ⟨k, by omega, rfl⟩
        · exact hT.2.1 j
  refine o.run 100 [] ?_
  show Z _ _ _ _
  refine o.cV vX3_60 (c_isWay (x := w) e0) (fun w' rv _ hpo => ?_)
  obtain ⟨rfl, rfl⟩ := hpo
  refine o.run 100 [17] ⟨fun q => bad ?_, fun q => ?_⟩
  · rw [(zB_0 _).mp q]; rfl
  · have hq1 := zB_t q
    show Z _ _ _ _
    refine o.cS vX3_64 (c_isWeather (x := t)) (fun rv hpo => ?_)
    subst hpo
    refine o.run 100 [17, 21] ⟨fun q => good ?_, fun q => bad ?_⟩
    · rw [hq1, zB_t q]; rfl
    · rw [(zB_0 _).mp q, Bool.and_false]

set_option maxRecDepth 10000 in
theorem y_bestWay (h : repY RL Y S c) {t : Int32} : zPub l D C yX3_bestWay cX3_bestWay 2 2 [.int t] Y RL c (sBestWay S t) := by
  have hI := h.2.1.1
  have hT := h.2.1.2
  have hWb : S.1.1 0 ≤ 6 := hT.1.1
  have hnb : S.1.1 3 ≤ 8 := hT.1.2.2.2.2.1
  have hrb : S.1.1 2 ≤ 10 := hT.1.2.2.2.1
  have e0 : (Y.1 0).1 0 = nI (S.1.1 0) := hI.1.1
  have e3 : (Y.1 0).1 3 = nI (S.1.1 2) := hI.1.2.2.2.1
  have e4 : (Y.1 0).1 4 = nI (S.1.1 3) := hI.1.2.2.2.2.1
  refine zFun_of (by decide) oX3_bestWay tbX3 (Nat.le_of_ble_eq_true rfl) (fun Z o => ?_)
  refine o.run 100 [] ?_
  show Z _ _ _ _
  refine o.cS vX3_64 (c_isWeather (x := t)) (fun rv hpo => ?_)
  subst hpo
  refine o.run 100 [] ⟨fun q => ⟨fun q2 => ?_, fun q2 => ?_⟩, fun q => ?_⟩
  · have ht := zB_t q
    obtain ⟨et, htl⟩ := isN_cl (by omega) ht
    have q2 : ¬ (Y.1 0).1 0 = 0 := q2
    have hW0 : ¬ S.1.1 0 = 0 := fun z => q2 (by rw [e0, z]; exact nI_0)
    show Z 35 (yamW 53 Y ++ pol 53 RL) [some (.ref 0), some (.int t)] [.int t, .ref 1]
    obtain ⟨tn, htn⟩ : ∃ k, k = cl t := ⟨_, rfl⟩
    rw [← htn] at et htl
    subst et
    refine o.yAr 0 (by omega) vX3_77 (c_bestIn (I := Y.1 0) (W := S.1.1 0) (t := tn) hWb htl e0) (fun rv hpo => ?_)
    subst hpo
    refine o.run 100 [] (pret (A' := (nI (bst ((Y.1 0).2.1 0) tn (S.1.1 0 - 1)), S)) ?_ Y (rep_mono h (Nat.le_succ c)))
    rw [sBestWay, if_pos ht, if_neg hW0, hI.2.1.1, ← htn]
  · have ht := zB_t q
    have q2 : (Y.1 0).1 0 = 0 := q2
    have hW0 : S.1.1 0 = 0 := by
      rcases Nat.eq_zero_or_pos (S.1.1 0) with z | z
      · exact z
      · rw [e0] at q2; exact absurd q2 (nI_ne0 z (by omega))
    show Z _ _ _ _
    refine o.cV vX3_48 (c_refuse (k := 3) (by omega) (by omega)) (fun w' rv _ hpo => ?_)
    obtain ⟨rfl, rfl⟩ := hpo
    exact o.run 100 [] (pret (A' := sRf S 3) (by rw [sBestWay, if_pos ht, if_pos hW0]) _ (rep_rf h 3))
  · have ht := (zB_0 _).mp q
    show Z _ _ _ _
    refine o.cV vX3_48 (c_refuse (k := 1) (by omega) (by omega)) (fun w' rv _ hpo => ?_)
    obtain ⟨rfl, rfl⟩ := hpo
    exact o.run 100 [] (pret (A' := sRf S 1) (by rw [sBestWay, ht]; rfl) _ (rep_rf h 1))

set_option maxRecDepth 10000 in
theorem y_weather (h : repY RL Y S c) {y : Int32} : zPub l D C yX3_weather cX3_weather 3 1 [.int y] Y RL c (sWeather S y) := by
  have hI := h.2.1.1
  have hT := h.2.1.2
  have hWb : S.1.1 0 ≤ 6 := hT.1.1
  have hnb : S.1.1 3 ≤ 8 := hT.1.2.2.2.2.1
  have hrb : S.1.1 2 ≤ 10 := hT.1.2.2.2.1
  have e0 : (Y.1 0).1 0 = nI (S.1.1 0) := hI.1.1
  have e3 : (Y.1 0).1 3 = nI (S.1.1 2) := hI.1.2.2.2.1
  have e4 : (Y.1 0).1 4 = nI (S.1.1 3) := hI.1.2.2.2.2.1
  refine zFun_of (by decide) oX3_weather tbX3 (Nat.le_of_ble_eq_true rfl) (fun Z o => ?_)
  refine o.run 100 [] ?_
  show Z _ _ _ _
  refine o.cS vX3_67 (c_whyOutside (x := y) (lo := nI 0) (hi := 999999)) (fun rv hpo => ?_)
  subst hpo
  by_cases h4 : y < 0
  · have e : whO y (nI 0) (999999) = -(nI 4) := by rw [whO, nI_0, if_pos h4]; rfl
    rw [e]
    refine o.run 100 [] ⟨fun q => absurd q (by decide), fun _ => ?_⟩
    show Z _ _ _ _
    refine o.cV vX3_48 (c_refuse (k := 4) (by omega) (by omega)) (fun w' rv _ hpo => ?_)
    obtain ⟨rfl, rfl⟩ := hpo
    exact o.run 100 [] (pret (A' := sRf S 4) (by rw [sWeather, if_pos h4]) _ (rep_rf h 4))
  by_cases h6 : 999999 < y
  · have e : whO y (nI 0) (999999) = -(nI 6) := by rw [whO, nI_0, if_neg h4, if_pos h6]; rfl
    rw [e]
    refine o.run 100 [] ⟨fun q => absurd q (by decide), fun _ => ?_⟩
    show Z _ _ _ _
    refine o.cV vX3_48 (c_refuse (k := 6) (by omega) (by omega)) (fun w' rv _ hpo => ?_)
    obtain ⟨rfl, rfl⟩ := hpo
    exact o.run 100 [] (pret (A' := sRf S 6) (by rw [sWeather, if_neg h4, if_pos h6]) _ (rep_rf h 6))
  have e : whO y (nI 0) (999999) = nI 0 := by rw [whO, nI_0, if_neg h4, if_neg h6]
  rw [e]
  refine o.run 100 [] ⟨fun _ => ?_, fun q => absurd nI_0 q⟩
  show Z 25 (yamW 53 Y ++ pol 53 RL) [some (.ref 0), some (.int y), some (.int (nI 0))] [.int y, .ref 1]
  have hy2 : ¬ nI 999999 < y := h6
  obtain ⟨yn, hyn, rfl⟩ := nI_of h4
  rw [nI_ltI (by omega) (by omega)] at hy2
  refine o.yAr 0 (by omega) vX3_87 (c_weatherOf (I := Y.1 0) (y := yn) (s0 := 0) (L := S.1.1 1) (by omega) (Nat.zero_le _) hT.1.2.1 hT.1.2.2.1 hI.1.2.1 hI.1.2.2.1) (fun rv hpo => ?_)
  subst hpo
  refine o.run 100 [] (pret (A' := ((Y.1 0).2.1 1 ((yn - 0) % S.1.1 1), S)) ?_ Y (rep_mono h (Nat.le_succ c)))
  rw [sWeather, if_neg h4, if_neg h6, hI.2.1.2.1, show cl (nI yn) = yn from nI_clamp (by omega)]
  rfl

set_option maxRecDepth 10000 in
theorem y_person (h : repY RL Y S c) {w r : Int32} : zPub l D C yX3_person cX3_person 3 1 [.int w, .int r] Y RL c (sPerson S w r) := by
  have hI := h.2.1.1
  have hT := h.2.1.2
  have hWb : S.1.1 0 ≤ 6 := hT.1.1
  have hnb : S.1.1 3 ≤ 8 := hT.1.2.2.2.2.1
  have hrb : S.1.1 2 ≤ 10 := hT.1.2.2.2.1
  have e0 : (Y.1 0).1 0 = nI (S.1.1 0) := hI.1.1
  have e3 : (Y.1 0).1 3 = nI (S.1.1 2) := hI.1.2.2.2.1
  have e4 : (Y.1 0).1 4 = nI (S.1.1 3) := hI.1.2.2.2.2.1
  refine zFun_of (by decide) oX3_person tbX3 (Nat.le_of_ble_eq_true rfl) (fun Z o => ?_)
  have bad : ((isN w (S.1.1 0) && isN r (S.1.1 2))) = false → Z 18 (yamW 53 Y ++ pol 53 RL) [some (.ref 0), some (.int w), some (.int r)] [.int (zi (-1)), .ref 0] := fun hf => by
    refine o.cV vX3_48 (c_refuse (k := 1) (by omega) (by omega)) (fun w' rv _ hpo => ?_)
    obtain ⟨rfl, rfl⟩ := hpo
    exact o.run 100 [] (pret (A' := sRf S 1) (by rw [sPerson, hf]; rfl) _ (rep_rf h 1))
  have good : (isN w (S.1.1 0) && isN r (S.1.1 2)) = true → Z 22 (yamW 53 Y ++ pol 53 RL) [some (.ref 0), some (.int w), some (.int r)] [] := fun hb => by
    obtain ⟨hq1, hq2⟩ := Bool.and_eq_true_iff.mp hb
    obtain ⟨ew, hwl⟩ := isN_cl (by omega) hq1
    obtain ⟨et, htl⟩ := isN_cl (by omega) hq2
    obtain ⟨wn, hwn⟩ : ∃ k, k = cl w := ⟨_, rfl⟩
    obtain ⟨rn, hrn⟩ : ∃ k, k = cl r := ⟨_, rfl⟩
    rw [← hwn] at ew hwl
    rw [← hrn] at et htl
    refine o.run 100 [] ⟨fun q => ?_, fun q => ?_⟩
    · have q : (Y.1 0).1 4 < nI 8 := q
      rw [e4, nI_ltI (by omega) (by omega)] at q
      have h8 : ¬ S.1.1 3 = 8 := by omega
      show Z 47 (yamW 53 Y ++ pol 53 RL) [some (.ref 0), some (.int w), some (.int r)] [.int r, .int w, .ref 1]
      subst ew et
      refine o.yA 0 (Q := fun I rv => I = setS (setA (setA (setA (setA (Y.1 0) 2 (upd ((Y.1 0).2.1 2) (S.1.1 3) (nI wn))) 3 (upd ((Y.1 0).2.1 3) (S.1.1 3) (nI rn))) 4 (upd ((Y.1 0).2.1 4) (S.1.1 3) (nI 255))) 5 (upd ((Y.1 0).2.1 5) (S.1.1 3) (nI 0))) 4 (nI (S.1.1 3 + 1)) ∧ rv = some (.int (nI (S.1.1 3)))) (by omega) vX3_117 (c_addPerson (I := Y.1 0) (n := S.1.1 3) (a := nI wn) (b := nI rn) q e4) (fun w rv hpo => ⟨_, hpo.1, rfl, hpo.2⟩) (fun I rv hq => ?_)
      obtain ⟨rfl, rfl⟩ := hq
      refine o.run 100 [] (pret (A' := (nI (S.1.1 3), sW S (tN (tX (tX (tR (tR S.1 1 (updN (S.1.2.2.1 1) (S.1.1 3) wn)) 2 (updN (S.1.2.2.1 2) (S.1.1 3) rn)) 0 (upd (S.1.2.2.2.1 0) (S.1.1 3) (nI 255))) 1 (upd (S.1.2.2.2.1 1) (S.1.1 3) (nI 0))) 3 (S.1.1 3 + 1)))) ?_ _ ?_)
      · rw [sPerson, if_pos hb, if_neg h8, ← hwn, ← hrn]
      · obtain ⟨b0, b1, b2, b3, b4, b5⟩ := hI.2.1
        refine repY_J h (repI_set hI rfl rfl rfl ⟨hI.1.1, hI.1.2.1, hI.1.2.2.1, hI.1.2.2.2.1, rfl, hI.1.2.2.2.2.2⟩ ⟨b0, b1, ?_, ?_, ?_, ?_⟩) ?_ (Nat.le_succ c)
        · show upd ((Y.1 0).2.1 2) (S.1.1 3) (nI wn) = _
          rw [b2]; exact upd_nI _ _ _
        · show upd ((Y.1 0).2.1 3) (S.1.1 3) (nI rn) = _
          rw [b3]; exact upd_nI _ _ _
        · show upd ((Y.1 0).2.1 4) (S.1.1 3) (nI 255) = upd (S.1.2.2.2.1 0) (S.1.1 3) (nI 255)
          rw [b4]
        · show upd ((Y.1 0).2.1 5) (S.1.1 3) (nI 0) = upd (S.1.2.2.2.1 1) (S.1.1 3) (nI 0)
          rw [b5]
        · exact okT_person (okT_mono hT (Nat.le_succ c)) q hwl htl
    · have q : ¬ (Y.1 0).1 4 < nI 8 := q
      rw [e4, nI_ltI (by omega) (by omega)] at q
      have h8 : S.1.1 3 = 8 := by omega
      show Z _ _ _ _
      refine o.cV vX3_48 (c_refuse (k := 6) (by omega) (by omega)) (fun w' rv _ hpo => ?_)
      obtain ⟨rfl, rfl⟩ := hpo
      exact o.run 100 [] (pret (A' := sRf S 6) (by rw [sPerson, if_pos hb, if_pos h8]) _ (rep_rf h 6))

  refine o.run 100 [] ?_
  show Z _ _ _ _
  refine o.cV vX3_60 (c_isWay (x := w) e0) (fun w' rv _ hpo => ?_)
  obtain ⟨rfl, rfl⟩ := hpo
  refine o.run 100 [18] ⟨fun q => bad ?_, fun q => ?_⟩
  · rw [(zB_0 _).mp q]; rfl
  · have hq1 := zB_t q
    show Z _ _ _ _
    refine o.cV vX3_111 (c_isRule (x := r) e3) (fun w' rv _ hpo => ?_)
    obtain ⟨rfl, rfl⟩ := hpo
    refine o.run 100 [18, 22] ⟨fun q => good ?_, fun q => bad ?_⟩
    · rw [hq1, zB_t q]; rfl
    · rw [(zB_0 _).mp q, Bool.and_false]

set_option maxRecDepth 10000 in
theorem y_lives (h : repY RL Y S c) {p r : Int32} : zPub l D C yX3_lives cX3_lives 3 1 [.int p, .int r] Y RL c (sLives S p r) := by
  have hI := h.2.1.1
  have hT := h.2.1.2
  have hWb : S.1.1 0 ≤ 6 := hT.1.1
  have hnb : S.1.1 3 ≤ 8 := hT.1.2.2.2.2.1
  have hrb : S.1.1 2 ≤ 10 := hT.1.2.2.2.1
  have e0 : (Y.1 0).1 0 = nI (S.1.1 0) := hI.1.1
  have e3 : (Y.1 0).1 3 = nI (S.1.1 2) := hI.1.2.2.2.1
  have e4 : (Y.1 0).1 4 = nI (S.1.1 3) := hI.1.2.2.2.2.1
  refine zFun_of (by decide) oX3_lives tbX3 (Nat.le_of_ble_eq_true rfl) (fun Z o => ?_)
  have bad : ((isN p (S.1.1 3) && isN r (S.1.1 2))) = false → Z 18 (yamW 53 Y ++ pol 53 RL) [some (.ref 0), some (.int p), some (.int r)] [.int (zi (-1)), .ref 0] := fun hf => by
    refine o.cV vX3_48 (c_refuse (k := 1) (by omega) (by omega)) (fun w' rv _ hpo => ?_)
    obtain ⟨rfl, rfl⟩ := hpo
    exact o.run 100 [] (pret (A' := sRf S 1) (by rw [sLives, hf]; rfl) _ (rep_rf h 1))
  have good : (isN p (S.1.1 3) && isN r (S.1.1 2)) = true → Z 22 (yamW 53 Y ++ pol 53 RL) [some (.ref 0), some (.int p), some (.int r)] [] := fun hb => by
    obtain ⟨hq1, hq2⟩ := Bool.and_eq_true_iff.mp hb
    obtain ⟨ew, hwl⟩ := isN_cl (by omega) hq1
    obtain ⟨et, htl⟩ := isN_cl (by omega) hq2
    obtain ⟨pn, hpn⟩ : ∃ k, k = cl p := ⟨_, rfl⟩
    obtain ⟨rn, hrn⟩ : ∃ k, k = cl r := ⟨_, rfl⟩
    rw [← hpn] at ew hwl
    rw [← hrn] at et htl
    subst ew et
    refine o.run 100 [] ?_
    show Z 31 (yamW 53 Y ++ pol 53 RL) _ [.int (nI rn), .int (nI pn), .ref 6]
    refine o.cS1 (a := 6) (Bs := [.int (nI pn), .int (nI rn)]) (P2 := fun rv => rv = some (.int ((Y.1 0).2.1 3 pn))) vX3_126 (c_exchange (m := 8) (j := pn) (f := (Y.1 0).2.1 3) (x := nI rn) (by omega) (by omega)) rfl (fun rv hrv => ?_)
    subst hrv
    refine o.run 100 [] (pret (Y' := setJ Y 0 (setA (Y.1 0) 3 (upd ((Y.1 0).2.1 3) pn (nI rn)))) (A' := ((Y.1 0).2.1 3 pn, sW S (tR S.1 2 (updN (ruT S.1) pn rn)))) ?_ ?_)
    · rw [sLives, if_pos hb, ← hpn, ← hrn, hI.2.1.2.2.2.1]
    · obtain ⟨b0, b1, b2, b3, b4, b5⟩ := hI.2.1
      refine repY_J h (repI_set hI rfl rfl rfl hI.1 ⟨b0, b1, b2, ?_, b4, b5⟩) ?_ (Nat.le_succ c)
      · show upd ((Y.1 0).2.1 3) pn (nI rn) = _
        rw [b3]; exact upd_nI _ _ _
      · exact okT_lives (okT_mono hT (Nat.le_succ c)) htl

  refine o.run 100 [] ?_
  show Z _ _ _ _
  refine o.cV vX3_120 (c_isPerson (x := p) e4) (fun w' rv _ hpo => ?_)
  obtain ⟨rfl, rfl⟩ := hpo
  refine o.run 100 [18] ⟨fun q => bad ?_, fun q => ?_⟩
  · rw [(zB_0 _).mp q]; rfl
  · have hq1 := zB_t q
    show Z _ _ _ _
    refine o.cV vX3_111 (c_isRule (x := r) e3) (fun w' rv _ hpo => ?_)
    obtain ⟨rfl, rfl⟩ := hpo
    refine o.run 100 [18, 22] ⟨fun q => good ?_, fun q => bad ?_⟩
    · rw [hq1, zB_t q]; rfl
    · rw [(zB_0 _).mp q, Bool.and_false]

set_option maxRecDepth 10000 in
theorem y_plants (h : repY RL Y S c) {p r : Int32} : zPub l D C yX3_plants cX3_plants 3 1 [.int p, .int r] Y RL c (sPlants S p r) := by
  have hI := h.2.1.1
  have hT := h.2.1.2
  have hWb : S.1.1 0 ≤ 6 := hT.1.1
  have hnb : S.1.1 3 ≤ 8 := hT.1.2.2.2.2.1
  have hrb : S.1.1 2 ≤ 10 := hT.1.2.2.2.1
  have e0 : (Y.1 0).1 0 = nI (S.1.1 0) := hI.1.1
  have e3 : (Y.1 0).1 3 = nI (S.1.1 2) := hI.1.2.2.2.1
  have e4 : (Y.1 0).1 4 = nI (S.1.1 3) := hI.1.2.2.2.2.1
  refine zFun_of (by decide) oX3_plants tbX3 (Nat.le_of_ble_eq_true rfl) (fun Z o => ?_)
  have bad : ((isN p (S.1.1 3) && isN r (S.1.1 0))) = false → Z 18 (yamW 53 Y ++ pol 53 RL) [some (.ref 0), some (.int p), some (.int r)] [.int (zi (-1)), .ref 0] := fun hf => by
    refine o.cV vX3_48 (c_refuse (k := 1) (by omega) (by omega)) (fun w' rv _ hpo => ?_)
    obtain ⟨rfl, rfl⟩ := hpo
    exact o.run 100 [] (pret (A' := sRf S 1) (by rw [sPlants, hf]; rfl) _ (rep_rf h 1))
  have good : (isN p (S.1.1 3) && isN r (S.1.1 0)) = true → Z 22 (yamW 53 Y ++ pol 53 RL) [some (.ref 0), some (.int p), some (.int r)] [] := fun hb => by
    obtain ⟨hq1, hq2⟩ := Bool.and_eq_true_iff.mp hb
    obtain ⟨ew, hwl⟩ := isN_cl (by omega) hq1
    obtain ⟨et, htl⟩ := isN_cl (by omega) hq2
    obtain ⟨pn, hpn⟩ : ∃ k, k = cl p := ⟨_, rfl⟩
    obtain ⟨rn, hrn⟩ : ∃ k, k = cl r := ⟨_, rfl⟩
    rw [← hpn] at ew hwl
    rw [← hrn] at et htl
    subst ew et
    refine o.run 100 [] ?_
    show Z 31 (yamW 53 Y ++ pol 53 RL) _ [.int (nI rn), .int (nI pn), .ref 5]
    refine o.cS1 (a := 5) (Bs := [.int (nI pn), .int (nI rn)]) (P2 := fun rv => rv = some (.int ((Y.1 0).2.1 2 pn))) vX3_126 (c_exchange (m := 8) (j := pn) (f := (Y.1 0).2.1 2) (x := nI rn) (by omega) (by omega)) rfl (fun rv hrv => ?_)
    subst hrv
    refine o.run 100 [] (pret (Y' := setJ Y 0 (setA (Y.1 0) 2 (upd ((Y.1 0).2.1 2) pn (nI rn)))) (A' := ((Y.1 0).2.1 2 pn, sW S (tR S.1 1 (updN (S.1.2.2.1 1) pn rn)))) ?_ ?_)
    · rw [sPlants, if_pos hb, ← hpn, ← hrn, hI.2.1.2.2.1]
    · obtain ⟨b0, b1, b2, b3, b4, b5⟩ := hI.2.1
      refine repY_J h (repI_set hI rfl rfl rfl hI.1 ⟨b0, b1, ?_, b3, b4, b5⟩) ?_ (Nat.le_succ c)
      · show upd ((Y.1 0).2.1 2) pn (nI rn) = _
        rw [b2]; exact upd_nI _ _ _
      · exact okT_plants (okT_mono hT (Nat.le_succ c)) htl

  refine o.run 100 [] ?_
  show Z _ _ _ _
  refine o.cV vX3_120 (c_isPerson (x := p) e4) (fun w' rv _ hpo => ?_)
  obtain ⟨rfl, rfl⟩ := hpo
  refine o.run 100 [18] ⟨fun q => bad ?_, fun q => ?_⟩
  · rw [(zB_0 _).mp q]; rfl
  · have hq1 := zB_t q
    show Z _ _ _ _
    refine o.cV vX3_60 (c_isWay (x := r) e0) (fun w' rv _ hpo => ?_)
    obtain ⟨rfl, rfl⟩ := hpo
    refine o.run 100 [18, 22] ⟨fun q => good ?_, fun q => bad ?_⟩
    · rw [hq1, zB_t q]; rfl
    · rw [(zB_0 _).mp q, Bool.and_false]

set_option maxRecDepth 10000 in
theorem y_sees (h : repY RL Y S c) {p x : Int32} : zPub l D C yX3_sees cX3_sees 4 1 [.int p, .int x] Y RL c (sSees S p x) := by
  have hI := h.2.1.1
  have hT := h.2.1.2
  have hWb : S.1.1 0 ≤ 6 := hT.1.1
  have hnb : S.1.1 3 ≤ 8 := hT.1.2.2.2.2.1
  have hrb : S.1.1 2 ≤ 10 := hT.1.2.2.2.1
  have e0 : (Y.1 0).1 0 = nI (S.1.1 0) := hI.1.1
  have e3 : (Y.1 0).1 3 = nI (S.1.1 2) := hI.1.2.2.2.1
  have e4 : (Y.1 0).1 4 = nI (S.1.1 3) := hI.1.2.2.2.2.1
  refine zFun_of (by decide) oX3_sees tbX3 (Nat.le_of_ble_eq_true rfl) (fun Z o => ?_)
  refine o.run 100 [] ?_
  show Z _ _ _ _
  refine o.cV vX3_120 (c_isPerson (x := p) e4) (fun w' rv _ hpo => ?_)
  obtain ⟨rfl, rfl⟩ := hpo
  refine o.run 100 [] ⟨fun q => ⟨fun q2 => absurd q2 (by decide), fun _ => ?_⟩, fun q => ?_⟩
  · show Z _ _ _ _
    refine o.cV vX3_48 (c_refuse (k := 1) (by omega) (by omega)) (fun w' rv _ hpo => ?_)
    obtain ⟨rfl, rfl⟩ := hpo
    exact o.run 100 [] (pret (A' := sRf S 1) (by rw [sSees, (zB_0 _).mp q]; rfl) _ (rep_rf h 1))
  · have hp := zB_t q
    obtain ⟨ep, hpl⟩ := isN_cl (by omega) hp
    show Z _ _ _ _
    refine o.cS vX3_67 (c_whyOutside (x := x) (lo := nI 0) (hi := nI 255)) (fun rv hpo => ?_)
    subst hpo
    by_cases h4 : x < 0
    · have e : whO x (nI 0) (nI 255) = -(nI 4) := by rw [whO, nI_0, if_pos h4]; rfl
      rw [e]
      refine o.run 100 [] ⟨fun q => absurd q (by decide), fun _ => ?_⟩
      show Z _ _ _ _
      refine o.cV vX3_48 (c_refuse (k := 4) (by omega) (by omega)) (fun w' rv _ hpo => ?_)
      obtain ⟨rfl, rfl⟩ := hpo
      exact o.run 100 [] (pret (A' := sRf S 4) (by rw [sSees, if_pos hp, if_pos h4]) _ (rep_rf h 4))
    by_cases h6 : nI 255 < x
    · have e : whO x (nI 0) (nI 255) = -(nI 6) := by rw [whO, nI_0, if_neg h4, if_pos h6]; rfl
      rw [e]
      refine o.run 100 [] ⟨fun q => absurd q (by decide), fun _ => ?_⟩
      show Z _ _ _ _
      refine o.cV vX3_48 (c_refuse (k := 6) (by omega) (by omega)) (fun w' rv _ hpo => ?_)
      obtain ⟨rfl, rfl⟩ := hpo
      exact o.run 100 [] (pret (A' := sRf S 6) (by rw [sSees, if_pos hp, if_neg h4, if_pos h6]) _ (rep_rf h 6))
    have e : whO x (nI 0) (nI 255) = nI 0 := by rw [whO, nI_0, if_neg h4, if_neg h6]
    rw [e]
    refine o.run 100 [] ⟨fun _ => ?_, fun q => absurd nI_0 q⟩
    obtain ⟨pn, hpn⟩ : ∃ k, k = cl p := ⟨_, rfl⟩
    rw [← hpn] at ep hpl
    subst ep
    show Z 42 (yamW 53 Y ++ pol 53 RL) _ [.int x, .int (nI pn), .ref 7]
    refine o.cS1 (a := 7) (Bs := [.int (nI pn), .int x]) (P2 := fun rv => rv = some (.int ((Y.1 0).2.1 4 pn))) vX3_126 (c_exchange (m := 8) (j := pn) (f := (Y.1 0).2.1 4) (x := x) (by omega) (by omega)) rfl (fun rv hrv => ?_)
    subst hrv
    refine o.run 100 [] (pret (Y' := setJ Y 0 (setA (Y.1 0) 4 (upd ((Y.1 0).2.1 4) pn x))) (A' := ((Y.1 0).2.1 4 pn, sW S (tX S.1 0 (upd (S.1.2.2.2.1 0) pn x)))) ?_ ?_)
    · rw [sSees, if_pos hp, if_neg h4, if_neg h6, ← hpn, hI.2.1.2.2.2.2.1]
    · obtain ⟨b0, b1, b2, b3, b4, b5⟩ := hI.2.1
      refine repY_J h (repI_set hI rfl rfl rfl hI.1 ⟨b0, b1, b2, b3, ?_, b5⟩) (okT_mono hT (Nat.le_succ c)) (Nat.le_succ c)
      show upd ((Y.1 0).2.1 4) pn x = upd (S.1.2.2.2.1 0) pn x
      rw [b4]

set_option maxRecDepth 10000 in
theorem y_show (h : repY RL Y S c) {x : Int32} : zPub l D C yX3_show cX3_show 4 1 [.int x] Y RL c (sShow S x) := by
  have hI := h.2.1.1
  have hT := h.2.1.2
  have hWb : S.1.1 0 ≤ 6 := hT.1.1
  have hnb : S.1.1 3 ≤ 8 := hT.1.2.2.2.2.1
  have hrb : S.1.1 2 ≤ 10 := hT.1.2.2.2.1
  have e0 : (Y.1 0).1 0 = nI (S.1.1 0) := hI.1.1
  have e3 : (Y.1 0).1 3 = nI (S.1.1 2) := hI.1.2.2.2.1
  have e4 : (Y.1 0).1 4 = nI (S.1.1 3) := hI.1.2.2.2.2.1
  refine zFun_of (by decide) oX3_show tbX3 (Nat.le_of_ble_eq_true rfl) (fun Z o => ?_)
  refine o.run 100 [] ?_
  show Z _ _ _ _
  refine o.cS vX3_67 (c_whyOutside (x := x) (lo := nI 0) (hi := nI 24)) (fun rv hpo => ?_)
  subst hpo
  by_cases h4 : x < 0
  · have e : whO x (nI 0) (nI 24) = -(nI 4) := by rw [whO, nI_0, if_pos h4]; rfl
    rw [e]
    refine o.run 100 [] ⟨fun q => absurd q (by decide), fun _ => ?_⟩
    show Z _ _ _ _
    refine o.cV vX3_48 (c_refuse (k := 4) (by omega) (by omega)) (fun w' rv _ hpo => ?_)
    obtain ⟨rfl, rfl⟩ := hpo
    exact o.run 100 [] (pret (A' := sRf S 4) (by rw [sShow, if_pos h4]) _ (rep_rf h 4))
  by_cases h6 : nI 24 < x
  · have e : whO x (nI 0) (nI 24) = -(nI 6) := by rw [whO, nI_0, if_neg h4, if_pos h6]; rfl
    rw [e]
    refine o.run 100 [] ⟨fun q => absurd q (by decide), fun _ => ?_⟩
    show Z _ _ _ _
    refine o.cV vX3_48 (c_refuse (k := 6) (by omega) (by omega)) (fun w' rv _ hpo => ?_)
    obtain ⟨rfl, rfl⟩ := hpo
    exact o.run 100 [] (pret (A' := sRf S 6) (by rw [sShow, if_neg h4, if_pos h6]) _ (rep_rf h 6))
  have e : whO x (nI 0) (nI 24) = nI 0 := by rw [whO, nI_0, if_neg h4, if_neg h6]
  rw [e]
  obtain ⟨s, hs, rfl⟩ := nI_of h4
  have hs2 : ¬ nI 24 < nI s := h6
  rw [nI_ltI (by omega) (by omega)] at hs2
  refine o.run 100 [] ⟨fun _ => pret (Y' := setJ Y 0 (setS (Y.1 0) 6 (nI s))) (A' := ((Y.1 0).1 6, sW S (tN S.1 5 s))) ?_ ?_, fun q => absurd nI_0 q⟩
  · rw [sShow, if_neg h4, if_neg h6, hI.1.2.2.2.2.2.2.1, show cl (nI s) = s from nI_clamp (by omega)]
  · refine repY_J h (repI_set hI rfl rfl rfl ⟨hI.1.1, hI.1.2.1, hI.1.2.2.1, hI.1.2.2.2.1, hI.1.2.2.2.2.1, hI.1.2.2.2.2.2.1, rfl, hI.1.2.2.2.2.2.2.2⟩ hI.2.1) ?_ (Nat.le_succ c)
    obtain ⟨⟨c0, c1, c2, c3, c4, c5, c6⟩, d1⟩ := okT_mono hT (Nat.le_succ c)
    exact ⟨⟨c0, c1, c2, c3, c4, c5, by show s ≤ 24; omega⟩, d1⟩

set_option maxRecDepth 10000 in
theorem y_share (h : repY RL Y S c) {w : Int32} : zPub l D C yX3_share cX3_share 2 1 [.int w] Y RL c (sShare S w) := by
  have hI := h.2.1.1
  have hT := h.2.1.2
  have hWb : S.1.1 0 ≤ 6 := hT.1.1
  have hnb : S.1.1 3 ≤ 8 := hT.1.2.2.2.2.1
  have hrb : S.1.1 2 ≤ 10 := hT.1.2.2.2.1
  have e0 : (Y.1 0).1 0 = nI (S.1.1 0) := hI.1.1
  have e3 : (Y.1 0).1 3 = nI (S.1.1 2) := hI.1.2.2.2.1
  have e4 : (Y.1 0).1 4 = nI (S.1.1 3) := hI.1.2.2.2.2.1
  refine zFun_of (by decide) oX3_share tbX3 (Nat.le_of_ble_eq_true rfl) (fun Z o => ?_)
  refine o.run 100 [] ?_
  show Z _ _ _ _
  refine o.cV vX3_60 (c_isWay (x := w) e0) (fun w' rv _ hpo => ?_)
  obtain ⟨rfl, rfl⟩ := hpo
  refine o.run 100 [] ⟨fun q => ?_, fun q => ?_⟩
  · show Z _ _ _ _
    refine o.cV vX3_48 (c_refuse (k := 1) (by omega) (by omega)) (fun w' rv _ hpo => ?_)
    obtain ⟨rfl, rfl⟩ := hpo
    exact o.run 100 [] (pret (A' := sRf S 1) (by rw [sShare, (zB_0 _).mp q]; rfl) _ (rep_rf h 1))
  · have hp := zB_t q
    obtain ⟨ep, hpl⟩ := isN_cl (by omega) hp
    show Z _ _ _ _
    refine o.yAr 0 (by omega) vX3_157 (c_plantersOf (I := Y.1 0) (n := S.1.1 3) (x := w) hnb e4) (fun rv hpo => ?_)
    subst hpo
    refine o.run 100 [] (pret (A' := (nI (cnt (fun p => decide ((Y.1 0).2.1 2 p = w)) (S.1.1 3)), S)) ?_ Y (rep_mono h (Nat.le_succ c)))
    rw [sShare, if_pos hp]
    congr 2
    refine cnt_congr _ (fun i ho => ?_)
    rw [hI.2.1.2.2.1]
    have hv := (hT.2.2.1 i).2.1
    obtain ⟨wn, hwn⟩ : ∃ k, k = cl w := ⟨_, rfl⟩
    rw [← hwn] at ep hpl ⊢
    subst ep
    show decide (_ = wn) = decide (nI _ = nI wn)
    exact decide_eq_decide.mpr (nI_eq (by omega) (by omega)).symm

set_option maxRecDepth 10000 in
theorem y_image (h : repY RL Y S c)  : zPub l D C yX3_image cX3_image 1 2 [] Y RL c (sImage S) := by
  have hI := h.2.1.1
  have hT := h.2.1.2
  have hWb : S.1.1 0 ≤ 6 := hT.1.1
  have hnb : S.1.1 3 ≤ 8 := hT.1.2.2.2.2.1
  have hrb : S.1.1 2 ≤ 10 := hT.1.2.2.2.1
  have e0 : (Y.1 0).1 0 = nI (S.1.1 0) := hI.1.1
  have e3 : (Y.1 0).1 3 = nI (S.1.1 2) := hI.1.2.2.2.1
  have e4 : (Y.1 0).1 4 = nI (S.1.1 3) := hI.1.2.2.2.2.1
  refine zFun_of (by decide) oX3_image tbX3 (Nat.le_of_ble_eq_true rfl) (fun Z o => ?_)
  refine o.run 100 [] ?_
  show Z _ _ _ _
  refine o.yC 1 0 (by omega) (by omega) (by omega) vX3_210 (c_copyFrom (I := Y.1 1) (O := Y.1 0) hI.2.2.2) (fun rv hpo => ?_)
  subst hpo
  refine o.run 100 [] ⟨Or.inr rfl, pret (Y' := setN (setJ Y 1 (cpI (Y.1 1) (Y.1 0))) 2 (nI 1)) (A' := ((Y.1 0).1 5, (S.1, some S.1, S.2.2))) ?_ ?_⟩
  · rw [sImage, hI.1.2.2.2.2.2.1]
  · obtain ⟨h1, ⟨h2, h3⟩, -, h4⟩ := rep_mono h (Nat.le_succ c)
    exact ⟨h1, ⟨h2, h3⟩, ⟨h2, h3, rfl⟩, h4⟩

set_option maxRecDepth 10000 in
theorem y_restore (h : repY RL Y S c)  : zPub l D C yX3_restore cX3_restore 1 2 [] Y RL c (sRestore S) := by
  have hI := h.2.1.1
  have hT := h.2.1.2
  have hWb : S.1.1 0 ≤ 6 := hT.1.1
  have hnb : S.1.1 3 ≤ 8 := hT.1.2.2.2.2.1
  have hrb : S.1.1 2 ≤ 10 := hT.1.2.2.2.1
  have e0 : (Y.1 0).1 0 = nI (S.1.1 0) := hI.1.1
  have e3 : (Y.1 0).1 3 = nI (S.1.1 2) := hI.1.2.2.2.1
  have e4 : (Y.1 0).1 4 = nI (S.1.1 3) := hI.1.2.2.2.2.1
  refine zFun_of (by decide) oX3_restore tbX3 (Nat.le_of_ble_eq_true rfl) (fun Z o => ?_)
  have h3 := h.2.2.1
  revert h3
  generalize hS : S.2.1 = im
  cases im with
  | none =>
    intro h3
    refine o.run 100 [] ⟨fun q => absurd (show Y.2.2 2 = 0 by rw [h3]; exact nI_0) q, fun q => ?_⟩
    show Z _ _ _ _
    refine o.cV vX3_48 (c_refuse (k := 3) (by omega) (by omega)) (fun w' rv _ hpo => ?_)
    obtain ⟨rfl, rfl⟩ := hpo
    exact o.run 100 [] (pret (A' := sRf S 3) (by rw [sRestore, hS]) _ (rep_rf h 3))
  | some t =>
    intro h3
    obtain ⟨g1, g2, g3⟩ := h3
    refine o.run 100 [] ⟨fun q => ?_, fun q => absurd (show Y.2.2 2 = 0 from q) (by rw [g3]; decide)⟩
    show Z _ _ _ _
    refine o.yC 0 1 (by omega) (by omega) (by omega) vX3_210 (c_copyFrom (I := Y.1 0) (O := Y.1 1) g1.2.2.2) (fun rv hpo => ?_)
    subst hpo
    refine o.run 100 [] (pret (Y' := setJ Y 0 (cpI (Y.1 0) (Y.1 1))) (A' := ((Y.1 1).1 5, (t, S.2))) ?_ ?_)
    · rw [sRestore, hS, g1.1.2.2.2.2.2.1]
    · obtain ⟨k1, -, k3, k4⟩ := rep_mono h (Nat.le_succ c)
      exact ⟨k1, ⟨g1, okT_mono g2 (Nat.le_succ c)⟩, k3, k4⟩

end PUB
