/-! the class's public methods, 2: runs -/
theorem tot_add {n : Nat} {b : Nat → Int32} {vv : Nat → Nat → Nat} {tw : Nat → Nat} {t0 : Nat → Int32} : ∀ m, tot n b vv tw t0 m = mix n (fun p => t0 p + tot n b vv tw (fun _ => nI 0) m p) t0
  | 0 => by
    funext p
    show t0 p = mix n (fun p => t0 p + nI 0) t0 p
    unfold mix
    split
    · show t0 p = t0 p + nI 0
      rw [nI_0, Int32.add_zero]
    · rfl
  | m + 1 => by
    funext p
    show mix n (fun p => tot n b vv tw t0 m p + b (vv m p * 4 + tw m)) (tot n b vv tw t0 m) p = mix n (fun p => t0 p + mix n (fun p => tot n b vv tw (fun _ => nI 0) m p + b (vv m p * 4 + tw m)) (tot n b vv tw (fun _ => nI 0) m) p) t0 p
    rw [tot_add m]
    by_cases hp : p < n
    · rw [mix_lt hp, mix_lt hp, mix_lt hp, mix_lt hp, Int32.add_assoc]
    · rw [mix_ge (by omega), mix_ge (by omega), mix_ge (by omega)]
theorem tot_bd {n : Nat} {b : Nat → Int32} {vv : Nat → Nat → Nat} {tw : Nat → Nat} (hb : ∀ j, ∃ k, k < 100 ∧ b j = nI k) : ∀ m p, ∃ s, s ≤ 99 * m ∧ tot n b vv tw (fun _ => nI 0) m p = nI s
  | 0, p => ⟨0, Nat.le_refl 0, rfl⟩
  | m + 1, p => by
    obtain ⟨s, hs, e⟩ := tot_bd hb m p
    obtain ⟨k, hk, ek⟩ := hb (vv m p * 4 + tw m)
    show ∃ s, s ≤ 99 * (m + 1) ∧ mix n (fun p => tot n b vv tw (fun _ => nI 0) m p + b (vv m p * 4 + tw m)) (tot n b vv tw (fun _ => nI 0) m) p = nI s
    by_cases hp : p < n
    · rw [mix_lt hp, e, ek, nI_add]; exact ⟨s + k, by omega, rfl⟩
    · rw [mix_ge (by omega), e]; exact ⟨s, by omega, rfl⟩
theorem sm_bd {f : Nat → Int32} {M : Nat} : ∀ n, (∀ p, p < n → ∃ s, s ≤ M ∧ f p = nI s) → ∃ s, s ≤ M * n ∧ sm f n = nI s
  | 0, _ => ⟨0, Nat.le_refl 0, by rw [nI_0]; rfl⟩
  | n + 1, h => by
    obtain ⟨s, hs, e⟩ := sm_bd n (fun p hp => h p (by omega))
    obtain ⟨k, hk, ek⟩ := h n (by omega)
    refine ⟨s + k, ?_, ?_⟩
    · rw [Nat.mul_succ]; omega
    · show sm f n + f n = _
      rw [e, ek, nI_add]
theorem rG_bd {t : zT} {c m : Nat} (ht : okT t c) (bl : Nat → Bool) (se : Nat → Int32) (sh : Nat) (ru tw : Nat → Nat) (p : Nat) : ∃ s, s ≤ 99 * m ∧ rG t bl se sh ru tw m p = nI s := tot_bd ht.2.1 m p
theorem rF_bd {t : zT} {c m : Nat} (ht : okT t c) (bl : Nat → Bool) (se : Nat → Int32) (sh : Nat) (ru tw : Nat → Nat) : ∃ s, s ≤ 99 * m * 8 ∧ rF t bl se sh ru tw m = nI s := by
  obtain ⟨s, hs, e⟩ := sm_bd (f := rG t bl se sh ru tw m) (M := 99 * m) (t.1 3) (fun p _ => rG_bd ht bl se sh ru tw p)
  refine ⟨s, Nat.le_trans hs ?_, e⟩
  exact Nat.mul_le_mul_left _ ht.1.2.2.2.2.1
theorem rF_pos {t : zT} {c m : Nat} (ht : okT t c) (hm : m ≤ 60) (bl : Nat → Bool) (se : Nat → Int32) (sh : Nat) (ru tw : Nat → Nat) : 0 ≤ rF t bl se sh ru tw m := by
  obtain ⟨s, hs, e⟩ := rF_bd (m := m) ht bl se sh ru tw
  rw [e]
  exact nI_pos' (by omega)
theorem cho_ltW {n W y : Nat} {v : Nat → Nat} {see : Nat → Bool} {br : Nat → Int32} {p : Nat} {sg : Int32} {K : Nat} (hp : p < n) (hv : ∀ q, q < n → v q < W) : cho n W y v see br p sg K < W := by
  have h0 := hv p hp
  unfold cho
  split
  · exact hv _ (bsn_lt hp n (Nat.le_refl n))
  · split
    · exact msn_lt h0 W (Nat.le_refl W)
    · split
      · generalize hq : nrb see p n = q
        cases q with
        | some j => exact hv j (Nat.lt_trans (nrb_lt n j hq) hp)
        | none => exact hv _ (nrl_lt hp n (Nat.le_refl n))
      · split
        · split
          · split <;> omega
          · exact h0
        · exact h0
theorem vat_ltW {n W : Nat} {b : Nat → Int32} {see : Nat → Nat → Nat → Bool} {dn : Nat → Int32 → Int32 × Nat} {tw : Nat → Nat} {y0 : Nat} {v : Nat → Nat} (hv : ∀ q, q < n → v q < W) : ∀ i q, q < n → vat n W b see dn tw y0 v i q < W
  | 0, q, hq => hv q hq
  | i + 1, q, hq => by
    show yst n W b (see (y0 + i)) dn (tw i) (y0 + i) (vat n W b see dn tw y0 v i) q < W
    unfold yst
    rw [if_pos hq]
    exact cho_ltW hq (vat_ltW hv i)
theorem okT_go {t : zT} {c m : Nat} (h : okT t c) (hm : m ≤ 60) : okT (goT t m) (c + 1) := by
  obtain ⟨⟨c0, c1, c2, c3, c4, c5, c6⟩, d1, d2, d3, d4⟩ := h
  refine ⟨⟨c0, c1, c2, c3, c4, by show t.1 4 + m ≤ 60 * (c + 1); omega, c6⟩, d1, fun j => ⟨(d2 j).1, ?_, (d2 j).2.2⟩, fun p hp => ⟨(d3 p hp).1, ?_⟩, d4⟩
  · show rVn t (ruT t) m j < 6
    exact vat_lt c0 (fun j => (d2 j).2.1) m j
  · show rVn t (ruT t) m p < t.1 0
    exact vat_ltW (fun q hq => (d3 q hq).2) m p hp
theorem rep_rule {RL : List zRu} {I : zI} {t : zT} (h : repI RL I t) {r : Nat} (hr : r < t.1 2) : ∃ ra, I.2.2 r = some ra ∧ ra < RL.length := by
  obtain ⟨i, g1, g2, -⟩ := h.2.2.1 r hr
  exact ⟨i, g1, g2⟩
theorem rPart_lt {n a b k rc : Nat} {ru : Nat → Nat} (ha : a < rc) (hb : b < rc) : ∀ p, p < n → rPart n a b k ru p < rc := fun p hp => by
  unfold rPart
  rw [if_pos hp]
  split <;> assumption
theorem rOne_lt {n p r rc : Nat} {ru : Nat → Nat} (hr : r < rc) (h : ∀ q, q < n → ru q < rc) : ∀ q, q < n → rOne p r ru q < rc := fun q hq => by
  unfold rOne
  split
  · exact hr
  · exact h q hq
theorem rOne_self {p : Nat} {ru : Nat → Nat} : rOne p (ru p) ru = ru := by
  funext q
  unfold rOne
  split
  · rename_i h; rw [h]
  · rfl
theorem aft_okI {M0 M : zI} {W n y s0 L sh i : Nat} {sk v ru vv : Nat → Nat} {tt : Nat → Int32} (h0 : okI M0 W n y s0 L sh sk v ru) (ha : aft M0 M (y + i) vv tt) (hv : ∀ j, vv j < 6) : okI M W n (y + i) s0 L sh sk vv ru := by
  obtain ⟨⟨h1, h1'⟩, ⟨h2, h2'⟩, ⟨h3, h3', h3''⟩, ⟨h4, h4'⟩, ⟨h5, h5'⟩, h6, h7, h8⟩ := h0
  obtain ⟨a1, a2, ⟨a30, a31, a33, a34⟩, a4, a5⟩ := ha
  refine ⟨⟨by rw [a1]; exact h1, h1'⟩, ⟨by rw [a1]; exact h2, h2'⟩, ⟨by rw [a1]; rfl, by rw [a1]; exact h3', by omega⟩, ⟨by rw [a1]; exact h4, h4'⟩, ⟨by rw [a1]; exact h5, h5'⟩, fun j => by rw [a31]; exact h6 j, fun j => ⟨by rw [a4], hv j⟩, fun j => by rw [a33]; exact h8 j⟩
theorem aft_step {RL : List zRu} {M0 M M' : zI} {W n y s0 L sh i : Nat} {sk v ru : Nat → Nat} {tt tt' : Nat → Int32} (ha : aft M0 M (y + i) (vI RL M0 W n y s0 L sh sk v ru i) tt) (hb : aft M M' (y + i + 1) (vI RL M W n (y + i) s0 L sh sk (vI RL M0 W n y s0 L sh sk v ru i) ru 1) tt') : aft M0 M' (y + (i + 1)) (vI RL M0 W n y s0 L sh sk v ru (i + 1)) tt' := by
  obtain ⟨a1, a2, ⟨a30, a31, a33, a34⟩, a4, a5⟩ := ha
  obtain ⟨b1, b2, ⟨b30, b31, b33, b34⟩, b4, b5⟩ := hb
  refine ⟨?_, b2.trans a2, ⟨b30.trans a30, b31.trans a31, b33.trans a33, b34.trans a34⟩, ?_, b5⟩
  · rw [b1, a1]
    funext q
    unfold upd
    by_cases hq : q = 5
    · simp [hq, Nat.add_assoc]
    · simp [hq]
  · rw [b4]
    have e7 : M.1 7 = M0.1 7 := by rw [a1]; rfl
    have : vI RL M W n (y + i) s0 L sh sk (vI RL M0 W n y s0 L sh sk v ru i) ru 1 = vI RL M0 W n y s0 L sh sk v ru (i + 1) := by
      show yst n W (M.2.1 0) (fun p o => sb (seB sh (y + i) (M.2.1 4 p) (M.1 7) p) o) (fun p x => dnI RL M.2.2 (ru p) x) (sk ((y + i - s0) % L)) (y + i) (vI RL M0 W n y s0 L sh sk v ru i) = yst n W (M0.2.1 0) (fun p o => sb (seB sh (y + i) (M0.2.1 4 p) (M0.1 7) p) o) (fun p x => dnI RL M0.2.2 (ru p) x) (sk ((y + i - s0) % L)) (y + i) (vI RL M0 W n y s0 L sh sk v ru i)
      rw [a30, a34, e7, a2]
    rw [this]
theorem alk_nI {n : Nat} {v : Nat → Nat} (hv : ∀ j, v j < 6) : decide (cnt (fun p => decide ((fun j => nI (v j)) p = (fun j => nI (v j)) 0)) n = n) = alk n v := by
  unfold alk
  congr 2
  refine cnt_congr n (fun o _ => ?_)
  have h1 := hv o
  have h2 := hv 0
  exact decide_eq_decide.mpr (nI_eq (by omega) (by omega))
section PUB2
variable {l : Launch} {D : va_G} {C : zC} {Y : zY} {RL : List zRu} {S : zF} {c : Nat}
set_option maxRecDepth 10000 in
theorem y_fares (h : repY RL Y S c) (hc : c ≤ 100) {x : Int32} : zPub l D C yX3_fares cX3_fares 3 6 [.int x] Y RL c (sFares S x) := by
  have hI := h.2.1.1
  have hT := h.2.1.2
  have hWb : S.1.1 0 ≤ 6 := hT.1.1
  have hnb : S.1.1 3 ≤ 8 := hT.1.2.2.2.2.1
  have hrb : S.1.1 2 ≤ 10 := hT.1.2.2.2.1
  have e0 : (Y.1 0).1 0 = nI (S.1.1 0) := hI.1.1
  have e3 : (Y.1 0).1 3 = nI (S.1.1 2) := hI.1.2.2.2.1
  have e4 : (Y.1 0).1 4 = nI (S.1.1 3) := hI.1.2.2.2.2.1
  have hR := h.1
  refine zFun_of (by decide) oX3_fares tbX3 (Nat.le_of_ble_eq_true rfl) (fun Z o => ?_)
  by_cases hz : whK x (S.1.1 3) = 0
  · obtain ⟨m, rfl, hm1, hm2, hn0⟩ := wh0 hz
    have hcl : cl (nI m) = m := nI_clamp (by omega)
    have hM := rep_okM hR hI hT hc hm2
    have hA : ∀ f, sRun S (nI m) f = f m := fun f => by rw [sRun, if_pos hz, hcl]
    refine o.run 100 [] ?_
    show Z _ _ _ _
    refine o.cV vX3_151 (c_whyNoRun (x := nI m) hnb e4) (fun w' rv _ hpo => ?_)
    obtain ⟨rfl, rfl⟩ := hpo
    rw [whR_0 hz]
    refine o.run 100 [] ⟨fun _ => ?_, fun q => absurd nI_0 q⟩
    show Z _ _ _ _
    refine o.cV vX3_160 (c_faresNow hM) (fun w' rv _ hpo => ?_)
    obtain ⟨⟨M, rfl⟩, rfl⟩ := hpo
    exact o.run 100 [] (pret (Y' := setJ Y 3 M) (A' := (frI RL (Y.1 0) (S.1.1 0) (S.1.1 3) (S.1.1 4) 0 (S.1.1 1) (S.1.1 5) (S.1.2.2.1 0) (S.1.2.2.1 1) (ruT S.1) m, S)) (by rw [sFares, hA, rep_fr hI hT (fun p hp => (hT.2.2.2.1 p hp).1)]) (rep_mono h (Nat.le_succ c)))
  · obtain ⟨hk1, hkp, hk7, hk0⟩ := whR_k hz
    refine o.run 100 [] ?_
    show Z _ _ _ _
    refine o.cV vX3_151 (c_whyNoRun (x := x) hnb e4) (fun w' rv _ hpo => ?_)
    obtain ⟨rfl, rfl⟩ := hpo
    rw [hk1]
    refine o.run 100 [] ⟨fun q => absurd q hk0, fun _ => ?_⟩
    show Z _ _ _ _
    refine o.cV vX3_48 (c_refuse (k := (whK x (S.1.1 3))) hkp hk7) (fun w' rv _ hpo => ?_)
    obtain ⟨rfl, rfl⟩ := hpo
    exact o.run 100 [] (pret (A' := sRf S (whK x (S.1.1 3))) (by rw [sFares, sRun, if_neg hz]) _ (rep_rf h (whK x (S.1.1 3))))

set_option maxRecDepth 10000 in
theorem y_go (h : repY RL Y S c) (hc : c ≤ 100) {x : Int32} : zPub l D C yX3_go cX3_go 3 4 [.int x] Y RL c (sGo S x) := by
  have hI := h.2.1.1
  have hT := h.2.1.2
  have hWb : S.1.1 0 ≤ 6 := hT.1.1
  have hnb : S.1.1 3 ≤ 8 := hT.1.2.2.2.2.1
  have hrb : S.1.1 2 ≤ 10 := hT.1.2.2.2.1
  have e0 : (Y.1 0).1 0 = nI (S.1.1 0) := hI.1.1
  have e3 : (Y.1 0).1 3 = nI (S.1.1 2) := hI.1.2.2.2.1
  have e4 : (Y.1 0).1 4 = nI (S.1.1 3) := hI.1.2.2.2.2.1
  have hR := h.1
  refine zFun_of (by decide) oX3_go tbX3 (Nat.le_of_ble_eq_true rfl) (fun Z o => ?_)
  by_cases hz : whK x (S.1.1 3) = 0
  · obtain ⟨m, rfl, hm1, hm2, hn0⟩ := wh0 hz
    have hcl : cl (nI m) = m := nI_clamp (by omega)
    have hM := rep_okM hR hI hT hc hm2
    have hA : ∀ f, sRun S (nI m) f = f m := fun f => by rw [sRun, if_pos hz, hcl]
    refine o.run 100 [] ?_
    show Z _ _ _ _
    refine o.cV vX3_151 (c_whyNoRun (x := nI m) hnb e4) (fun w' rv _ hpo => ?_)
    obtain ⟨rfl, rfl⟩ := hpo
    rw [whR_0 hz]
    refine o.run 100 [] ⟨fun _ => ?_, fun q => absurd nI_0 q⟩
    show Z _ _ _ _
    refine o.yB 0 (by omega) (Q := fun I rv => aft (Y.1 0) I (S.1.1 4 + m) (vI RL (Y.1 0) (S.1.1 0) (S.1.1 3) (S.1.1 4) 0 (S.1.1 1) (S.1.1 5) (S.1.2.2.1 0) (S.1.2.2.1 1) (ruT S.1) m) (tI RL (Y.1 0) (S.1.1 0) (S.1.1 3) (S.1.1 4) 0 (S.1.1 1) (S.1.1 5) (S.1.2.2.1 0) (S.1.2.2.1 1) (ruT S.1) m) ∧ rv = none) vX3_154 (c_passYears hR hM.2.1 hM.2.2.1 hM.2.2.2.1) (fun w rv hpo => ?_) (fun I rv hq => ?_)
    · obtain ⟨⟨I, rfl, ha⟩, rfl⟩ := hpo
      exact ⟨I, rfl, ha, rfl⟩
    · obtain ⟨⟨a1, a2, ⟨a30, a31, a33, a34⟩, a4, a5⟩, rfl⟩ := hq
      have ey : I.1 5 = nI (S.1.1 4 + m) := by rw [a1]; rfl
      refine o.run 100 [] (pret (Y' := setJ Y 0 I) (A' := (I.1 5, sW S (goT S.1 m))) (by rw [sGo, hA, ey]) ?_)
      obtain ⟨b0, b1, b2, b3, b4, b5⟩ := hI.2.1
      have hrl : ∀ p, p < S.1.1 3 → ruT S.1 p < S.1.1 2 := fun p hp => (hT.2.2.2.1 p hp).1
      refine repY_J h (repI_set hI a2 rfl rfl ⟨?_, ?_, ?_, ?_, ?_, ey, ?_, ?_⟩ ⟨by rw [a30]; exact b0, by rw [a31]; exact b1, ?_, by rw [a33]; exact b3, by rw [a34]; exact b4, ?_⟩) (okT_go hT hm2) (Nat.le_succ c)
      · rw [a1]; exact hI.1.1
      · rw [a1]; exact hI.1.2.1
      · rw [a1]; exact hI.1.2.2.1
      · rw [a1]; exact hI.1.2.2.2.1
      · rw [a1]; exact hI.1.2.2.2.2.1
      · rw [a1]; exact hI.1.2.2.2.2.2.2.1
      · rw [a1]; exact hI.1.2.2.2.2.2.2.2
      · rw [a4, vI_eq b0 (rep_dn hI hrl) (rep_see hI hT)]; rfl
      · rw [a5]
        show tot (S.1.1 3) ((Y.1 0).2.1 0) _ _ ((Y.1 0).2.1 5) m = mix (S.1.1 3) (fun p => S.1.2.2.2.1 1 p + rGn S.1 (ruT S.1) m p) (S.1.2.2.2.1 1)
        rw [tot_add, b5, ← rep_ga hI hT hrl]
        rfl
  · obtain ⟨hk1, hkp, hk7, hk0⟩ := whR_k hz
    refine o.run 100 [] ?_
    show Z _ _ _ _
    refine o.cV vX3_151 (c_whyNoRun (x := x) hnb e4) (fun w' rv _ hpo => ?_)
    obtain ⟨rfl, rfl⟩ := hpo
    rw [hk1]
    refine o.run 100 [] ⟨fun q => absurd q hk0, fun _ => ?_⟩
    show Z _ _ _ _
    refine o.cV vX3_48 (c_refuse (k := (whK x (S.1.1 3))) hkp hk7) (fun w' rv _ hpo => ?_)
    obtain ⟨rfl, rfl⟩ := hpo
    exact o.run 100 [] (pret (A' := sRf S (whK x (S.1.1 3))) (by rw [sGo, sRun, if_neg hz]) _ (rep_rf h (whK x (S.1.1 3))))

set_option maxRecDepth 10000 in
theorem y_ifAll (h : repY RL Y S c) (hc : c ≤ 100) {r x : Int32} : zPub l D C yX3_ifAll cX3_ifAll 4 6 [.int r, .int x] Y RL c (sIfAll S r x) := by
  have hI := h.2.1.1
  have hT := h.2.1.2
  have hWb : S.1.1 0 ≤ 6 := hT.1.1
  have hnb : S.1.1 3 ≤ 8 := hT.1.2.2.2.2.1
  have hrb : S.1.1 2 ≤ 10 := hT.1.2.2.2.1
  have e0 : (Y.1 0).1 0 = nI (S.1.1 0) := hI.1.1
  have e3 : (Y.1 0).1 3 = nI (S.1.1 2) := hI.1.2.2.2.1
  have e4 : (Y.1 0).1 4 = nI (S.1.1 3) := hI.1.2.2.2.2.1
  have hR := h.1
  refine zFun_of (by decide) oX3_ifAll tbX3 (Nat.le_of_ble_eq_true rfl) (fun Z o => ?_)
  by_cases hr : isN r (S.1.1 2) = true
  · obtain ⟨er, hrl⟩ := isN_cl (by omega) hr
    obtain ⟨rn, hrn⟩ : ∃ k, k = cl r := ⟨_, rfl⟩
    rw [← hrn] at er hrl
    subst er
    refine o.run 100 [] ?_
    show Z _ _ _ _
    refine o.cV vX3_111 (c_isRule (x := nI rn) e3) (fun w' rv _ hpo => ?_)
    obtain ⟨rfl, rfl⟩ := hpo
    rw [hr]
    refine o.run 100 [] ⟨fun q => absurd q (by decide), fun _ => ?_⟩
    show Z _ _ _ _
    refine o.cV vX3_151 (c_whyNoRun (x := x) hnb e4) (fun w' rv _ hpo => ?_)
    obtain ⟨rfl, rfl⟩ := hpo
    by_cases hz : whK x (S.1.1 3) = 0
    · obtain ⟨m, rfl, hm1, hm2, hn0⟩ := wh0 hz
      have hcl : cl (nI m) = m := nI_clamp (by omega)
      have hM := rep_okM hR hI hT hc hm2
      obtain ⟨ra, hra⟩ := rep_rule hI hrl
      rw [whR_0 hz]
      refine o.run 100 [] ⟨fun _ => ?_, fun q => absurd nI_0 q⟩
      show Z _ _ _ _
      refine o.cV vX3_185 (c_faresInParts (a := rn) (b := rn) (k := 0) hM (by omega) (by omega) (by omega) hra hra) (fun w' rv _ hpo => ?_)
      obtain ⟨⟨M, rfl⟩, rfl⟩ := hpo
      refine o.run 100 [] (pret (Y' := setJ Y 3 M) (A' := (frI RL (Y.1 0) (S.1.1 0) (S.1.1 3) (S.1.1 4) 0 (S.1.1 1) (S.1.1 5) (S.1.2.2.1 0) (S.1.2.2.1 1) (rPart (S.1.1 3) rn rn 0 (ruT S.1)) m, S)) ?_ (rep_mono h (Nat.le_succ c)))
      rw [sIfAll, if_pos hr, sRun, if_pos hz, hcl, ← hrn, rep_fr hI hT (rPart_lt hrl hrl)]; rfl
    · obtain ⟨hk1, hkp, hk7, hk0⟩ := whR_k hz
      rw [hk1]
      refine o.run 100 [] ⟨fun q => absurd q hk0, fun _ => ?_⟩
      show Z _ _ _ _
      refine o.cV vX3_48 (c_refuse (k := (whK x (S.1.1 3))) hkp hk7) (fun w' rv _ hpo => ?_)
      obtain ⟨rfl, rfl⟩ := hpo
      exact o.run 100 [] (pret (A' := sRf S (whK x (S.1.1 3))) (by rw [sIfAll, if_pos hr, sRun, if_neg hz]) _ (rep_rf h (whK x (S.1.1 3))))
  · have hrf : isN r (S.1.1 2) = false := by rw [← Bool.not_eq_true]; exact hr
    refine o.run 100 [] ?_
    show Z _ _ _ _
    refine o.cV vX3_111 (c_isRule (x := r) e3) (fun w' rv _ hpo => ?_)
    obtain ⟨rfl, rfl⟩ := hpo
    rw [hrf]
    refine o.run 100 [] ⟨fun _ => ⟨fun q => absurd q (by decide), fun _ => ?_⟩, fun q => absurd ((zB_0 false).mpr rfl) q⟩
    show Z _ _ _ _
    refine o.cV vX3_48 (c_refuse (k := 1) (by omega) (by omega)) (fun w' rv _ hpo => ?_)
    obtain ⟨rfl, rfl⟩ := hpo
    exact o.run 100 [] (pret (A' := sRf S 1) (by rw [sIfAll, if_neg hr]) _ (rep_rf h 1))

set_option maxRecDepth 10000 in
theorem y_alike (h : repY RL Y S c) (hc : c ≤ 100) {x : Int32} : zPub l D C yX3_alike cX3_alike 4 4 [.int x] Y RL c (sAlike S x) := by
  have hI := h.2.1.1
  have hT := h.2.1.2
  have hWb : S.1.1 0 ≤ 6 := hT.1.1
  have hnb : S.1.1 3 ≤ 8 := hT.1.2.2.2.2.1
  have hrb : S.1.1 2 ≤ 10 := hT.1.2.2.2.1
  have e0 : (Y.1 0).1 0 = nI (S.1.1 0) := hI.1.1
  have e3 : (Y.1 0).1 3 = nI (S.1.1 2) := hI.1.2.2.2.1
  have e4 : (Y.1 0).1 4 = nI (S.1.1 3) := hI.1.2.2.2.2.1
  have hR := h.1
  refine zFun_of (by decide) oX3_alike tbX3 (Nat.le_of_ble_eq_true rfl) (fun Z o => ?_)
  by_cases hz : whK x (S.1.1 3) = 0
  · obtain ⟨m, rfl, hm1, hm2, hn0⟩ := wh0 hz
    have hcl : cl (nI m) = m := nI_clamp (by omega)
    have hM := rep_okM hR hI hT hc hm2
    have hA : ∀ f, sRun S (nI m) f = f m := fun f => by rw [sRun, if_pos hz, hcl]
    refine o.run 100 [] ?_
    show Z _ _ _ _
    refine o.cV vX3_151 (c_whyNoRun (x := nI m) hnb e4) (fun w' rv _ hpo => ?_)
    obtain ⟨rfl, rfl⟩ := hpo
    rw [whR_0 hz]
    refine o.run 100 [] ⟨fun _ => ?_, fun q => absurd nI_0 q⟩
    have hrl : ∀ p, p < S.1.1 3 → ruT S.1 p < S.1.1 2 := fun p hp => (hT.2.2.2.1 p hp).1
    have hV : ∀ i, vI RL (Y.1 0) (S.1.1 0) (S.1.1 3) (S.1.1 4) 0 (S.1.1 1) (S.1.1 5) (S.1.2.2.1 0) (S.1.2.2.1 1) (ruT S.1) i = rVn S.1 (ruT S.1) i := fun i => vI_eq hI.2.1.1 (rep_dn hI hrl) (rep_see hI hT)
    have hv6 : ∀ i j, vI RL (Y.1 0) (S.1.1 0) (S.1.1 3) (S.1.1 4) 0 (S.1.1 1) (S.1.1 5) (S.1.2.2.1 0) (S.1.2.2.1 1) (ruT S.1) i j < 6 := fun i => vat_lt hWb (fun j => (hT.2.2.1 j).2.1) i
    have hy30 : S.1.1 4 + m < 2 ^ 29 := by have := hT.1.2.2.2.2.2.1; omega
    show Z _ _ _ _
    refine o.yC 3 0 (by omega) (by omega) (by omega) vX3_163 (c_imagine (I := Y.1 3) hM.2.2.2.2) (fun rv hpo => ?_)
    subst hpo
    let f : Nat → Bool := fun i => alk (S.1.1 3) (rVn S.1 (ruT S.1) i)
    have loop : ∀ j i, i + j = m + 1 → fnd f j i = fnd f (m + 1) 0 → ∀ M tt, aft (imI (Y.1 3) (Y.1 0)) M (S.1.1 4 + i) (vI RL (Y.1 0) (S.1.1 0) (S.1.1 3) (S.1.1 4) 0 (S.1.1 1) (S.1.1 5) (S.1.2.2.1 0) (S.1.2.2.1 1) (ruT S.1) i) tt → Z 29 (yamW 53 (setJ Y 3 M) ++ pol 53 RL) [some (.ref 0), some (.int (nI m)), some (.int (nI 0)), some (.int (nI i))] [] := by
      intro j
      induction j with
      | zero =>
        intro i hi hf M tt ha
        obtain rfl : i = m + 1 := by omega
        have e : sAlike S (nI m) = (zi (-9), S) := by
          rw [sAlike, hA]
          show (fndI (fnd f (m + 1) 0), S) = _
          rw [← hf]; rfl
        exact o.run 100 [] ⟨fun _ => ⟨⟨_, rfl, rfl⟩, rfl, ⟨setJ Y 3 M, rfl, by rw [e]; exact rep_mono h (Nat.le_succ c)⟩, by rw [e]⟩, fun q => absurd (nI_lt (by omega) (by omega)) q⟩
      | succ j ih =>
        intro i hi hf M tt ha
        have hokI := aft_okI (M0 := imI (Y.1 3) (Y.1 0)) hM.2.1 ha (hv6 i)
        refine o.run 100 [] ⟨fun q => absurd q (nI_nlt (by omega) (by omega)), fun _ => ?_⟩
        show Z _ _ _ _
        refine o.yAr 3 (Y := setJ Y 3 M) (by omega) vX3_171 (c_isAlike (I := M) hnb hokI.2.1.1) (fun rv hpo => ?_)
        have ef : decide (cnt (fun p => decide (M.2.1 2 p = M.2.1 2 0)) (S.1.1 3) = S.1.1 3) = f i := by
          rw [ha.2.2.2.1, alk_nI (hv6 i), hV]
        rw [ef] at hpo
        subst hpo
        refine o.run 100 [] ⟨fun q => ?_, fun q => pret (Y' := setJ Y 3 M) (A' := (nI i, S)) ?_ (rep_mono h (Nat.le_succ c))⟩
        · have hfi : f i = false := (zB_0 _).mp q
          show Z _ _ _ _
          refine o.yB 3 (Y := setJ Y 3 M) (by omega) (Q := fun M' rv => (∃ tt', aft M M' (S.1.1 4 + i + 1) (vI RL M (S.1.1 0) (S.1.1 3) (S.1.1 4 + i) 0 (S.1.1 1) (S.1.1 5) (S.1.2.2.1 0) (vI RL (Y.1 0) (S.1.1 0) (S.1.1 3) (S.1.1 4) 0 (S.1.1 1) (S.1.1 5) (S.1.2.2.1 0) (S.1.2.2.1 1) (ruT S.1) i) (ruT S.1) 1) tt') ∧ rv = none) vX3_154 (c_passYears (I := M) (m := 1) hR hokI (by rw [ha.2.1]; exact hM.2.2.1) (by omega)) (fun w rv hpo => ?_) (fun M' rv hq => ?_)
          · obtain ⟨⟨M', rfl, hb⟩, rfl⟩ := hpo
            exact ⟨M', rfl, ⟨_, hb⟩, rfl⟩
          · obtain ⟨⟨tt', hb⟩, rfl⟩ := hq
            refine o.run 100 [29] ?_
            have := ih (i + 1) (by omega) (by rw [← hf, fnd, hfi]; rfl) M' tt' (aft_step ha hb)
            rw [← nI_1 i] at this
            exact this
        · have hfi : f i = true := zB_t q
          rw [sAlike, hA]
          show (fndI (fnd f (m + 1) 0), S) = _
          rw [← hf, fnd, if_pos hfi]; rfl
    refine o.run 100 [29] (loop (m + 1) 0 (by omega) rfl _ (fun _ => nI 0) ?_)
    refine ⟨?_, rfl, ⟨rfl, rfl, rfl, rfl⟩, ?_, rfl⟩
    · funext q
      unfold upd
      by_cases hq : q = 5
      · subst hq; exact hI.1.2.2.2.2.2.1
      · rw [if_neg hq]
    · exact hI.2.1.2.2.1
  · obtain ⟨hk1, hkp, hk7, hk0⟩ := whR_k hz
    refine o.run 100 [] ?_
    show Z _ _ _ _
    refine o.cV vX3_151 (c_whyNoRun (x := x) hnb e4) (fun w' rv _ hpo => ?_)
    obtain ⟨rfl, rfl⟩ := hpo
    rw [hk1]
    refine o.run 100 [] ⟨fun q => absurd q hk0, fun _ => ?_⟩
    show Z _ _ _ _
    refine o.cV vX3_48 (c_refuse (k := (whK x (S.1.1 3))) hkp hk7) (fun w' rv _ hpo => ?_)
    obtain ⟨rfl, rfl⟩ := hpo
    exact o.run 100 [] (pret (A' := sRf S (whK x (S.1.1 3))) (by rw [sAlike, sRun, if_neg hz]) _ (rep_rf h (whK x (S.1.1 3))))

set_option maxRecDepth 10000 in
theorem y_wrong (h : repY RL Y S c) (hc : c ≤ 100) {x : Int32} : zPub l D C yX3_wrong cX3_wrong 5 4 [.int x] Y RL c (sWrong S x) := by
  have hI := h.2.1.1
  have hT := h.2.1.2
  have hWb : S.1.1 0 ≤ 6 := hT.1.1
  have hnb : S.1.1 3 ≤ 8 := hT.1.2.2.2.2.1
  have hrb : S.1.1 2 ≤ 10 := hT.1.2.2.2.1
  have e0 : (Y.1 0).1 0 = nI (S.1.1 0) := hI.1.1
  have e3 : (Y.1 0).1 3 = nI (S.1.1 2) := hI.1.2.2.2.1
  have e4 : (Y.1 0).1 4 = nI (S.1.1 3) := hI.1.2.2.2.2.1
  have hR := h.1
  refine zFun_of (by decide) oX3_wrong tbX3 (Nat.le_of_ble_eq_true rfl) (fun Z o => ?_)
  by_cases hz : whK x (S.1.1 3) = 0
  · obtain ⟨m, rfl, hm1, hm2, hn0⟩ := wh0 hz
    have hcl : cl (nI m) = m := nI_clamp (by omega)
    have hM := rep_okM hR hI hT hc hm2
    have hA : ∀ f, sRun S (nI m) f = f m := fun f => by rw [sRun, if_pos hz, hcl]
    refine o.run 100 [] ?_
    show Z _ _ _ _
    refine o.cV vX3_151 (c_whyNoRun (x := nI m) hnb e4) (fun w' rv _ hpo => ?_)
    obtain ⟨rfl, rfl⟩ := hpo
    rw [whR_0 hz]
    refine o.run 100 [] ⟨fun _ => ?_, fun q => absurd nI_0 q⟩
    have hrl : ∀ p, p < S.1.1 3 → ruT S.1 p < S.1.1 2 := fun p hp => (hT.2.2.2.1 p hp).1
    have hV : ∀ i, vI RL (Y.1 0) (S.1.1 0) (S.1.1 3) (S.1.1 4) 0 (S.1.1 1) (S.1.1 5) (S.1.2.2.1 0) (S.1.2.2.1 1) (ruT S.1) i = rVn S.1 (ruT S.1) i := fun i => vI_eq hI.2.1.1 (rep_dn hI hrl) (rep_see hI hT)
    have hv6 : ∀ i j, vI RL (Y.1 0) (S.1.1 0) (S.1.1 3) (S.1.1 4) 0 (S.1.1 1) (S.1.1 5) (S.1.2.2.1 0) (S.1.2.2.1 1) (ruT S.1) i j < 6 := fun i => vat_lt hWb (fun j => (hT.2.2.1 j).2.1) i
    have hy30 : S.1.1 4 + m < 2 ^ 29 := by have := hT.1.2.2.2.2.2.1; omega
    show Z _ _ _ _
    refine o.yC 3 0 (by omega) (by omega) (by omega) vX3_163 (c_imagine (I := Y.1 3) hM.2.2.2.2) (fun rv hpo => ?_)
    subst hpo
    have loop : ∀ j i, i + j = m → ∀ M tt, aft (imI (Y.1 3) (Y.1 0)) M (S.1.1 4 + i) (vI RL (Y.1 0) (S.1.1 0) (S.1.1 3) (S.1.1 4) 0 (S.1.1 1) (S.1.1 5) (S.1.2.2.1 0) (S.1.2.2.1 1) (ruT S.1) i) tt → Z 32 (yamW 53 (setJ Y 3 M) ++ pol 53 RL) [some (.ref 0), some (.int (nI m)), some (.int (nI 0)), some (.int (nI (cnt (wrg S.1) i))), some (.int (nI i))] [] := by
      intro j
      induction j with
      | zero =>
        intro i hi M tt ha
        obtain rfl : i = m := by omega
        exact o.run 100 [] ⟨fun _ => pret (Y' := setJ Y 3 M) (A' := (nI (cnt (wrg S.1) i), S)) (by rw [sWrong, hA]) (rep_mono h (Nat.le_succ c)), fun q => absurd (nI_le (Nat.le_refl _) (by omega)) q⟩
      | succ j ih =>
        intro i hi M tt ha
        have hokI := aft_okI (M0 := imI (Y.1 3) (Y.1 0)) hM.2.1 ha (hv6 i)
        have pass : ∀ k, cnt (wrg S.1) (i + 1) = k → Z 51 (yamW 53 (setJ Y 3 M) ++ pol 53 RL) [some (.ref 0), some (.int (nI m)), some (.int (nI 0)), some (.int (nI k)), some (.int (nI i))] [] := by
          intro k hk
          refine o.run 100 [] ?_
          show Z _ _ _ _
          refine o.yB 3 (Y := setJ Y 3 M) (by omega) (Q := fun M' rv => (∃ tt', aft M M' (S.1.1 4 + i + 1) (vI RL M (S.1.1 0) (S.1.1 3) (S.1.1 4 + i) 0 (S.1.1 1) (S.1.1 5) (S.1.2.2.1 0) (vI RL (Y.1 0) (S.1.1 0) (S.1.1 3) (S.1.1 4) 0 (S.1.1 1) (S.1.1 5) (S.1.2.2.1 0) (S.1.2.2.1 1) (ruT S.1) i) (ruT S.1) 1) tt') ∧ rv = none) vX3_154 (c_passYears (I := M) (m := 1) hR hokI (by rw [ha.2.1]; exact hM.2.2.1) (by omega)) (fun w rv hpo => ?_) (fun M' rv hq => ?_)
          · obtain ⟨⟨M', rfl, hb⟩, rfl⟩ := hpo
            exact ⟨M', rfl, ⟨_, hb⟩, rfl⟩
          · obtain ⟨⟨tt', hb⟩, rfl⟩ := hq
            refine o.run 100 [32] ?_
            have := ih (i + 1) (by omega) M' tt' (aft_step ha hb)
            rw [hk, ← nI_1 i] at this
            exact this
        refine o.run 100 [] ⟨fun q => absurd q (nI_ge (by omega) (by omega)), fun _ => ?_⟩
        show Z _ _ _ _
        refine o.yAr 3 (Y := setJ Y 3 M) (by omega) vX3_167 (c_isWrong (I := M) (W := S.1.1 0) (n := S.1.1 3) (y := S.1.1 4 + i) (s0 := 0) (L := S.1.1 1) (sk := S.1.2.2.1 0) (v := (vI RL (Y.1 0) (S.1.1 0) (S.1.1 3) (S.1.1 4) 0 (S.1.1 1) (S.1.1 5) (S.1.2.2.1 0) (S.1.2.2.1 1) (ruT S.1) i)) hWb hnb (by omega) (Nat.zero_le _) hT.1.2.1 hT.1.2.2.1 hokI.1.1 hokI.2.2.2.1.1 hokI.2.2.1.2.1 hokI.2.1.1 hokI.2.2.1.1 (fun j => (hokI.2.2.2.2.2.1 j).1) (fun j => (hT.2.2.1 j).1) (fun j => (hokI.2.2.2.2.2.2.1 j).1) (hv6 i)) (fun rv hpo => ?_)
        have ef : decide (cnt (fun p => decide (M.2.1 2 p = M.2.1 2 0)) (S.1.1 3) = S.1.1 3 ∧ M.2.1 0 ((vI RL (Y.1 0) (S.1.1 0) (S.1.1 3) (S.1.1 4) 0 (S.1.1 1) (S.1.1 5) (S.1.2.2.1 0) (S.1.2.2.1 1) (ruT S.1) i 0) * 4 + S.1.2.2.1 0 ((S.1.1 4 + i - 0) % S.1.1 1)) < M.2.1 0 (bst (M.2.1 0) (S.1.2.2.1 0 ((S.1.1 4 + i - 0) % S.1.1 1)) (S.1.1 0 - 1) * 4 + S.1.2.2.1 0 ((S.1.1 4 + i - 0) % S.1.1 1))) = wrg S.1 i := by
          rw [Bool.decide_and, ha.2.2.2.1, alk_nI (hv6 i), hV, ha.2.2.1.1]
          show _ = (alk (S.1.1 3) (rVn S.1 (ruT S.1) i) && decide _)
          rw [show (imI (Y.1 3) (Y.1 0)).2.1 0 = S.1.2.1 from hI.2.1.1]
          rfl
        rw [ef] at hpo
        subst hpo
        refine o.run 100 [51] ⟨fun q => ?_, fun q => ?_⟩
        · have hfi : wrg S.1 i = false := (zB_0 _).mp q
          exact pass _ (by rw [cnt, hfi]; rfl)
        · have hfi : wrg S.1 i = true := zB_t q
          have := pass (cnt (wrg S.1) i + 1) (by rw [cnt, hfi]; rfl)
          rw [← nI_1] at this
          exact this
    refine o.run 100 [32] (loop m 0 (by omega) _ (fun _ => nI 0) ?_)
    refine ⟨?_, rfl, ⟨rfl, rfl, rfl, rfl⟩, ?_, rfl⟩
    · funext q
      unfold upd
      by_cases hq : q = 5
      · subst hq; exact hI.1.2.2.2.2.2.1
      · rw [if_neg hq]
    · exact hI.2.1.2.2.1
  · obtain ⟨hk1, hkp, hk7, hk0⟩ := whR_k hz
    refine o.run 100 [] ?_
    show Z _ _ _ _
    refine o.cV vX3_151 (c_whyNoRun (x := x) hnb e4) (fun w' rv _ hpo => ?_)
    obtain ⟨rfl, rfl⟩ := hpo
    rw [hk1]
    refine o.run 100 [] ⟨fun q => absurd q hk0, fun _ => ?_⟩
    show Z _ _ _ _
    refine o.cV vX3_48 (c_refuse (k := (whK x (S.1.1 3))) hkp hk7) (fun w' rv _ hpo => ?_)
    obtain ⟨rfl, rfl⟩ := hpo
    exact o.run 100 [] (pret (A' := sRf S (whK x (S.1.1 3))) (by rw [sWrong, sRun, if_neg hz]) _ (rep_rf h (whK x (S.1.1 3))))

end PUB2
