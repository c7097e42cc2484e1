/-! the class's rule() -/
def zcY (RL : List zRu) (Y : zY) : Prop := ∀ k, k < 4 → ∀ j r, (Y.1 k).2.2 j = some r → r < RL.length ∨ zfo (r + 53)
theorem zcE_isl {b n : Nat} {I : zI} (hb : b + 12 ≤ n) (h : ∀ j r, I.2.2 j = some r → r + 53 < n ∨ zfo (r + 53)) : ∀ x ∈ isl b 53 I, zcE n x := fun x hx => by
  simp only [isl, List.mem_cons, List.not_mem_nil, or_false] at hx
  rcases hx with rfl | rfl | rfl | rfl | rfl | rfl | rfl | rfl | rfl | rfl | rfl | rfl
  · intro v hv
    simp only [List.mem_cons, List.not_mem_nil, or_false] at hv
    rcases hv with rfl | rfl | rfl | rfl | rfl | rfl | rfl | rfl | rfl | rfl | rfl | rfl | rfl | rfl | rfl | rfl | rfl | rfl | rfl <;> first
      | exact zcV_i
      | exact zcV_r (by omega)
  · trivial
  · trivial
  · intro j hj r hr
    obtain ⟨a, ha, rfl⟩ := Option.map_eq_some_iff.mp hr
    exact h j a ha
  all_goals trivial
theorem zcW_yam {RL : List zRu} {Y : zY} (hR : wfR RL) (hY : zcY RL Y) : zcW (yamW 53 Y ++ pol 53 RL) := fun x hx => by
  have hl : (yamW 53 Y ++ pol 53 RL).length = 53 + RL.length := by rw [List.length_append, pol_len]; rfl
  rw [hl]
  have hI : ∀ k, k < 4 → ∀ j r, (Y.1 k).2.2 j = some r → r + 53 < 53 + RL.length ∨ zfo (r + 53) := fun k hk j r hr => (hY k hk j r hr).imp (fun h => by omega) id
  rcases List.mem_append.mp hx with h | h
  · rcases List.mem_cons.mp h with h | h
    · subst h
      intro v hv
      simp only [List.mem_cons, List.not_mem_nil, or_false] at hv
      rcases hv with rfl | rfl | rfl | rfl | rfl | rfl | rfl | rfl <;> first
        | exact zcV_i
        | exact zcV_r (by omega)
    rcases List.mem_append.mp h with h | h
    · exact zcE_isl (by omega) (hI 0 (by omega)) x h
    rcases List.mem_append.mp h with h | h
    · exact zcE_isl (by omega) (hI 1 (by omega)) x h
    rcases List.mem_append.mp h with h | h
    · exact zcE_isl (by omega) (hI 2 (by omega)) x h
    rcases List.mem_append.mp h with h | h
    · exact zcE_isl (by omega) (hI 3 (by omega)) x h
    simp only [List.mem_cons, List.not_mem_nil, or_false] at h
    rcases h with rfl | rfl | rfl | rfl
    · trivial
    · intro v hv
      simp only [List.mem_cons, List.not_mem_nil, or_false] at hv
      rcases hv with rfl | rfl | rfl <;> first
        | exact zcV_i
        | exact zcV_r (by omega)
    · trivial
    · trivial
  · exact zcE_pol hR (Nat.le_refl _) x h
def sgR : Nat → Nat := fun i => if i < 2 then i + 50 else i
theorem ysbR2 {Y : zY} (T : zS) : zsb sgR (yamW 53 Y ++ T) (rdr (Y.2.1 1) (Y.2.2 0) (Y.2.2 1)) := ⟨fun k x hx => by
  match k, hx with
  | 0, hx => cases hx; rfl
  | 1, hx => cases hx; rfl
  | k + 2, hx => simp [rdr] at hx, fun i j hi hj h => by
  have hi : i < 2 := hi
  have hj : j < 2 := hj
  unfold sgR at h
  rw [if_pos hi, if_pos hj] at h
  omega⟩
theorem zpl_yr {Y : zY} {RL NL : List zRu} {f : Nat → Int32} {len pl : Int32} (hN : wfR NL) (hB : 53 + RL.length + NL.length ≤ zBIG) : zplA sgR (yamW 53 Y ++ pol 53 RL) 2 (rdr f len pl ++ pol 2 NL) (yamW 53 (setD Y f len pl) ++ pol 53 (RL ++ shR RL.length NL)) := by
  have hl : (yamW 53 Y ++ pol 53 RL).length = 53 + RL.length := by rw [List.length_append, pol_len]; rfl
  have hl2 : (rdr f len pl ++ pol 2 NL).length = 2 + NL.length := by rw [List.length_append, pol_len]; rfl
  have hs : ∀ r, r < NL.length → zsg sgR 2 (53 + RL.length) (r + 2) = r + (53 + RL.length) := fun r hr => by
    rw [zsg_hi (by omega) (by unfold zBIG at *; omega) (by omega)]; omega
  unfold zplA
  rw [hl, hl2]
  refine ⟨by rw [List.length_append, pol_len, List.length_append, shR_len]; show 53 + _ = _; omega, fun k y hy => ?_, fun i hi hne => ?_⟩
  · match k, hy with
    | 0, hy => cases hy; rfl
    | 1, hy => cases hy; rfl
    | k + 2, hy =>
      rw [List.getElem?_append_right (by show 2 ≤ k + 2; omega)] at hy
      have hy : (pol 2 NL)[k + 2 - 2]? = some y := hy
      rw [Nat.add_sub_cancel] at hy
      have hk : k < NL.length := by
        have := (List.getElem?_eq_some_iff.mp hy).1
        rwa [pol_len] at this
      rw [hs k hk, pol_app, List.getElem?_append_right (by rw [yamW_len]; omega), yamW_len, List.getElem?_append_right (by rw [pol_len]; omega), pol_len, show k + (53 + RL.length) - 53 - RL.length = k by omega]
      exact pol_zrw hN hs hy
  · have h0 : ¬ 50 = i := hne 0 (by omega)
    have h1 : ¬ 51 = i := hne 1 (by omega)
    have h3 := (yplR (Y := Y) (pol 53 RL) f len pl).2.2 i (fun k hk => by
      show k + 50 ≠ i
      omega)
    rw [pol_app, ← List.append_assoc, List.getElem?_append_left (by rw [List.length_append, pol_len, yamW_len]; omega)]
    exact h3
-- texts that are alike are read alike
theorem hr_c {f g : Nat → Int32} {len : Nat} (h : ∀ j, j < len → f j = g j) : hrC f len = hrC g len := by
  funext p
  unfold hrC
  split
  · exact h p (by assumption)
  · rfl
theorem rdN_c {f g : Nat → Int32} {len : Nat} (h : hrC f len = hrC g len) : rdN f len = rdN g len := by
  funext p
  unfold rdN
  rw [h]
theorem pS_c {f g : Nat → Int32} {len p : Nat} {alt : Nat × Option zDn} (h : hrC f len = hrC g len) : pS f len p alt = pS g len p alt := by
  unfold pS
  rw [h, rdN_c h]
theorem pM_c {f g : Nat → Int32} {len p : Nat} {R : Nat → Nat × Option zDn} (h : hrC f len = hrC g len) : pM f len R p = pM g len R p := by
  unfold pM
  rw [h, rdN_c h]
theorem pR_c {f g : Nat → Int32} {len : Nat} (h : hrC f len = hrC g len) : ∀ d, pR f len d = pR g len d
  | 0 => by funext p; exact pS_c h
  | d + 1 => by
    funext p
    show pS f len p (pM f len (pR f len d) p) = pS g len p (pM g len (pR g len d) p)
    rw [pS_c h, pM_c h, pR_c h d]
theorem pA_c {f g : Nat → Int32} {len : Nat} (h : ∀ j, j < len → f j = g j) : pA f len = pA g len := by
  unfold pA
  rw [pR_c (hr_c h) 4]
def sRule (S : zF) : zA := if S.1.1 2 = 10 then sRf S 6 else match (pA S.2.2.1.2 S.2.2.1.1).2 with
  | some g => (nI (S.1.1 2), (tN (tD S.1 (fun r => if r = S.1.1 2 then g else S.1.2.2.2.2 r)) 2 (S.1.1 2 + 1), S.2.1, (0, S.2.2.1.2), S.2.2.2))
  | none => (zi (-20) - nI (pA S.2.2.1.2 S.2.2.1.1).1, (S.1, S.2.1, (0, S.2.2.1.2), S.2.2.2))
theorem repI_app {RL X : List zRu} {I : zI} {t : zT} (hR : wfR RL) (h : repI RL I t) : repI (RL ++ X) I t := by
  refine ⟨h.1, h.2.1, fun r hr => ?_, fun k hk r hkr => ?_⟩
  · obtain ⟨i, g1, g2, g3⟩ := h.2.2.1 r hr
    exact ⟨i, g1, by rw [List.length_append]; omega, fun x => by rw [dnI_app hR g1 g2, g3 x]⟩
  · have := h.2.2.2 k hk r hkr
    rw [List.length_append]; omega
section PUB7
variable {l : Launch} {D : va_G} {C : zC} {Y : zY} {RL : List zRu} {S : zF} {c : Nat}
theorem zOpA.cVi {d RC RS kc ks pc idx nL' d' n n0 : Nat} {own : String} {tab : List (Nat × Instr)} {fl : Nat → Option (Nat × Nat × Nat)} {ki : Nat → Option Int32} {kj : Nat → Option Int64} {Kr : zS → Option Value → Prop} {Z : Nat → Nat → zP} {y' : MethodName} {cc' : ByteArray} {lv : zL} {ret' : Option FieldType} (o : zOpA l D C own tab fl ki kj d RC RS n0 Kr Z) {ws : zS} {Po : zS → Option Value → Prop} {As st rest : List Value} {b0 : Nat} (hW : zCV own idx y' cc' nL' ret' n) (hM : zFun l D C y' cc' nL' ret' (zR d') (.ref b0 :: As) ws Po) (kk : ∀ (w : zS) (rv : Option Value), w.length = ws.length → Po w rv → Z kc ks (pc + 3) w lv (rv.toList ++ rest)) (hrc : ∃ (ci : Nat) (fs : List Value) (r : vw_C), ws[b0]? = some (.inr (.inr (ci, fs))) ∧ vwCl[ci]? = some r ∧ r.1 = y'.cls)
    (hd : zfd tab pc = some (.invokevirtual idx)) (hst : st = As.reverse ++ .ref b0 :: rest) (hn : As.length = n) (hrest : (rest.map fun v => v.category).sum ≤ 8) (hdd : d' < d) (hL : nL' ≤ 21) (hkc : kc ≤ RC) (hks : ks ≤ RS) : Z kc ks pc ws lv st :=
  o.2.1 kc ks y' cc' nL' n idx pc ret' d' (fun i => i) ws ws lv Po As st rest b0 hW hM (zsb_id ws) hrc hd (by rw [zas_id]; exact hst) hn hrest hdd hL hkc hks (fun w rv h1 h2 => ⟨w, zpl_id h1, by rw [zrv_id]; exact kk w rv h1 h2⟩)
set_option maxRecDepth 10000 in
theorem y_rule (h : repY RL Y S c) (hY : zcY RL Y) (hlen : RL.length ≤ 5000) : zFunB l D C yX3_rule cX3_rule 2 (some .int) (zRA 13 31 124) [.ref 0] (yamW 53 Y ++ pol 53 RL) (fun w rv => ∃ (Y' : zY) (RL' : List zRu), w = yamW 53 Y' ++ pol 53 RL' ∧ repY RL' Y' (sRule S).2 (c + 1) ∧ RL'.length ≤ RL.length + 31 ∧ zcY RL' Y' ∧ rv = some (.int (sRule S).1)) := by
  have hI := h.2.1.1
  have hT := h.2.1.2
  have hrb : S.1.1 2 ≤ 10 := hT.1.2.2.2.1
  have e3 : (Y.1 0).1 3 = nI (S.1.1 2) := hI.1.2.2.2.1
  obtain ⟨t0, t1, t2⟩ := h.2.2.2.1
  have hl : (yamW 53 Y ++ pol 53 RL).length = 53 + RL.length := by rw [List.length_append, pol_len]; rfl
  refine zFunB_of (by decide) oX3_rule tbX3 (Nat.le_of_ble_eq_true rfl) (fun Z o => ?_)
  refine o.1 0 0 100 [19] 0 _ _ _ (Nat.zero_le _) (Nat.zero_le _) ⟨fun q => ?_, fun q => ?_⟩
  · have q : (Y.1 0).1 3 < nI 10 := q
    rw [e3, nI_ltI (by omega) (by omega)] at q
    have h10 : ¬ S.1.1 2 = 10 := by omega
    refine o.1 0 0 100 [] 19 _ _ _ (Nat.zero_le _) (Nat.zero_le _) ?_
    show Z 0 0 23 (yamW 53 Y ++ pol 53 RL) [some (.ref 0), none] [.ref 50]
    have eA : pA (Y.2.1 1) S.2.2.1.1 = pA S.2.2.1.2 S.2.2.1.1 := pA_c t2
    have hsb := ysbR2 (Y := Y) (pol 53 RL)
    rw [t0] at hsb
    refine o.2.2.2.1 0 0 31 124 yX1_readAll cX1_readAll 2 0 100 23 (some (.object RX2)) 12 sgR (rdr (Y.2.1 1) (nI S.2.2.1.1) (Y.2.2 1)) _ _ _ [] _ [] 0 vX3_100 (c_readAll t1) hsb (fun k hk => ?_) (fun i hi => if_neg (by have := hi.1; unfold zBIG at this; omega)) (by rw [hl]; show 2 ≤ _; omega) ⟨1, _, _, rfl, rfl, rfl⟩ (by rw [hl]; omega) (zcW_yam h.1.1 hY) (zcL_s (zcV_r (by rw [hl]; omega)) (zcL_n zcL_nil)) zcS_nil rfl rfl rfl (by decide) (by decide) (by decide) (by decide) (by decide) (fun w rv _ hpo => ?_)
    · have hk : k < 2 := hk
      unfold sgR
      rw [if_pos hk, hl]; omega
    obtain ⟨NL, rfl, hc, hok, hm⟩ := hpo
    refine ⟨_, zpl_yr hok.1 (by unfold zBIG; omega), by rw [List.length_append, pol_len, yamW_len, List.length_append, shR_len]; unfold zBIG; omega, ?_⟩
    have hok2 := okR_app h.1 hok
    have hl3 : (RL ++ shR RL.length NL).length = RL.length + NL.length := by rw [List.length_append, shR_len]
    rw [eA] at hm ⊢
    have hY2 : zcY (RL ++ shR RL.length NL) Y := fun k hk j r hr => (hY k hk j r hr).imp (fun z => by rw [hl3]; omega) id
    have hmo := rep_mono h (Nat.le_succ c)
    have hI2 : repI (RL ++ shR RL.length NL) (Y.1 0) S.1 := repI_app h.1.1 hI
    have him : ∀ d, c ≤ d → (match S.2.1 with
      | some t => repI (RL ++ shR RL.length NL) (Y.1 1) t ∧ okT t d ∧ Y.2.2 2 = nI 1
      | none => Y.2.2 2 = nI 0) := fun d hd => by
      have h3 := h.2.2.1
      revert h3
      cases S.2.1 with
      | none => exact id
      | some t => exact fun z => ⟨repI_app h.1.1 z.1, okT_mono z.2.1 hd, z.2.2⟩
    revert hm
    generalize hpa : pA S.2.2.1.2 S.2.2.1.1 = pa
    obtain ⟨p', og⟩ := pa
    cases og with
    | none =>
      intro hm
      have hm : rv = some .null := hm
      subst hm
      have es : sRule S = (zi (-20) - nI p', (S.1, S.2.1, (0, S.2.2.1.2), S.2.2.2)) := by
        rw [sRule, if_neg h10, hpa]
      refine o.1 31 124 100 [] 26 _ _ _ (by decide) (by decide) ⟨⟨_, rfl, rfl⟩, ?_, setD Y (Y.2.1 1) (nI 0) (nI p'), RL ++ shR RL.length NL, rfl, ?_, by omega, hY2, by rw [es]; rfl⟩
      · show (yamW 53 Y ++ pol 53 RL).length ≤ (yamW 53 (setD Y (Y.2.1 1) (nI 0) (nI p')) ++ pol 53 (RL ++ shR RL.length NL)).length
        rw [hl, List.length_append, pol_len, yamW_len, hl3]; omega
      · rw [es]
        exact ⟨hok2, ⟨hI2, okT_mono hT (Nat.le_succ c)⟩, him (c + 1) (Nat.le_succ c), ⟨rfl, Nat.zero_le _, fun j hj => absurd hj (Nat.not_lt_zero j)⟩, h.2.2.2.2⟩
    | some g =>
      rintro ⟨i, rfl, hi, hDN⟩
      have es : sRule S = (nI (S.1.1 2), (tN (tD S.1 (fun r => if r = S.1.1 2 then g else S.1.2.2.2.2 r)) 2 (S.1.1 2 + 1), S.2.1, (0, S.2.2.1.2), S.2.2.2)) := by
        rw [sRule, if_neg h10, hpa]
      have ezs : zsg sgR 2 (yamW 53 Y ++ pol 53 RL).length (i + 2) = i + RL.length + 53 := by
        rw [hl, zsg_hi (by omega) (by unfold zBIG; omega) (by unfold zBIG; omega)]; omega
      show Z 31 124 26 (yamW 53 (setD Y (Y.2.1 1) (nI S.2.2.1.1) (nI p')) ++ pol 53 (RL ++ shR RL.length NL)) [some (.ref 0), none] [.ref (zsg sgR 2 (yamW 53 Y ++ pol 53 RL).length (i + 2))]
      rw [ezs]
      refine o.1 31 124 100 [] 26 _ _ _ (by decide) (by decide) ?_
      show Z 31 124 55 (yamW 53 (setD Y (Y.2.1 1) (nI 0) (nI p')) ++ pol 53 (RL ++ shR RL.length NL)) [some (.ref 0), some (.ref (i + RL.length + 53))] [.ref (i + RL.length + 53), .ref 1]
      refine o.2.1 31 124 yX0_addRule cX0_addRule 2 1 107 55 (some .int) 0 (sgB 0) (isl 0 12 (Y.1 0) ++ pol 12 (RL ++ shR RL.length NL)) _ _ _ [.ref (i + RL.length + 12)] _ [] 0 vX3_107 (c_addRule (I := Y.1 0) (rc := S.1.1 2) (r := i + RL.length) q (by rw [hl3]; omega) e3) (ysbB (Y := setD Y (Y.2.1 1) (nI 0) (nI p')) (by omega)) ⟨0, _, _, rfl, rfl, rfl⟩ rfl ?_ rfl (by decide) (by decide) (by decide) (by decide) (by decide) (fun w rv _ hpo => ?_)
      · show _ = [Value.ref (sgB 0 (i + RL.length + 12)), .ref 1]
        rw [sgB_hi (by omega)]
      obtain ⟨rfl, rfl⟩ := hpo
      refine ⟨_, yplB (Y := setD Y (Y.2.1 1) (nI 0) (nI p')) (by omega) _, ?_⟩
      refine o.1 31 124 100 [] 58 _ _ _ (by decide) (by decide) ⟨⟨_, rfl, rfl⟩, ?_, setJ (setD Y (Y.2.1 1) (nI 0) (nI p')) 0 (setS (setR (Y.1 0) (va_up (Y.1 0).2.2 (S.1.1 2) (some (i + RL.length)))) 3 (nI (S.1.1 2 + 1))), RL ++ shR RL.length NL, rfl, ?_, by omega, ?_, by rw [es]⟩
      · show (yamW 53 Y ++ pol 53 RL).length ≤ (yamW 53 (setJ (setD Y (Y.2.1 1) (nI 0) (nI p')) 0 (setS (setR (Y.1 0) (va_up (Y.1 0).2.2 (S.1.1 2) (some (i + RL.length)))) 3 (nI (S.1.1 2 + 1)))) ++ pol 53 (RL ++ shR RL.length NL)).length
        rw [hl, List.length_append, pol_len, yamW_len, hl3]; omega
      · rw [es]
        refine ⟨hok2, ⟨⟨⟨hI2.1.1, hI2.1.2.1, hI2.1.2.2.1, rfl, hI2.1.2.2.2.2⟩, hI2.2.1, fun r hr => ?_, fun k hk r hkr => ?_⟩, ?_⟩, him (c + 1) (Nat.le_succ c), ⟨rfl, Nat.zero_le _, fun j hj => absurd hj (Nat.not_lt_zero j)⟩, h.2.2.2.2⟩
        · have hr : r < S.1.1 2 + 1 := hr
          by_cases hrr : r = S.1.1 2
          · subst hrr
            refine ⟨i + RL.length, ?_, by rw [hl3]; omega, fun x => ?_⟩
            · show va_up (Y.1 0).2.2 (S.1.1 2) (some (i + RL.length)) (S.1.1 2) = _
              unfold va_up; rw [if_pos rfl]
            · have hrl : va_up (Y.1 0).2.2 (S.1.1 2) (some (i + RL.length)) (S.1.1 2) = some (i + RL.length) := by unfold va_up; rw [if_pos rfl]
              have := DN_dn (DN_sh (P := RL) hDN) (Nat.le_refl 4) hrl x
              show dnI (RL ++ shR RL.length NL) (va_up (Y.1 0).2.2 (S.1.1 2) (some (i + RL.length))) (S.1.1 2) x = (if S.1.1 2 = S.1.1 2 then g else S.1.2.2.2.2 (S.1.1 2)) x
              rw [this, if_pos rfl]
          · obtain ⟨i', g1, g2, g3⟩ := hI2.2.2.1 r (by omega)
            have g1' : va_up (Y.1 0).2.2 (S.1.1 2) (some (i + RL.length)) r = some i' := by unfold va_up; rw [if_neg hrr]; exact g1
            refine ⟨i', g1', g2, fun x => ?_⟩
            show dnI (RL ++ shR RL.length NL) (va_up (Y.1 0).2.2 (S.1.1 2) (some (i + RL.length))) r x = (if r = S.1.1 2 then g else S.1.2.2.2.2 r) x
            rw [if_neg hrr, ← g3 x]
            unfold dnI
            rw [g1', g1]
        · have hkr : va_up (Y.1 0).2.2 (S.1.1 2) (some (i + RL.length)) k = some r := hkr
          unfold va_up at hkr
          split at hkr
          · cases hkr; rw [hl3]; omega
          · exact hI2.2.2.2 k hk r hkr
        · obtain ⟨⟨c0, c1, c2, c3, c4, c5, c6⟩, d1, d2, d3, d4⟩ := okT_mono hT (Nat.le_succ c)
          refine ⟨⟨c0, c1, c2, by show S.1.1 2 + 1 ≤ 10; omega, c4, c5, c6⟩, d1, d2, fun p hp => ⟨Nat.lt_succ_of_lt (d3 p hp).1, (d3 p hp).2⟩, fun r x hr => ?_⟩
          have hr : r < S.1.1 2 + 1 := hr
          show (((if r = S.1.1 2 then g else S.1.2.2.2.2 r) x).2 < 100 ∧ (((if r = S.1.1 2 then g else S.1.2.2.2.2 r) x).1 = nI 116 → 0 < ((if r = S.1.1 2 then g else S.1.2.2.2.2 r) x).2))
          by_cases hrr : r = S.1.1 2
          · rw [if_pos hrr]
            refine ⟨DN_ok hDN, ?_⟩
            refine pR_try 4 0 g ?_ x (f := S.2.2.1.2) (len := S.2.2.1.1)
            have : (pA S.2.2.1.2 S.2.2.1.1).2 = some g := by rw [hpa]
            unfold pA at this
            split at this
            · exact this
            · cases this
          · rw [if_neg hrr]
            exact d4 r x (by omega)
      · intro k hk j r hr
        by_cases hk0 : k = 0
        · subst hk0
          have hr : va_up (Y.1 0).2.2 (S.1.1 2) (some (i + RL.length)) j = some r := hr
          unfold va_up at hr
          split at hr
          · cases hr; left; rw [hl3]; omega
          · exact hY2 0 hk j r hr
        · have e : (setJ (setD Y (Y.2.1 1) (nI 0) (nI p')) 0 (setS (setR (Y.1 0) (va_up (Y.1 0).2.2 (S.1.1 2) (some (i + RL.length)))) 3 (nI (S.1.1 2 + 1)))).1 k = Y.1 k := if_neg hk0
          rw [e] at hr
          exact hY2 k hk j r hr
  · have q : ¬ (Y.1 0).1 3 < nI 10 := q
    rw [e3, nI_ltI (by omega) (by omega)] at q
    have h10 : S.1.1 2 = 10 := by omega
    have es : sRule S = sRf S 6 := by rw [sRule, if_pos h10]
    show Z 0 0 15 (yamW 53 Y ++ pol 53 RL) [some (.ref 0), none] [.int (zi (-6)), .ref 0]
    refine o.cVi (As := [.int (-(nI 6))]) vX3_48 (c_refuse (k := 6) (by omega) (by omega)) (fun w' rv _ hpo => ?_) ⟨3, _, _, rfl, rfl, rfl⟩ rfl rfl rfl (by decide) (by decide) (by decide) (by decide) (by decide)
    obtain ⟨rfl, rfl⟩ := hpo
    refine o.1 0 0 100 [] 18 _ _ _ (Nat.zero_le _) (Nat.zero_le _) ⟨⟨_, rfl, rfl⟩, Nat.le_refl _, setY Y 2 (rfu (Y.2.1 2) 6), RL, rfl, ?_, by omega, hY, by rw [es]; rfl⟩
    rw [es]
    exact rep_rf h 6
end PUB7
