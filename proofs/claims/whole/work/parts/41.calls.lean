/-! submit, disallow, setDelay on both sides (made by mk41.py) -/
theorem cf_ag {a a' : Nat → Int32} {n : Nat} {l : List Nat} (h : cf_K a n l) (h' : cf_K a' n l) : ∀ j, j < n → a j = a' j := fun j hj => (cf_Kg h hj).trans (cf_Kg h' hj).symm
theorem cf_DupC {pool st ln a a' : Nat → Int32} {n uc : Nat} (ag : ∀ j, j < n → a j = a' j) : (∃ u, u < uc ∧ cf_Dup pool st ln a n u) ↔ (∃ u, u < uc ∧ cf_Dup pool st ln a' n u) := by
  have q : ∀ u, cf_Dup pool st ln a n u ↔ cf_Dup pool st ln a' n u := fun u => and_congr_right (fun _ => cf_EQc (fun j hj => by rw [Nat.zero_add]; exact ag j hj))
  exact ⟨fun ⟨u, hu, w⟩ => ⟨u, hu, (q u).mp w⟩, fun ⟨u, hu, w⟩ => ⟨u, hu, (q u).mpr w⟩⟩
theorem cf_FFC {nm nl a a' : Nat → Int32} {n H HL hc : Nat} (hn : H + HL ≤ n) (ag : ∀ j, j < n → a j = a' j) (x : Int32) : cf_FF (cf_Ph nm nl a H HL) hc x ↔ cf_FF (cf_Ph nm nl a' H HL) hc x := by
  have e : cf_Ph nm nl a H HL = cf_Ph nm nl a' H HL := by
    funext h
    exact propext (and_congr_right (fun _ => cf_EQc (fun j hj => ag (H + j) (by omega))))
  rw [e]
theorem cf_PrC {rp rs rl rh a a' : Nat → Int32} {n P rc : Nat} (hP : P ≤ n) (ag : ∀ j, j < n → a j = a' j) (x : Int32) : (∃ r, r < rc ∧ cf_Pr rp rs rl rh a P n x r) ↔ (∃ r, r < rc ∧ cf_Pr rp rs rl rh a' P n x r) := by
  have q : ∀ r, cf_Pr rp rs rl rh a P n x r ↔ cf_Pr rp rs rl rh a' P n x r := fun r => and_congr_right (fun _ => and_congr_right (fun w => cf_EQc (fun j hj => ag (P + j) (by omega))))
  exact ⟨fun ⟨u, hu, w⟩ => ⟨u, hu, (q u).mp w⟩, fun ⟨u, hu, w⟩ => ⟨u, hu, (q u).mpr w⟩⟩
theorem cf_PeC {rp rs rl rh a a' : Nat → Int32} {n P rc : Nat} (hP : P ≤ n) (ag : ∀ j, j < n → a j = a' j) (x : Int32) : (∃ r, r < rc ∧ cf_Pe rp rs rl rh a P n x r) ↔ (∃ r, r < rc ∧ cf_Pe rp rs rl rh a' P n x r) := by
  have q : ∀ r, cf_Pe rp rs rl rh a P n x r ↔ cf_Pe rp rs rl rh a' P n x r := fun r => and_congr_right (fun _ => and_congr_right (fun w => cf_EQc (fun j hj => ag (P + j) (by omega))))
  exact ⟨fun ⟨u, hu, w⟩ => ⟨u, hu, (q u).mp w⟩, fun ⟨u, hu, w⟩ => ⟨u, hu, (q u).mpr w⟩⟩
theorem cf_outC {t : Nat → Nat} {L c he p pE qE : Nat} {po D1 D2 : List Nat} (ht : ∀ j, t j ≤ 126) (ps : cf_PS t L c he p pE qE po D1 D2) (j : Nat) : (cf_out t he po D1 D2).getD j 0 < 2 ^ 31 := by
  have m : ∀ x, x ∈ cf_out t he po D1 D2 → x ≤ 126 := by
    intro x hx
    unfold cf_out at hx
    have d1 := (cf_dcF ht _ _ _ (Nat.le_refl _) ps.2.2.2.2.2.1).2
    have d2 := (cf_dcF ht _ _ _ (Nat.le_refl _) ps.2.2.2.2.2.2.2).2
    rcases List.mem_append.mp hx with hx | hx
    · rcases List.mem_append.mp hx with hx | hx
      · rcases List.mem_append.mp hx with hx | hx
        · obtain ⟨j, hj, e⟩ := cf_sbM hx
          rw [e]
          exact cf_loB (ht _)
        · have q := (cf_POl ps.2.1.2.1 ps.2.2.2.1).2.2 x hx
          omega
      · unfold cf_pa at hx
        have fl : ∀ g, x ∈ cf_fl (cf_dD D1) g → x ≤ 126 := by
          intro g hg
          unfold cf_fl at hg
          obtain ⟨p, hp, hq⟩ := List.mem_flatMap.mp hg
          rcases List.mem_cons.mp hq with e | e
          · omega
          · obtain ⟨j, hj, e⟩ := cf_sbM e
            rw [e]
            exact cf_dDB d1 _
        cases hg : cf_gs D1 with
        | nil =>
          rw [hg] at hx
          have e := List.mem_singleton.mp hx
          omega
        | cons p r =>
          rw [hg] at hx
          exact fl _ hx
    · exact d2 x hx
  rcases Nat.lt_or_ge j (cf_out t he po D1 D2).length with z | z
  · have := m _ (cf_gdm z)
    omega
  · rw [List.getD_eq_getElem?_getD, List.getElem?_eq_none z]
    decide
theorem cb_same {t : Nat → Nat} {L c he p pE qE c' he' p' pE' qE' n H HL P n' H' HL' P' : Nat} {po D1 D2 po' D1' D2' : List Nat} {a a' : Nat → Int32} (ht : ∀ j, t j ≤ 126) (hL : L ≤ 48) (ps : cf_PS t L c he p pE qE po D1 D2) (e1 : n = (cf_out t he po D1 D2).length) (e2 : H = c + 3) (e3 : HL = he - (c + 3)) (e4 : P = he + po.length) (hK : cf_K a n (cf_out t he po D1 D2)) (ps' : cf_PS t L c' he' p' pE' qE' po' D1' D2') (e1' : n' = (cf_out t he' po' D1' D2').length) (e2' : H' = c' + 3) (e3' : HL' = he' - (c' + 3)) (e4' : P' = he' + po'.length) (hK' : cf_K a' n' (cf_out t he' po' D1' D2')) : n' = n ∧ H' = H ∧ HL' = HL ∧ P' = P ∧ (∀ j, j < n → a j = a' j) ∧ H + HL ≤ n ∧ P ≤ n ∧ HL ≤ 16 := by
  have bo := cf_outB ht hL ps
  have ol := cf_outL (t := t) (he := he) (po := po) (D1 := D1) (D2 := D2)
  obtain ⟨rfl, rfl, rfl, rfl, rfl⟩ := cf_PSu ps ps'
  subst e1 e2 e3 e4 e1' e2' e3' e4'
  exact ⟨rfl, rfl, rfl, rfl, cf_ag hK hK', by omega, by omega, by omega⟩
theorem cf_Fu {P : Nat → Prop} {n : Nat} (x y : Int32) (hx : cf_FF P n x) (hy : cf_FF P n y) : x = y := cf_FFu (fun _ _ => Iff.rfl) hx hy
theorem i_vc_submit {k : Nat} {u : SX} {v : SY} (I : i_Rel k u v) (hk : k + 5 ≤ 2562) : wpX_submit (fun r u' => wpY_submit (fun r' v' => r' = r ∧ i_Rel (k + 5) u' v') v) u := by
  obtain ⟨L, mu, uc, uch, hc, rc, rch, f_defaultDelay, f_clock, f_canonLength, f_canonHost, f_canonHostLength, f_canonPath, f_schemePort, f_partLength, f_cLen, f_cHost, f_cHostLen, f_cPq, f_decLen, f_segN, a_buffer, a_canon, a_part, a_urlPool, a_urlStart, a_urlLength, a_urlPath, a_urlHost, a_urlState, a_urlTime, a_names, a_nameLength, a_hostDelay, a_hostNext, a_rulePool, a_ruleStart, a_ruleLength, a_ruleHost, a_hostSent, a_ycanon, a_dec, a_segS, a_segL, rfl, rfl, hL, hB, hU, hH, hR⟩ := I
  obtain ⟨t, hb, ht⟩ := hB
  have hB : cf_BT a_buffer := ⟨t, hb, ht⟩
  have u256 := hU.2.2.1
  have r128 := hR.2.1
  have h32 : uc ≤ 32 := Nat.le_trans hU.2.1 hU.1
  have hU2 : ∀ u, u < uc → ∃ s m, a_urlStart u = nI s ∧ a_urlLength u = nI m ∧ s + m ≤ 256 := by
    intro u hu
    obtain ⟨s, n, p, x, h, e1, e2, e3, e4, e5, e6, -⟩ := hU.2.2.2.2 u hu
    exact ⟨s, n, e1, e2, by omega⟩
  have hU3 : ∀ u, u < uc → ∃ s m p, a_urlStart u = nI s ∧ a_urlLength u = nI m ∧ a_urlPath u = nI p ∧ p ≤ m ∧ s + m ≤ 256 := by
    intro u hu
    obtain ⟨s, n, p, x, h, e1, e2, e3, e4, e5, e6, e7, e8, -⟩ := hU.2.2.2.2 u hu
    exact ⟨s, n, p, e1, e2, e3, by omega, by omega⟩
  have hU4 : ∀ u, u < uc → ∃ s m p a, a_urlStart u = nI s ∧ a_urlLength u = nI m ∧ a_urlPath u = nI p ∧ s + m ≤ 256 ∧ a + 2 ≤ p ∧ p < m ∧ a_urlPool (s + a) = 47 ∧ a_urlPool (s + (a + 1)) = 47 ∧ a_urlPool (s + p) = 47 ∧ ∀ j, j < p → j ≠ a → j ≠ a + 1 → a_urlPool (s + j) ≠ 47 := by
    intro u hu
    obtain ⟨s, n, p, x, h, e1, e2, e3, e4, e5, e6, e7, e8, e9⟩ := hU.2.2.2.2 u hu
    exact ⟨s, n, p, x, e1, e2, e3, by omega, e7, e8, e9⟩
  have hU5 : ∀ u, u < uc → ∃ h, h < hc ∧ a_urlHost u = nI h := by
    intro u hu
    obtain ⟨s, n, p, x, h, e1, e2, e3, e4, e5, e6⟩ := hU.2.2.2.2 u hu
    exact ⟨h, e5, e4⟩
  have hR2 : ∀ r, r < rc → ∃ s m, a_ruleStart r = nI s ∧ a_ruleLength r = nI m ∧ s + m ≤ 128 := by
    intro r hr
    obtain ⟨s, n, e1, e2, e3⟩ := hR.2.2.2 r hr
    exact ⟨s, n, e1, e2, by omega⟩
  refine cx_submit hL hb ht hU.1 hU.2.1 hU.2.2.1 hH.1 hR.1 hU2 hR2 (fun no a1 a2 n1 n2 n3 n4 n5 n6 => ?_) (fun c he p pE qE po D1 D2 n H HL P ps e1 e2 e3 e4 a1 hK r rf a2 n5 n6 => ?_) (fun c he p pE qE po D1 D2 n H HL P ps e1 e2 e3 e4 a1 hK x ac => ⟨fun h hh ex a2 n5 n6 => ?_, fun ex a2 n5 n6 => ?_⟩)
  · exact cy_submit hL hb ht hU.1 hU.2.1 hU.2.2.1 hU.2.2.2.1.symm hH.1 hR.1 hU2 hR2 (fun _ b1 b2 b3 b4 m1 m2 m3 m4 m5 m6 => ⟨rfl, cb_rel (L := 0) (by omega) hB hU hH hR⟩) (fun c he p pE qE po D1 D2 n H HL P ps => absurd ps (no _ _ _ _ _ _ _ _)) (fun c he p pE qE po D1 D2 n H HL P ps => absurd ps (no _ _ _ _ _ _ _ _))
  · refine cy_submit hL hb ht hU.1 hU.2.1 hU.2.2.1 hU.2.2.2.1.symm hH.1 hR.1 hU2 hR2 (fun no => absurd ps (no _ _ _ _ _ _ _ _)) (fun c' he' p' pE' qE' po' D1' D2' n' H' HL' P' ps' e1' e2' e3' e4' a1' hK' r' rf' b2 b3 b4 m5 m6 => ⟨?_, cb_rel (L := 0) (by omega) hB hU hH hR⟩) (fun c' he' p' pE' qE' po' D1' D2' n' H' HL' P' ps' e1' e2' e3' e4' a1' hK' x' ac' => ?_)
    · have sm := cb_same ht hL ps e1 e2 e3 e4 hK ps' e1' e2' e3' e4' hK'
      obtain ⟨rfl, rfl, rfl, rfl, ag, hHn, hPn, hHL⟩ := sm
      exact (cf_Rfu cf_Fu (cf_Rfc (cf_DupC ag) (cf_FFC hHn ag) (cf_PrC hPn ag) rf) rf').symm
    · have sm := cb_same ht hL ps e1 e2 e3 e4 hK ps' e1' e2' e3' e4' hK'
      obtain ⟨rfl, rfl, rfl, rfl, ag, hHn, hPn, hHL⟩ := sm
      exact (cf_RA cf_Fu (cf_Rfc (cf_DupC ag) (cf_FFC hHn ag) (cf_PrC hPn ag) rf) ac').elim
  · refine cy_submit hL hb ht hU.1 hU.2.1 hU.2.2.1 hU.2.2.2.1.symm hH.1 hR.1 hU2 hR2 (fun no => absurd ps (no _ _ _ _ _ _ _ _)) (fun c' he' p' pE' qE' po' D1' D2' n' H' HL' P' ps' e1' e2' e3' e4' a1' hK' r' rf' b2 b3 b4 m5 m6 => ?_) (fun c' he' p' pE' qE' po' D1' D2' n' H' HL' P' ps' e1' e2' e3' e4' a1' hK' x' ac' => ⟨fun h' hh' ex' b2 b3 b4 m5 m6 => ?_, fun ex' b2 b3 b4 m5 m6 => ?_⟩)
    · have sm := cb_same ht hL ps e1 e2 e3 e4 hK ps' e1' e2' e3' e4' hK'
      obtain ⟨rfl, rfl, rfl, rfl, ag, hHn, hPn, hHL⟩ := sm
      exact (cf_RA cf_Fu rf' (cf_Acc (cf_DupC ag) (cf_FFC hHn ag) (cf_PrC hPn ag) ac)).elim
    · have sm := cb_same ht hL ps e1 e2 e3 e4 hK ps' e1' e2' e3' e4' hK'
      obtain ⟨rfl, rfl, rfl, rfl, ag, hHn, hPn, hHL⟩ := sm
      have exx := cf_Fu _ _ (cf_Acc (cf_DupC ag) (cf_FFC hHn ag) (cf_PrC hPn ag) ac).2.1 ac'.2.1
      rw [ex, ex'] at exx
      rw [nI_eq (by have := hH.1; omega) (by have := hH.1; omega)] at exx
      subst exx
      have ec : cf_cp a_urlPool uch a1' 0 n' = cf_cp a_urlPool uch a1 0 n' := cf_cpE _ (fun j hj => by rw [Nat.zero_add]; exact (ag j hj).symm)
      have nf := ac.2.2.2.1
      rw [ec]
      subst e4'
      rw [e4] at *
      exact ⟨rfl, cb_rel (L := 0) (by omega) hB (cf_IUa hU (by omega) (by omega) (cf_outT ps) (cf_outC ht ps) hK hh) (cf_IHu hH) hR⟩
    · have sm := cb_same ht hL ps e1 e2 e3 e4 hK ps' e1' e2' e3' e4' hK'
      obtain ⟨rfl, rfl, rfl, rfl, ag, hHn, hPn, hHL⟩ := sm
      have exx := cf_Fu _ _ (cf_Acc (cf_DupC ag) (cf_FFC hHn ag) (cf_PrC hPn ag) ac).2.1 ac'.2.1
      rw [ex, ex'] at exx
      exact absurd exx (cf_m1 (by have := hH.1; omega))
  · refine cy_submit hL hb ht hU.1 hU.2.1 hU.2.2.1 hU.2.2.2.1.symm hH.1 hR.1 hU2 hR2 (fun no => absurd ps (no _ _ _ _ _ _ _ _)) (fun c' he' p' pE' qE' po' D1' D2' n' H' HL' P' ps' e1' e2' e3' e4' a1' hK' r' rf' b2 b3 b4 m5 m6 => ?_) (fun c' he' p' pE' qE' po' D1' D2' n' H' HL' P' ps' e1' e2' e3' e4' a1' hK' x' ac' => ⟨fun h' hh' ex' b2 b3 b4 m5 m6 => ?_, fun ex' b2 b3 b4 m5 m6 => ?_⟩)
    · have sm := cb_same ht hL ps e1 e2 e3 e4 hK ps' e1' e2' e3' e4' hK'
      obtain ⟨rfl, rfl, rfl, rfl, ag, hHn, hPn, hHL⟩ := sm
      exact (cf_RA cf_Fu rf' (cf_Acc (cf_DupC ag) (cf_FFC hHn ag) (cf_PrC hPn ag) ac)).elim
    · have sm := cb_same ht hL ps e1 e2 e3 e4 hK ps' e1' e2' e3' e4' hK'
      obtain ⟨rfl, rfl, rfl, rfl, ag, hHn, hPn, hHL⟩ := sm
      have exx := cf_Fu _ _ (cf_Acc (cf_DupC ag) (cf_FFC hHn ag) (cf_PrC hPn ag) ac).2.1 ac'.2.1
      rw [ex, ex'] at exx
      exact absurd exx (cf_m1' (by have := hH.1; omega))
    · have sm := cb_same ht hL ps e1 e2 e3 e4 hK ps' e1' e2' e3' e4' hK'
      obtain ⟨rfl, rfl, rfl, rfl, ag, hHn, hPn, hHL⟩ := sm
      have exx := cf_Fu _ _ (cf_Acc (cf_DupC ag) (cf_FFC hHn ag) (cf_PrC hPn ag) ac).2.1 ac'.2.1
      rw [ex, ex'] at exx
      have ec : cf_cp a_urlPool uch a1' 0 n' = cf_cp a_urlPool uch a1 0 n' := cf_cpE _ (fun j hj => by rw [Nat.zero_add]; exact (ag j hj).symm)
      have nf := ac.2.2.2.1
      have ec2 : cf_cp a_names (hc * 16) a1' H' HL' = cf_cp a_names (hc * 16) a1 H' HL' := cf_cpE _ (fun j hj => (ag (H' + j) (by omega)).symm)
      rw [ec, ec2]
      have h8 := ac.2.2.2.2 ex
      subst e4'
      rw [e4] at *
      exact ⟨rfl, cb_rel (L := 0) (by omega) hB (cf_IUa (cf_IUh hU (Nat.le_succ hc)) (by omega) (by omega) (cf_outT ps) (cf_outC ht ps) hK (Nat.lt_succ_self hc)) (cf_IHu (cf_IHh hH h8 hHL hU5)) hR⟩
