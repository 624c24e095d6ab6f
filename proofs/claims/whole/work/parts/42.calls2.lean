/-! disallow and setDelay on both sides (made by mk41.py) -/
theorem i_vc_disallow {k : Nat} {u : SX} {v : SY} (I : i_Rel k u v) (hk : k + 5 ≤ 2562) : wpX_disallow (fun r u' => wpY_disallow (fun r' v' => r' = r ∧ i_Rel (k + 5) u' v') v) u := by
  obtain ⟨L, mu, uc, uch, hc, rc, rch, f_defaultDelay, f_clock, f_canonLength, f_canonHost, f_canonHostLength, f_canonPath, f_schemePort, f_partLength, f_cLen, f_cHost, f_cHostLen, f_cPq, f_decLen, f_segN, a_buffer, a_canon, a_part, a_urlPool, a_urlStart, a_urlLength, a_urlPath, a_urlHost, a_urlState, a_urlTime, a_names, a_nameLength, a_hostDelay, a_hostNext, a_rulePool, a_ruleStart, a_ruleLength, a_ruleHost, a_hostSent, a_ycanon, a_dec, a_segS, a_segL, rfl, rfl, hL, hB, hU, hH, hR⟩ := I
  obtain ⟨t, hb, ht⟩ := hB
  have hB : cf_BT a_buffer := ⟨t, hb, ht⟩
  have u256 := hU.2.2.1
  have r128 := hR.2.1
  have h32 : uc ≤ 32 := Nat.le_trans hU.2.1 hU.1
  have hU2 : ∀ u, u < uc → ∃ s m, a_urlStart u = nI s ∧ a_urlLength u = nI m ∧ s + m ≤ 256 := by
    intro u hu
    obtain ⟨s, n, p, x, h, e1, e2, e3, e4, e5, e6, -⟩ := hU.2.2.2.2 u hu
    exact ⟨s, n, e1, e2, by omega⟩
  have hU3 : ∀ u, u < uc → ∃ s m p, a_urlStart u = nI s ∧ a_urlLength u = nI m ∧ a_urlPath u = nI p ∧ p ≤ m ∧ s + m ≤ 256 := by
    intro u hu
    obtain ⟨s, n, p, x, h, e1, e2, e3, e4, e5, e6, e7, e8, -⟩ := hU.2.2.2.2 u hu
    exact ⟨s, n, p, e1, e2, e3, by omega, by omega⟩
  have hU4 : ∀ u, u < uc → ∃ s m p a, a_urlStart u = nI s ∧ a_urlLength u = nI m ∧ a_urlPath u = nI p ∧ s + m ≤ 256 ∧ a + 2 ≤ p ∧ p < m ∧ a_urlPool (s + a) = 47 ∧ a_urlPool (s + (a + 1)) = 47 ∧ a_urlPool (s + p) = 47 ∧ ∀ j, j < p → j ≠ a → j ≠ a + 1 → a_urlPool (s + j) ≠ 47 := by
    intro u hu
    obtain ⟨s, n, p, x, h, e1, e2, e3, e4, e5, e6, e7, e8, e9⟩ := hU.2.2.2.2 u hu
    exact ⟨s, n, p, x, e1, e2, e3, by omega, e7, e8, e9⟩
  have hU5 : ∀ u, u < uc → ∃ h, h < hc ∧ a_urlHost u = nI h := by
    intro u hu
    obtain ⟨s, n, p, x, h, e1, e2, e3, e4, e5, e6⟩ := hU.2.2.2.2 u hu
    exact ⟨h, e5, e4⟩
  have hR2 : ∀ r, r < rc → ∃ s m, a_ruleStart r = nI s ∧ a_ruleLength r = nI m ∧ s + m ≤ 128 := by
    intro r hr
    obtain ⟨s, n, e1, e2, e3⟩ := hR.2.2.2 r hr
    exact ⟨s, n, e1, e2, by omega⟩
  refine cx_disallow hL hb ht h32 hH.1 hR.1 hR.2.1 hU3 hR2 (fun no a1 a2 n1 n2 n3 n4 n5 n6 => ?_) (fun c he p pE qE po D1 D2 n H HL P ps e1 e2 e3 e4 a1 hK r rf a2 n5 n6 => ?_) (fun c he p pE qE po D1 D2 n H HL P ps e1 e2 e3 e4 a1 hK x ac => ⟨fun h hh ex a2 n5 n6 => ?_, fun ex a2 n5 n6 => ?_⟩)
  · exact cy_disallow hL hb ht (a_pt := a_urlPath) h32 hH.1 hR.1 hR.2.1 hR.2.2.1.symm hU4 hR2 (fun _ b1 b2 b3 b4 m1 m2 m3 m4 m5 m6 => ⟨rfl, cb_rel (L := 0) (by omega) hB hU hH hR⟩) (fun c he p pE qE po D1 D2 n H HL P ps => absurd ps (no _ _ _ _ _ _ _ _)) (fun c he p pE qE po D1 D2 n H HL P ps => absurd ps (no _ _ _ _ _ _ _ _))
  · refine cy_disallow hL hb ht (a_pt := a_urlPath) h32 hH.1 hR.1 hR.2.1 hR.2.2.1.symm hU4 hR2 (fun no => absurd ps (no _ _ _ _ _ _ _ _)) (fun c' he' p' pE' qE' po' D1' D2' n' H' HL' P' ps' e1' e2' e3' e4' a1' hK' r' rf' b2 b3 b4 m5 m6 => ⟨?_, cb_rel (L := 0) (by omega) hB hU hH hR⟩) (fun c' he' p' pE' qE' po' D1' D2' n' H' HL' P' ps' e1' e2' e3' e4' a1' hK' x' ac' => ?_)
    · have sm := cb_same ht hL ps e1 e2 e3 e4 hK ps' e1' e2' e3' e4' hK'
      obtain ⟨rfl, rfl, rfl, rfl, ag, hHn, hPn, hHL⟩ := sm
      exact (cf_Rfu cf_Fu (cf_Rfc Iff.rfl (cf_FFC hHn ag) (cf_PeC hPn ag) rf) rf').symm
    · have sm := cb_same ht hL ps e1 e2 e3 e4 hK ps' e1' e2' e3' e4' hK'
      obtain ⟨rfl, rfl, rfl, rfl, ag, hHn, hPn, hHL⟩ := sm
      exact (cf_RA cf_Fu (cf_Rfc Iff.rfl (cf_FFC hHn ag) (cf_PeC hPn ag) rf) ac').elim
  · refine cy_disallow hL hb ht (a_pt := a_urlPath) h32 hH.1 hR.1 hR.2.1 hR.2.2.1.symm hU4 hR2 (fun no => absurd ps (no _ _ _ _ _ _ _ _)) (fun c' he' p' pE' qE' po' D1' D2' n' H' HL' P' ps' e1' e2' e3' e4' a1' hK' r' rf' b2 b3 b4 m5 m6 => ?_) (fun c' he' p' pE' qE' po' D1' D2' n' H' HL' P' ps' e1' e2' e3' e4' a1' hK' x' ac' => ⟨fun h' hh' ex' b2 b3 b4 m5 m6 => ?_, fun ex' b2 b3 b4 m5 m6 => ?_⟩)
    · have sm := cb_same ht hL ps e1 e2 e3 e4 hK ps' e1' e2' e3' e4' hK'
      obtain ⟨rfl, rfl, rfl, rfl, ag, hHn, hPn, hHL⟩ := sm
      exact (cf_RA cf_Fu rf' (cf_Acc Iff.rfl (cf_FFC hHn ag) (cf_PeC hPn ag) ac)).elim
    · have sm := cb_same ht hL ps e1 e2 e3 e4 hK ps' e1' e2' e3' e4' hK'
      obtain ⟨rfl, rfl, rfl, rfl, ag, hHn, hPn, hHL⟩ := sm
      have exx := cf_Fu _ _ (cf_Acc Iff.rfl (cf_FFC hHn ag) (cf_PeC hPn ag) ac).2.1 ac'.2.1
      rw [ex, ex'] at exx
      rw [nI_eq (by have := hH.1; omega) (by have := hH.1; omega)] at exx
      subst exx
      have ec : cf_cp a_rulePool rch a1' P' (n' - P') = cf_cp a_rulePool rch a1 P' (n' - P') := cf_cpE _ (fun j hj => (ag (P' + j) (by omega)).symm)
      have nf := ac.2.2.2.1
      rw [ec]
      exact ⟨rfl, cb_rel (L := 0) (by omega) hB hU (cf_IHb hH (cf_bkI _ _ _).2) (cf_IRa hR (by omega) (by omega))⟩
    · have sm := cb_same ht hL ps e1 e2 e3 e4 hK ps' e1' e2' e3' e4' hK'
      obtain ⟨rfl, rfl, rfl, rfl, ag, hHn, hPn, hHL⟩ := sm
      have exx := cf_Fu _ _ (cf_Acc Iff.rfl (cf_FFC hHn ag) (cf_PeC hPn ag) ac).2.1 ac'.2.1
      rw [ex, ex'] at exx
      exact absurd exx (cf_m1 (by have := hH.1; omega))
  · refine cy_disallow hL hb ht (a_pt := a_urlPath) h32 hH.1 hR.1 hR.2.1 hR.2.2.1.symm hU4 hR2 (fun no => absurd ps (no _ _ _ _ _ _ _ _)) (fun c' he' p' pE' qE' po' D1' D2' n' H' HL' P' ps' e1' e2' e3' e4' a1' hK' r' rf' b2 b3 b4 m5 m6 => ?_) (fun c' he' p' pE' qE' po' D1' D2' n' H' HL' P' ps' e1' e2' e3' e4' a1' hK' x' ac' => ⟨fun h' hh' ex' b2 b3 b4 m5 m6 => ?_, fun ex' b2 b3 b4 m5 m6 => ?_⟩)
    · have sm := cb_same ht hL ps e1 e2 e3 e4 hK ps' e1' e2' e3' e4' hK'
      obtain ⟨rfl, rfl, rfl, rfl, ag, hHn, hPn, hHL⟩ := sm
      exact (cf_RA cf_Fu rf' (cf_Acc Iff.rfl (cf_FFC hHn ag) (cf_PeC hPn ag) ac)).elim
    · have sm := cb_same ht hL ps e1 e2 e3 e4 hK ps' e1' e2' e3' e4' hK'
      obtain ⟨rfl, rfl, rfl, rfl, ag, hHn, hPn, hHL⟩ := sm
      have exx := cf_Fu _ _ (cf_Acc Iff.rfl (cf_FFC hHn ag) (cf_PeC hPn ag) ac).2.1 ac'.2.1
      rw [ex, ex'] at exx
      exact absurd exx (cf_m1' (by have := hH.1; omega))
    · have sm := cb_same ht hL ps e1 e2 e3 e4 hK ps' e1' e2' e3' e4' hK'
      obtain ⟨rfl, rfl, rfl, rfl, ag, hHn, hPn, hHL⟩ := sm
      have exx := cf_Fu _ _ (cf_Acc Iff.rfl (cf_FFC hHn ag) (cf_PeC hPn ag) ac).2.1 ac'.2.1
      rw [ex, ex'] at exx
      have ec : cf_cp a_rulePool rch a1' P' (n' - P') = cf_cp a_rulePool rch a1 P' (n' - P') := cf_cpE _ (fun j hj => (ag (P' + j) (by omega)).symm)
      have nf := ac.2.2.2.1
      have ec2 : cf_cp a_names (hc * 16) a1' H' HL' = cf_cp a_names (hc * 16) a1 H' HL' := cf_cpE _ (fun j hj => (ag (H' + j) (by omega)).symm)
      rw [ec, ec2]
      have h8 := ac.2.2.2.2 ex
      exact ⟨rfl, cb_rel (L := 0) (by omega) hB (cf_IUh hU (Nat.le_succ hc)) (cf_IHb (cf_IHh hH h8 hHL hU5) (cf_bkI _ _ _).2) (cf_IRa hR (by omega) (by omega))⟩
theorem i_vc_setDelay {k : Nat} {u : SX} {v : SY} (I : i_Rel k u v) (hk : k + 5 ≤ 2562) (v1 : Int32) : wpX_setDelay (fun r u' => wpY_setDelay (fun r' v' => r' = r ∧ i_Rel (k + 5) u' v') v v1) u v1 := by
  obtain ⟨L, mu, uc, uch, hc, rc, rch, f_defaultDelay, f_clock, f_canonLength, f_canonHost, f_canonHostLength, f_canonPath, f_schemePort, f_partLength, f_cLen, f_cHost, f_cHostLen, f_cPq, f_decLen, f_segN, a_buffer, a_canon, a_part, a_urlPool, a_urlStart, a_urlLength, a_urlPath, a_urlHost, a_urlState, a_urlTime, a_names, a_nameLength, a_hostDelay, a_hostNext, a_rulePool, a_ruleStart, a_ruleLength, a_ruleHost, a_hostSent, a_ycanon, a_dec, a_segS, a_segL, rfl, rfl, hL, hB, hU, hH, hR⟩ := I
  obtain ⟨t, hb, ht⟩ := hB
  have hB : cf_BT a_buffer := ⟨t, hb, ht⟩
  have u256 := hU.2.2.1
  have r128 := hR.2.1
  have h32 : uc ≤ 32 := Nat.le_trans hU.2.1 hU.1
  have hU2 : ∀ u, u < uc → ∃ s m, a_urlStart u = nI s ∧ a_urlLength u = nI m ∧ s + m ≤ 256 := by
    intro u hu
    obtain ⟨s, n, p, x, h, e1, e2, e3, e4, e5, e6, -⟩ := hU.2.2.2.2 u hu
    exact ⟨s, n, e1, e2, by omega⟩
  have hU3 : ∀ u, u < uc → ∃ s m p, a_urlStart u = nI s ∧ a_urlLength u = nI m ∧ a_urlPath u = nI p ∧ p ≤ m ∧ s + m ≤ 256 := by
    intro u hu
    obtain ⟨s, n, p, x, h, e1, e2, e3, e4, e5, e6, e7, e8, -⟩ := hU.2.2.2.2 u hu
    exact ⟨s, n, p, e1, e2, e3, by omega, by omega⟩
  have hU4 : ∀ u, u < uc → ∃ s m p a, a_urlStart u = nI s ∧ a_urlLength u = nI m ∧ a_urlPath u = nI p ∧ s + m ≤ 256 ∧ a + 2 ≤ p ∧ p < m ∧ a_urlPool (s + a) = 47 ∧ a_urlPool (s + (a + 1)) = 47 ∧ a_urlPool (s + p) = 47 ∧ ∀ j, j < p → j ≠ a → j ≠ a + 1 → a_urlPool (s + j) ≠ 47 := by
    intro u hu
    obtain ⟨s, n, p, x, h, e1, e2, e3, e4, e5, e6, e7, e8, e9⟩ := hU.2.2.2.2 u hu
    exact ⟨s, n, p, x, e1, e2, e3, by omega, e7, e8, e9⟩
  have hU5 : ∀ u, u < uc → ∃ h, h < hc ∧ a_urlHost u = nI h := by
    intro u hu
    obtain ⟨s, n, p, x, h, e1, e2, e3, e4, e5, e6⟩ := hU.2.2.2.2 u hu
    exact ⟨h, e5, e4⟩
  have hR2 : ∀ r, r < rc → ∃ s m, a_ruleStart r = nI s ∧ a_ruleLength r = nI m ∧ s + m ≤ 128 := by
    intro r hr
    obtain ⟨s, n, e1, e2, e3⟩ := hR.2.2.2 r hr
    exact ⟨s, n, e1, e2, by omega⟩
  by_cases hv1 : v1 < 1
  · exact br_t hv1 (br_t hv1 ⟨rfl, cb_rel (L := 0) (by omega) hB hU hH hR⟩)
  by_cases hv2 : v1 ≤ 16
  rotate_left
  · exact br_f hv1 (br_f hv2 (br_f hv1 (br_f hv2 ⟨rfl, cb_rel (L := 0) (by omega) hB hU hH hR⟩)))
  refine cx_setDelay hL hb ht hH.1 hv1 hv2 (fun no a1 a2 n1 n2 n3 n4 n5 n6 => ?_) (fun c he p pE qE po D1 D2 n H HL P ps e1 e2 e3 e4 a1 hK r rf a2 n5 n6 => ?_) (fun c he p pE qE po D1 D2 n H HL P ps e1 e2 e3 e4 a1 hK x ac => ⟨fun h hh ex a2 n5 n6 => ?_, fun ex a2 n5 n6 => ?_⟩)
  · exact cy_setDelay hL hb ht hH.1 hv1 hv2 (fun _ b1 b2 b3 b4 m1 m2 m3 m4 m5 m6 => ⟨rfl, cb_rel (L := 0) (by omega) hB hU hH hR⟩) (fun c he p pE qE po D1 D2 n H HL P ps => absurd ps (no _ _ _ _ _ _ _ _)) (fun c he p pE qE po D1 D2 n H HL P ps => absurd ps (no _ _ _ _ _ _ _ _))
  · refine cy_setDelay hL hb ht hH.1 hv1 hv2 (fun no => absurd ps (no _ _ _ _ _ _ _ _)) (fun c' he' p' pE' qE' po' D1' D2' n' H' HL' P' ps' e1' e2' e3' e4' a1' hK' r' rf' b2 b3 b4 m5 m6 => ⟨?_, cb_rel (L := 0) (by omega) hB hU hH hR⟩) (fun c' he' p' pE' qE' po' D1' D2' n' H' HL' P' ps' e1' e2' e3' e4' a1' hK' x' ac' => ?_)
    · have sm := cb_same ht hL ps e1 e2 e3 e4 hK ps' e1' e2' e3' e4' hK'
      obtain ⟨rfl, rfl, rfl, rfl, ag, hHn, hPn, hHL⟩ := sm
      exact (cf_Rfu cf_Fu (cf_Rfc Iff.rfl (cf_FFC hHn ag) (fun _ => Iff.rfl) rf) rf').symm
    · have sm := cb_same ht hL ps e1 e2 e3 e4 hK ps' e1' e2' e3' e4' hK'
      obtain ⟨rfl, rfl, rfl, rfl, ag, hHn, hPn, hHL⟩ := sm
      exact (cf_RA cf_Fu (cf_Rfc Iff.rfl (cf_FFC hHn ag) (fun _ => Iff.rfl) rf) ac').elim
  · refine cy_setDelay hL hb ht hH.1 hv1 hv2 (fun no => absurd ps (no _ _ _ _ _ _ _ _)) (fun c' he' p' pE' qE' po' D1' D2' n' H' HL' P' ps' e1' e2' e3' e4' a1' hK' r' rf' b2 b3 b4 m5 m6 => ?_) (fun c' he' p' pE' qE' po' D1' D2' n' H' HL' P' ps' e1' e2' e3' e4' a1' hK' x' ac' => ⟨fun h' hh' ex' b2 b3 b4 m5 m6 => ?_, fun ex' b2 b3 b4 m5 m6 => ?_⟩)
    · have sm := cb_same ht hL ps e1 e2 e3 e4 hK ps' e1' e2' e3' e4' hK'
      obtain ⟨rfl, rfl, rfl, rfl, ag, hHn, hPn, hHL⟩ := sm
      exact (cf_RA cf_Fu rf' (cf_Acc Iff.rfl (cf_FFC hHn ag) (fun _ => Iff.rfl) ac)).elim
    · have sm := cb_same ht hL ps e1 e2 e3 e4 hK ps' e1' e2' e3' e4' hK'
      obtain ⟨rfl, rfl, rfl, rfl, ag, hHn, hPn, hHL⟩ := sm
      have exx := cf_Fu _ _ (cf_Acc Iff.rfl (cf_FFC hHn ag) (fun _ => Iff.rfl) ac).2.1 ac'.2.1
      rw [ex, ex'] at exx
      rw [nI_eq (by have := hH.1; omega) (by have := hH.1; omega)] at exx
      subst exx
      exact ⟨rfl, cb_rel (L := 0) (by omega) hB hU hH hR⟩
    · have sm := cb_same ht hL ps e1 e2 e3 e4 hK ps' e1' e2' e3' e4' hK'
      obtain ⟨rfl, rfl, rfl, rfl, ag, hHn, hPn, hHL⟩ := sm
      have exx := cf_Fu _ _ (cf_Acc Iff.rfl (cf_FFC hHn ag) (fun _ => Iff.rfl) ac).2.1 ac'.2.1
      rw [ex, ex'] at exx
      exact absurd exx (cf_m1 (by have := hH.1; omega))
  · refine cy_setDelay hL hb ht hH.1 hv1 hv2 (fun no => absurd ps (no _ _ _ _ _ _ _ _)) (fun c' he' p' pE' qE' po' D1' D2' n' H' HL' P' ps' e1' e2' e3' e4' a1' hK' r' rf' b2 b3 b4 m5 m6 => ?_) (fun c' he' p' pE' qE' po' D1' D2' n' H' HL' P' ps' e1' e2' e3' e4' a1' hK' x' ac' => ⟨fun h' hh' ex' b2 b3 b4 m5 m6 => ?_, fun ex' b2 b3 b4 m5 m6 => ?_⟩)
    · have sm := cb_same ht hL ps e1 e2 e3 e4 hK ps' e1' e2' e3' e4' hK'
      obtain ⟨rfl, rfl, rfl, rfl, ag, hHn, hPn, hHL⟩ := sm
      exact (cf_RA cf_Fu rf' (cf_Acc Iff.rfl (cf_FFC hHn ag) (fun _ => Iff.rfl) ac)).elim
    · have sm := cb_same ht hL ps e1 e2 e3 e4 hK ps' e1' e2' e3' e4' hK'
      obtain ⟨rfl, rfl, rfl, rfl, ag, hHn, hPn, hHL⟩ := sm
      have exx := cf_Fu _ _ (cf_Acc Iff.rfl (cf_FFC hHn ag) (fun _ => Iff.rfl) ac).2.1 ac'.2.1
      rw [ex, ex'] at exx
      exact absurd exx (cf_m1' (by have := hH.1; omega))
    · have sm := cb_same ht hL ps e1 e2 e3 e4 hK ps' e1' e2' e3' e4' hK'
      obtain ⟨rfl, rfl, rfl, rfl, ag, hHn, hPn, hHL⟩ := sm
      have exx := cf_Fu _ _ (cf_Acc Iff.rfl (cf_FFC hHn ag) (fun _ => Iff.rfl) ac).2.1 ac'.2.1
      rw [ex, ex'] at exx
      have ec2 : cf_cp a_names (hc * 16) a1' H' HL' = cf_cp a_names (hc * 16) a1 H' HL' := cf_cpE _ (fun j hj => (ag (H' + j) (by omega)).symm)
      rw [ec2]
      have h8 := ac.2.2.2.2 ex
      exact ⟨rfl, cb_rel (L := 0) (by omega) hB (cf_IUh hU (Nat.le_succ hc)) (cf_IHh hH h8 hHL hU5) hR⟩
