/-! textChar and info on both sides (made by mk43.py) -/
theorem i_vc_textChar {k : Nat} {u : SX} {v : SY} (I : i_Rel k u v) (hk : k + 5 ≤ 2562) (v1 : Int32) (v2 : Int32) (v3 : Int32) : wpX_textChar (fun r => wpY_textChar (fun r' => r' = r ∧ i_Rel (k + 5) u v) v v1 v2 v3) u v1 v2 v3 := by
  obtain ⟨L, mu, uc, uch, hc, rc, rch, f_defaultDelay, f_clock, f_canonLength, f_canonHost, f_canonHostLength, f_canonPath, f_schemePort, f_partLength, f_cLen, f_cHost, f_cHostLen, f_cPq, f_decLen, f_segN, a_buffer, a_canon, a_part, a_urlPool, a_urlStart, a_urlLength, a_urlPath, a_urlHost, a_urlState, a_urlTime, a_names, a_nameLength, a_hostDelay, a_hostNext, a_rulePool, a_ruleStart, a_ruleLength, a_ruleHost, a_hostSent, a_ycanon, a_dec, a_segS, a_segL, rfl, rfl, hL, hB, hU, hH, hR⟩ := I
  have h32 : uc ≤ 32 := Nat.le_trans hU.2.1 hU.1
  have h8 := hH.1
  have r8 := hR.1
  obtain ⟨r, info, hX, hY⟩ := cb_len (v1 := v1) (v2 := v2) (L := L) hU hH hR
  unfold wpX_textChar wpY_textChar
  dsimp only
  refine hX _ ?_
  have neg : v3 < 0 → ∀ (A B C : Prop), A → (v3 < 0 → A) ∧ (¬ v3 < 0 → B) := fun z A B _ a => br_t z a
  by_cases z0 : v3 < 0
  · refine br_t z0 (hY _ ?_)
    exact br_c (fun _ => ⟨rfl, cb_rel hL hB hU hH hR⟩) (fun _ => br_t z0 ⟨rfl, cb_rel hL hB hU hH hR⟩)
  by_cases z1 : v3 < r
  rotate_left
  · refine br_f z0 (br_f z1 (hY _ ?_))
    exact br_c (fun _ => ⟨rfl, cb_rel hL hB hU hH hR⟩) (fun _ => br_f z0 (br_f z1 ⟨rfl, cb_rel hL hB hU hH hR⟩))
  refine br_f z0 (br_t z1 ?_)
  obtain ⟨i, hi, rfl⟩ := nI_of z0
  have lt : ∀ m, m ≤ 300 → r = nI m → i < m := by
    intro m hm e
    rw [e, nI_ltI hi (by omega)] at z1
    exact z1
  have rn : ∀ m, m ≤ 300 → r = nI m → ¬ r < 0 := by
    intro m hm e
    rw [e]
    exact nI_pos (by omega)
  rcases info with ⟨rfl, e⟩ | ⟨rfl, j, s, m, hj, rfl, e1, e, hb⟩ | ⟨rfl, j, m, hj, rfl, e, hb⟩ | ⟨rfl, j, s, m, hj, rfl, e1, e, hb⟩ | e
  · have il := lt L (by omega) e
    exact br_t rfl ⟨pk_in i 48 (by omega), hY _ (br_f (rn L (by omega) e) (br_f z0 (br_t z1 (br_f (by decide) (br_f (by decide) (br_f (by decide) ⟨pk_in i 48 (by omega), rfl, cb_rel hL hB hU hH hR⟩))))))⟩
  · have il := lt m (by omega) e
    have d : a_urlStart (nI j).toNatClampNeg + nI i = nI (s + i) := by rw [cf_ix j rfl (by omega) e1, nI_add]
    exact br_f (by decide) (br_t rfl ⟨pk_in j 32 (by omega), pk_in (s + i) 256 (by omega) d, hY _ (br_f (rn m (by omega) e) (br_f z0 (br_t z1 (br_t rfl ⟨pk_in j 32 (by omega), pk_in (s + i) 256 (by omega) d, rfl, cb_rel hL hB hU hH hR⟩))))⟩)
  · have il := lt m (by omega) e
    have d : nI j * 16 + nI i = nI (j * 16 + i) := (congrArg (fun z => z + nI i) (pk_mul j 16)).trans (nI_add _ _)
    exact br_f (by decide) (br_f (by decide) (br_t rfl ⟨pk_in (j * 16 + i) 128 (by omega) d, hY _ (br_f (rn m (by omega) e) (br_f z0 (br_t z1 (br_f (by decide) (br_t rfl ⟨pk_in (j * 16 + i) 128 (by omega) d, rfl, cb_rel hL hB hU hH hR⟩)))))⟩))
  · have il := lt m (by omega) e
    have d : a_ruleStart (nI j).toNatClampNeg + nI i = nI (s + i) := by rw [cf_ix j rfl (by omega) e1, nI_add]
    exact br_f (by decide) (br_f (by decide) (br_f (by decide) ⟨pk_in j 8 (by omega), pk_in (s + i) 128 (by omega) d, hY _ (br_f (rn m (by omega) e) (br_f z0 (br_t z1 (br_f (by decide) (br_f (by decide) (br_t rfl ⟨pk_in j 8 (by omega), pk_in (s + i) 128 (by omega) d, rfl, cb_rel hL hB hU hH hR⟩))))))⟩))
  · rw [e] at z1
    exact absurd (Int32.lt_trans z1 cf_m0) z0
theorem i_vc_info {k : Nat} {u : SX} {v : SY} (I : i_Rel k u v) (hk : k + 5 ≤ 2562) (v1 : Int32) (v2 : Int32) (v3 : Int32) : wpX_info (fun r => wpY_info (fun r' => r' = r ∧ i_Rel (k + 5) u v) v v1 v2 v3) u v1 v2 v3 := by
  obtain ⟨L, mu, uc, uch, hc, rc, rch, f_defaultDelay, f_clock, f_canonLength, f_canonHost, f_canonHostLength, f_canonPath, f_schemePort, f_partLength, f_cLen, f_cHost, f_cHostLen, f_cPq, f_decLen, f_segN, a_buffer, a_canon, a_part, a_urlPool, a_urlStart, a_urlLength, a_urlPath, a_urlHost, a_urlState, a_urlTime, a_names, a_nameLength, a_hostDelay, a_hostNext, a_rulePool, a_ruleStart, a_ruleLength, a_ruleHost, a_hostSent, a_ycanon, a_dec, a_segS, a_segL, rfl, rfl, hL, hB, hU, hH, hR⟩ := I
  have h32 : uc ≤ 32 := Nat.le_trans hU.2.1 hU.1
  have h8 := hH.1
  have r8 := hR.1
  have J : ∀ k, i_Rel k (nI mu, f_defaultDelay, f_clock, nI L, f_canonLength, f_canonHost, f_canonHostLength, f_canonPath, f_schemePort, f_partLength, nI uc, nI uch, nI hc, nI rc, nI rch, a_buffer, a_canon, a_part, a_urlPool, a_urlStart, a_urlLength, a_urlPath, a_urlHost, a_urlState, a_urlTime, a_names, a_nameLength, a_hostDelay, a_hostNext, a_rulePool, a_ruleStart, a_ruleLength, a_ruleHost) (nI mu, f_defaultDelay, f_clock, nI L, nI uc, nI hc, nI rc, f_cLen, f_cHost, f_cHostLen, f_cPq, f_decLen, f_segN, a_buffer, a_urlPool, a_urlStart, a_urlLength, a_urlState, a_urlHost, a_urlTime, a_names, a_nameLength, a_hostDelay, a_hostNext, a_hostSent, a_rulePool, a_ruleStart, a_ruleLength, a_ruleHost, a_ycanon, a_dec, a_segS, a_segL) := fun k => cb_rel hL hB hU hH hR
  unfold wpX_info wpY_info
  dsimp only
  by_cases c0 : v1 = 0
  · subst c0
    refine cx_list0 (fun j hj e => ?_) (fun out => br_t rfl ?_) (by omega)
    · subst e
      have vi : vp_in (nI j) 32 := pk_in j 32 (by omega)
      refine br_f (by decide) (br_t rfl ?_)
      have y0 : ∀ {A B C : Prop}, C → (nI j < 0 → A) ∧ (¬ nI j < 0 → ((nI uc ≤ nI j → B) ∧ (¬ nI uc ≤ nI j → C))) := fun c => br_f (nI_pos (by omega)) (br_f (nI_ge hj (by omega)) c)
      by_cases f0 : v3 = 0
      · subst f0
        exact br_f (by decide) (br_f (by decide) (br_t rfl ⟨vi, br_t rfl (y0 (br_t rfl ⟨vi, rfl, J _⟩))⟩))
      by_cases f1 : v3 = 1
      · subst f1
        exact br_f (by decide) (br_f (by decide) (br_f (by decide) (br_t rfl ⟨vi, br_t rfl (y0 (br_f (by decide) (br_t rfl ⟨vi, rfl, J _⟩)))⟩)))
      by_cases f2 : v3 = 2
      · subst f2
        exact br_f (by decide) (br_f (by decide) (br_f (by decide) (br_f (by decide) (br_t rfl ⟨vi, br_t rfl (y0 (br_f (by decide) (br_f (by decide) (br_t rfl ⟨vi, rfl, J _⟩))))⟩))))
      exact br_c (fun _ => br_t rfl (y0 (br_f f0 (br_f f1 (br_f f2 ⟨rfl, J _⟩))))) (fun _ => br_c (fun _ => br_t rfl (y0 (br_f f0 (br_f f1 (br_f f2 ⟨rfl, J _⟩))))) (fun _ => br_f f0 (br_f f1 (br_f f2 trivial))))
    · refine br_t rfl (br_c (fun _ => ?_) (fun y => br_c (fun _ => ?_) (fun y2 => absurd (out.resolve_left y) y2)))
      · exact br_f (by decide) (br_f (by decide) ⟨rfl, J _⟩)
      · exact br_f (by decide) (br_f (by decide) ⟨rfl, J _⟩)
  by_cases c1 : v1 = 1
  · subst c1
    refine cx_list1 (fun j hj e => ?_) (fun out => br_t rfl ?_) (by omega)
    · subst e
      have vi : vp_in (nI j) 8 := pk_in j 8 (by omega)
      have es := (hH.2 j hj).2
      refine br_f (by decide) (br_f (by decide) (br_t rfl ?_))
      have y0 : ∀ {A B C : Prop}, C → (nI j < 0 → A) ∧ (¬ nI j < 0 → ((nI hc ≤ nI j → B) ∧ (¬ nI hc ≤ nI j → C))) := fun c => br_f (nI_pos (by omega)) (br_f (nI_ge hj (by omega)) c)
      by_cases f3 : v3 = 3
      · subst f3
        exact br_f (by decide) (br_f (by decide) (br_t rfl (cx_urlsOf h32 (br_f (by decide) (br_t rfl (y0 (br_t rfl (cy_queuedOf h32 ⟨rfl, J _⟩))))))))
      by_cases f4 : v3 = 4
      · subst f4
        exact br_f (by decide) (br_f (by decide) (br_f (by decide) (br_t rfl ⟨vi, br_f (by decide) (br_t rfl (y0 (br_f (by decide) (br_t rfl ⟨vi, rfl, J _⟩))))⟩)))
      by_cases f5 : v3 = 5
      · subst f5
        exact br_f (by decide) (br_f (by decide) (br_f (by decide) (br_f (by decide) (br_t rfl ⟨vi, br_f (by decide) (br_t rfl (y0 (br_f (by decide) (br_f (by decide) (br_t rfl ⟨vi, rfl, J _⟩)))))⟩))))
      by_cases f6 : v3 = 6
      · subst f6
        exact br_f (by decide) (br_f (by decide) (br_f (by decide) (br_f (by decide) (br_f (by decide) (br_t rfl (cx_urlsOf h32 (br_f (by decide) (br_t rfl (y0 (br_f (by decide) (br_f (by decide) (br_f (by decide) (br_t rfl ⟨vi, cf_ix j rfl (by omega) es, J _⟩)))))))))))))
      have ny : wY_info_53 (fun r' => r' = -1 ∧ i_Rel (k + 5) (nI mu, f_defaultDelay, f_clock, nI L, f_canonLength, f_canonHost, f_canonHostLength, f_canonPath, f_schemePort, f_partLength, nI uc, nI uch, nI hc, nI rc, nI rch, a_buffer, a_canon, a_part, a_urlPool, a_urlStart, a_urlLength, a_urlPath, a_urlHost, a_urlState, a_urlTime, a_names, a_nameLength, a_hostDelay, a_hostNext, a_rulePool, a_ruleStart, a_ruleLength, a_ruleHost) (nI mu, f_defaultDelay, f_clock, nI L, nI uc, nI hc, nI rc, f_cLen, f_cHost, f_cHostLen, f_cPq, f_decLen, f_segN, a_buffer, a_urlPool, a_urlStart, a_urlLength, a_urlState, a_urlHost, a_urlTime, a_names, a_nameLength, a_hostDelay, a_hostNext, a_hostSent, a_rulePool, a_ruleStart, a_ruleLength, a_ruleHost, a_ycanon, a_dec, a_segS, a_segL)) 1 (nI j) v3 (nI mu) f_defaultDelay f_clock (nI L) (nI uc) (nI hc) (nI rc) f_cLen f_cHost f_cHostLen f_cPq f_decLen f_segN a_buffer a_urlPool a_urlStart a_urlLength a_urlState a_urlHost a_urlTime a_names a_nameLength a_hostDelay a_hostNext a_hostSent a_rulePool a_ruleStart a_ruleLength a_ruleHost a_ycanon a_dec a_segS a_segL := br_t rfl (y0 (br_f f3 (br_f f4 (br_f f5 (br_f f6 ⟨rfl, J _⟩)))))
      exact br_c (fun _ => br_f (by decide) ny) (fun _ => br_c (fun _ => br_f (by decide) ny) (fun _ => br_f f3 (br_f f4 (br_f f5 (br_f f6 trivial)))))
    · refine br_f (by decide) (br_t rfl (br_c (fun _ => ?_) (fun y => br_c (fun _ => ?_) (fun y2 => absurd (out.resolve_left y) y2))))
      · exact br_f (by decide) ⟨rfl, J _⟩
      · exact br_f (by decide) ⟨rfl, J _⟩
  by_cases c2 : v1 = 2
  · subst c2
    refine cx_list2 (fun j hj e => ?_) (fun out => br_t rfl ?_) (by omega)
    · subst e
      have vi : vp_in (nI j) 8 := pk_in j 8 (by omega)
      have y0 : ∀ {A B C : Prop}, C → (nI j < 0 → A) ∧ (¬ nI j < 0 → ((nI rc ≤ nI j → B) ∧ (¬ nI rc ≤ nI j → C))) := fun c => br_f (nI_pos (by omega)) (br_f (nI_ge hj (by omega)) c)
      refine br_f (by decide) (br_f (by decide) (br_f (by decide) (br_c (fun f1 => ⟨vi, ?_⟩) (fun f1 => ?_))))
      · exact br_f (by decide) (br_f (by decide) (br_t rfl (y0 (br_t f1 ⟨vi, rfl, J _⟩))))
      · exact br_f (by decide) (br_f (by decide) (br_t rfl (y0 (br_f f1 ⟨rfl, J _⟩))))
    · exact br_f (by decide) (br_f (by decide) (br_t rfl (br_c (fun _ => ⟨rfl, J _⟩) (fun y => br_c (fun _ => ⟨rfl, J _⟩) (fun y2 => absurd (out.resolve_left y) y2)))))
  exact cx_listN c0 c1 c2 (br_t rfl (br_f c0 (br_f c1 (br_f c2 ⟨rfl, J _⟩))))
