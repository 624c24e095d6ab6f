/-! tick and the readers on both sides (made by mk43.py) -/
theorem i_vc_tick {k : Nat} {u : SX} {v : SY} (I : i_Rel k u v) (hk : k + 5 ≤ 2562) (v1 : Int32) : wpX_tick (fun r u' => wpY_tick (fun r' v' => r' = r ∧ i_Rel (k + 5) u' v') v v1) u v1 := by
  obtain ⟨L, mu, uc, uch, hc, rc, rch, f_defaultDelay, f_clock, f_canonLength, f_canonHost, f_canonHostLength, f_canonPath, f_schemePort, f_partLength, f_cLen, f_cHost, f_cHostLen, f_cPq, f_decLen, f_segN, a_buffer, a_canon, a_part, a_urlPool, a_urlStart, a_urlLength, a_urlPath, a_urlHost, a_urlState, a_urlTime, a_names, a_nameLength, a_hostDelay, a_hostNext, a_rulePool, a_ruleStart, a_ruleLength, a_ruleHost, a_hostSent, a_ycanon, a_dec, a_segS, a_segL, rfl, rfl, hL, hB, hU, hH, hR⟩ := I
  have h32 : uc ≤ 32 := Nat.le_trans hU.2.1 hU.1
  have go : ∀ m, m ≤ 64 → ∃ r ck' us' ut' nx' sent', cf_IH hc uc a_nameLength sent' a_urlHost us' ∧
      (∀ (post : Int32 → SX → Prop) f, m < f → post r (nI mu, f_defaultDelay, ck', nI L, f_canonLength, f_canonHost, f_canonHostLength, f_canonPath, f_schemePort, f_partLength, nI uc, nI uch, nI hc, nI rc, nI rch, a_buffer, a_canon, a_part, a_urlPool, a_urlStart, a_urlLength, a_urlPath, a_urlHost, us', ut', a_names, a_nameLength, a_hostDelay, nx', a_rulePool, a_ruleStart, a_ruleLength, a_ruleHost) → wX_tick_13 post (nI m) f 0 (nI 0) (nI mu) f_defaultDelay f_clock (nI L) f_canonLength f_canonHost f_canonHostLength f_canonPath f_schemePort f_partLength (nI uc) (nI uch) (nI hc) (nI rc) (nI rch) a_buffer a_canon a_part a_urlPool a_urlStart a_urlLength a_urlPath a_urlHost a_urlState a_urlTime a_names a_nameLength a_hostDelay a_hostNext a_rulePool a_ruleStart a_ruleLength a_ruleHost) ∧
      (∀ (post : Int32 → SY → Prop) f, m < f → post r (nI mu, f_defaultDelay, ck', nI L, nI uc, nI hc, nI rc, f_cLen, f_cHost, f_cHostLen, f_cPq, f_decLen, f_segN, a_buffer, a_urlPool, a_urlStart, a_urlLength, us', a_urlHost, ut', a_names, a_nameLength, a_hostDelay, nx', sent', a_rulePool, a_ruleStart, a_ruleLength, a_ruleHost, a_ycanon, a_dec, a_segS, a_segL) → wY_tick_27 post (nI m) (nI mu) f_defaultDelay (nI L) (nI uc) (nI hc) (nI rc) f_cLen f_cHost f_cHostLen f_cPq f_decLen f_segN f 0 (nI 0) f_clock a_buffer a_urlPool a_urlStart a_urlLength a_urlState a_urlHost a_urlTime a_names a_nameLength a_hostDelay a_hostNext a_hostSent a_rulePool a_ruleStart a_ruleLength a_ruleHost a_ycanon a_dec a_segS a_segL) :=
    fun m hm => cb_tick hm hH.1 h32 m 0 0 f_clock a_urlState a_urlTime a_hostNext a_hostSent (Nat.zero_add m) hH
  by_cases h1 : 1 ≤ v1
  · by_cases h64 : v1 ≤ 64
    · obtain ⟨m, hm, rfl⟩ := nI_of2 (M := 64) (n := 64) rfl (fun z => absurd (Int32.lt_of_lt_of_le z (Int32.le_trans (by decide) h1)) (Int32.lt_irrefl)) h64
      obtain ⟨r, ck', us', ut', nx', sent', I', hX, hY⟩ := go m hm
      exact br_t h1 (br_t h64 ⟨m + 1, hX _ (m + 1) (by omega) (br_t h1 (br_t h64 ⟨m + 1, hY _ (m + 1) (by omega) ⟨rfl, cb_rel hL hB hU I' hR⟩⟩))⟩)
    · obtain ⟨r, ck', us', ut', nx', sent', I', hX, hY⟩ := go 64 (by omega)
      exact br_t h1 (br_f h64 ⟨64 + 1, hX _ (64 + 1) (by omega) (br_t h1 (br_f h64 ⟨64 + 1, hY _ (64 + 1) (by omega) ⟨rfl, cb_rel hL hB hU I' hR⟩⟩))⟩)
  · obtain ⟨r, ck', us', ut', nx', sent', I', hX, hY⟩ := go 1 (by omega)
    exact br_f h1 ⟨1 + 1, hX _ (1 + 1) (by omega) (br_f h1 ⟨1 + 1, hY _ (1 + 1) (by omega) ⟨rfl, cb_rel hL hB hU I' hR⟩⟩)⟩
theorem i_vc_count {k : Nat} {u : SX} {v : SY} (I : i_Rel k u v) (hk : k + 5 ≤ 2562) (v1 : Int32) : wpX_count (fun r => wpY_count (fun r' => r' = r ∧ i_Rel (k + 5) u v) v v1) u v1 := by
  obtain ⟨L, mu, uc, uch, hc, rc, rch, f_defaultDelay, f_clock, f_canonLength, f_canonHost, f_canonHostLength, f_canonPath, f_schemePort, f_partLength, f_cLen, f_cHost, f_cHostLen, f_cPq, f_decLen, f_segN, a_buffer, a_canon, a_part, a_urlPool, a_urlStart, a_urlLength, a_urlPath, a_urlHost, a_urlState, a_urlTime, a_names, a_nameLength, a_hostDelay, a_hostNext, a_rulePool, a_ruleStart, a_ruleLength, a_ruleHost, a_hostSent, a_ycanon, a_dec, a_segS, a_segL, rfl, rfl, hL, hB, hU, hH, hR⟩ := I
  have h32 : uc ≤ 32 := Nat.le_trans hU.2.1 hU.1
  by_cases c0 : v1 = 0
  · subst c0
    exact br_f (by decide) (br_f (by decide) (br_t rfl (br_t rfl (⟨rfl, cb_rel hL hB hU hH hR⟩))))
  by_cases c1 : v1 = 1
  · subst c1
    exact br_f (by decide) (br_f (by decide) (br_f (by decide) (br_t rfl (br_f (by decide) (br_t rfl (⟨rfl, cb_rel hL hB hU hH hR⟩))))))
  by_cases c2 : v1 = 2
  · subst c2
    exact br_f (by decide) (br_f (by decide) (br_f (by decide) (br_f (by decide) (br_t rfl (br_f (by decide) (br_f (by decide) (br_t rfl (⟨rfl, cb_rel hL hB hU hH hR⟩))))))))
  by_cases c3 : v1 = 3
  · subst c3
    exact br_f (by decide) (br_f (by decide) (br_f (by decide) (br_f (by decide) (br_f (by decide) (br_t rfl (br_f (by decide) (br_f (by decide) (br_f (by decide) (br_t rfl (⟨rfl, cb_rel hL hB hU hH hR⟩))))))))))
  by_cases c4 : v1 = 4
  · subst c4
    exact br_f (by decide) (br_f (by decide) (br_f (by decide) (br_f (by decide) (br_f (by decide) (br_f (by decide) (br_t rfl (cx_urlsIn h32 (br_f (by decide) (br_f (by decide) (br_f (by decide) (br_f (by decide) (br_t rfl (cy_stateCount h32 ⟨rfl, cb_rel hL hB hU hH hR⟩)))))))))))))
  by_cases c5 : v1 = 5
  · subst c5
    exact br_f (by decide) (br_f (by decide) (br_f (by decide) (br_f (by decide) (br_f (by decide) (br_f (by decide) (br_f (by decide) (br_t rfl (cx_urlsIn h32 (br_f (by decide) (br_f (by decide) (br_f (by decide) (br_f (by decide) (br_f (by decide) (br_t rfl (cy_stateCount h32 ⟨rfl, cb_rel hL hB hU hH hR⟩)))))))))))))))
  by_cases c6 : v1 = 6
  · subst c6
    exact br_f (by decide) (br_f (by decide) (br_f (by decide) (br_f (by decide) (br_f (by decide) (br_f (by decide) (br_f (by decide) (br_f (by decide) (br_t rfl (cx_urlsIn h32 (br_f (by decide) (br_f (by decide) (br_f (by decide) (br_f (by decide) (br_f (by decide) (br_f (by decide) (br_t rfl (cy_stateCount h32 ⟨rfl, cb_rel hL hB hU hH hR⟩)))))))))))))))))
  by_cases c7 : v1 = 7
  · subst c7
    exact br_f (by decide) (br_f (by decide) (br_f (by decide) (br_f (by decide) (br_f (by decide) (br_f (by decide) (br_f (by decide) (br_f (by decide) (br_f (by decide) (br_t rfl (br_f (by decide) (br_f (by decide) (br_f (by decide) (br_f (by decide) (br_f (by decide) (br_f (by decide) (br_f (by decide) (br_t rfl (cy_urlChars h32 ⟨hU.2.2.2.1.symm, cb_rel hL hB hU hH hR⟩))))))))))))))))))
  by_cases c8 : v1 = 8
  · subst c8
    exact br_f (by decide) (br_f (by decide) (br_f (by decide) (br_f (by decide) (br_f (by decide) (br_f (by decide) (br_f (by decide) (br_f (by decide) (br_f (by decide) (br_f (by decide) (br_t rfl (br_f (by decide) (br_f (by decide) (br_f (by decide) (br_f (by decide) (br_f (by decide) (br_f (by decide) (br_f (by decide) (br_f (by decide) (br_t rfl (cy_ruleChars hR.1 ⟨hR.2.2.1.symm, cb_rel hL hB hU hH hR⟩))))))))))))))))))))
  by_cases c9 : v1 = 9
  · subst c9
    exact br_f (by decide) (br_f (by decide) (br_f (by decide) (br_f (by decide) (br_f (by decide) (br_f (by decide) (br_f (by decide) (br_f (by decide) (br_f (by decide) (br_f (by decide) (br_f (by decide) (br_t rfl (br_f (by decide) (br_f (by decide) (br_f (by decide) (br_f (by decide) (br_f (by decide) (br_f (by decide) (br_f (by decide) (br_f (by decide) (br_f (by decide) (br_t rfl (⟨rfl, cb_rel hL hB hU hH hR⟩))))))))))))))))))))))
  by_cases c10 : v1 = 10
  · subst c10
    exact br_f (by decide) (br_f (by decide) (br_f (by decide) (br_f (by decide) (br_f (by decide) (br_f (by decide) (br_f (by decide) (br_f (by decide) (br_f (by decide) (br_f (by decide) (br_f (by decide) (br_f (by decide) (br_t rfl (br_f (by decide) (br_f (by decide) (br_f (by decide) (br_f (by decide) (br_f (by decide) (br_f (by decide) (br_f (by decide) (br_f (by decide) (br_f (by decide) (br_f (by decide) (br_t rfl (⟨rfl, cb_rel hL hB hU hH hR⟩))))))))))))))))))))))))
  exact br_c (fun _ => br_f c0 (br_f c1 (br_f c2 (br_f c3 (br_f c4 (br_f c5 (br_f c6 (br_f c7 (br_f c8 (br_f c9 (br_f c10 (⟨rfl, cb_rel hL hB hU hH hR⟩)))))))))))) (fun _ => br_c (fun _ => br_f c0 (br_f c1 (br_f c2 (br_f c3 (br_f c4 (br_f c5 (br_f c6 (br_f c7 (br_f c8 (br_f c9 (br_f c10 (⟨rfl, cb_rel hL hB hU hH hR⟩)))))))))))) (fun _ => br_f c0 (br_f c1 (br_f c2 (br_f c3 (br_f c4 (br_f c5 (br_f c6 (br_f c7 (br_f c8 (br_f c9 (br_f c10 (trivial)))))))))))))
section
variable {f_maxUrls f_defaultDelay f_clock f_bufferLength f_canonLength f_canonHost f_canonHostLength f_canonPath f_schemePort f_partLength f_urlCount f_urlChars f_hostCount f_ruleCount f_ruleChars f_cLen f_cHost f_cHostLen f_cPq f_decLen f_segN : Int32} {a_buffer a_canon a_part a_urlPool a_urlStart a_urlLength a_urlPath a_urlHost a_urlState a_urlTime a_names a_nameLength a_hostDelay a_hostNext a_rulePool a_ruleStart a_ruleLength a_ruleHost a_hostSent a_ycanon a_dec a_segS a_segL : Nat → Int32}
variable {L mu uc uch hc rc rch : Nat}
theorem cx_l31 {post : Int32 → Prop} {x : Int32} {n : Nat} (h1 : ∀ j, j < n → x = nI j → post 1) (h0 : (x < 0 ∨ nI n ≤ x) → post 0) (hn : n < 2 ^ 31) : wX_isListed_31 post x (nI n) f_maxUrls f_defaultDelay f_clock f_bufferLength f_canonLength f_canonHost f_canonHostLength f_canonPath f_schemePort f_partLength f_urlCount f_urlChars f_hostCount f_ruleCount f_ruleChars a_buffer a_canon a_part a_urlPool a_urlStart a_urlLength a_urlPath a_urlHost a_urlState a_urlTime a_names a_nameLength a_hostDelay a_hostNext a_rulePool a_ruleStart a_ruleLength a_ruleHost := by
  refine br_c (fun z => h0 (Or.inl z)) (fun z => br_c (fun z2 => h0 (Or.inr z2)) (fun z2 => ?_))
  rcases pk_ix x hn with y | y | ⟨j, hj, e⟩
  · exact absurd y z
  · exact absurd y z2
  · exact h1 j hj e
theorem cx_list0 {post : Int32 → Prop} {x : Int32} (h1 : ∀ j, j < uc → x = nI j → post 1) (h0 : (x < 0 ∨ nI uc ≤ x) → post 0) (hn : uc < 2 ^ 31) : wpX_isListed post (f_maxUrls, f_defaultDelay, f_clock, f_bufferLength, f_canonLength, f_canonHost, f_canonHostLength, f_canonPath, f_schemePort, f_partLength, nI uc, f_urlChars, f_hostCount, f_ruleCount, f_ruleChars, a_buffer, a_canon, a_part, a_urlPool, a_urlStart, a_urlLength, a_urlPath, a_urlHost, a_urlState, a_urlTime, a_names, a_nameLength, a_hostDelay, a_hostNext, a_rulePool, a_ruleStart, a_ruleLength, a_ruleHost) 0 x :=
  br_t rfl (br_f (by decide) (br_f (by decide) (cx_l31 h1 h0 hn)))
theorem cx_list1 {post : Int32 → Prop} {x : Int32} (h1 : ∀ j, j < hc → x = nI j → post 1) (h0 : (x < 0 ∨ nI hc ≤ x) → post 0) (hn : hc < 2 ^ 31) : wpX_isListed post (f_maxUrls, f_defaultDelay, f_clock, f_bufferLength, f_canonLength, f_canonHost, f_canonHostLength, f_canonPath, f_schemePort, f_partLength, f_urlCount, f_urlChars, nI hc, f_ruleCount, f_ruleChars, a_buffer, a_canon, a_part, a_urlPool, a_urlStart, a_urlLength, a_urlPath, a_urlHost, a_urlState, a_urlTime, a_names, a_nameLength, a_hostDelay, a_hostNext, a_rulePool, a_ruleStart, a_ruleLength, a_ruleHost) 1 x :=
  br_f (by decide) (br_t rfl (br_f (by decide) (cx_l31 h1 h0 hn)))
theorem cx_list2 {post : Int32 → Prop} {x : Int32} (h1 : ∀ j, j < rc → x = nI j → post 1) (h0 : (x < 0 ∨ nI rc ≤ x) → post 0) (hn : rc < 2 ^ 31) : wpX_isListed post (f_maxUrls, f_defaultDelay, f_clock, f_bufferLength, f_canonLength, f_canonHost, f_canonHostLength, f_canonPath, f_schemePort, f_partLength, f_urlCount, f_urlChars, f_hostCount, nI rc, f_ruleChars, a_buffer, a_canon, a_part, a_urlPool, a_urlStart, a_urlLength, a_urlPath, a_urlHost, a_urlState, a_urlTime, a_names, a_nameLength, a_hostDelay, a_hostNext, a_rulePool, a_ruleStart, a_ruleLength, a_ruleHost) 2 x :=
  br_f (by decide) (br_f (by decide) (br_t rfl (cx_l31 h1 h0 hn)))
theorem cx_listN {post : Int32 → Prop} {x y : Int32} (n0 : ¬ x = 0) (n1 : ¬ x = 1) (n2 : ¬ x = 2) (h0 : post 0) : wpX_isListed post (f_maxUrls, f_defaultDelay, f_clock, f_bufferLength, f_canonLength, f_canonHost, f_canonHostLength, f_canonPath, f_schemePort, f_partLength, f_urlCount, f_urlChars, f_hostCount, f_ruleCount, f_ruleChars, a_buffer, a_canon, a_part, a_urlPool, a_urlStart, a_urlLength, a_urlPath, a_urlHost, a_urlState, a_urlTime, a_names, a_nameLength, a_hostDelay, a_hostNext, a_rulePool, a_ruleStart, a_ruleLength, a_ruleHost) x y :=
  br_f n0 (br_f n1 (br_f n2 (cx_l31 (n := 0) (fun j hj _ => absurd hj (Nat.not_lt_zero j)) (fun _ => h0) (by omega))))
theorem cb_len {v1 v2 : Int32} (hU : cf_IU mu uc uch hc a_urlPool a_urlStart a_urlLength a_urlPath a_urlHost) (hH : cf_IH hc uc a_nameLength a_hostSent a_urlHost a_urlState) (hR : cf_IR rc rch a_ruleStart a_ruleLength) : ∃ r, ((v1 = 3 ∧ r = nI L) ∨ (v1 = 0 ∧ ∃ j s m, j < uc ∧ v2 = nI j ∧ a_urlStart j = nI s ∧ r = nI m ∧ s + m ≤ 256) ∨ (v1 = 1 ∧ ∃ j m, j < hc ∧ v2 = nI j ∧ r = nI m ∧ m ≤ 16) ∨ (v1 = 2 ∧ ∃ j s m, j < rc ∧ v2 = nI j ∧ a_ruleStart j = nI s ∧ r = nI m ∧ s + m ≤ 128) ∨ r = -1) ∧ (∀ post : Int32 → Prop, post r → wpX_textLength post (nI mu, f_defaultDelay, f_clock, nI L, f_canonLength, f_canonHost, f_canonHostLength, f_canonPath, f_schemePort, f_partLength, nI uc, nI uch, nI hc, nI rc, nI rch, a_buffer, a_canon, a_part, a_urlPool, a_urlStart, a_urlLength, a_urlPath, a_urlHost, a_urlState, a_urlTime, a_names, a_nameLength, a_hostDelay, a_hostNext, a_rulePool, a_ruleStart, a_ruleLength, a_ruleHost) v1 v2) ∧ (∀ post : Int32 → Prop, post r → wpY_textLength post (nI mu, f_defaultDelay, f_clock, nI L, nI uc, nI hc, nI rc, f_cLen, f_cHost, f_cHostLen, f_cPq, f_decLen, f_segN, a_buffer, a_urlPool, a_urlStart, a_urlLength, a_urlState, a_urlHost, a_urlTime, a_names, a_nameLength, a_hostDelay, a_hostNext, a_hostSent, a_rulePool, a_ruleStart, a_ruleLength, a_ruleHost, a_ycanon, a_dec, a_segS, a_segL) v1 v2) := by
  have h32 : uc ≤ 32 := Nat.le_trans hU.2.1 hU.1
  have h8 := hH.1
  have r8 := hR.1
  have u256 := hU.2.2.1
  have r128 := hR.2.1
  by_cases c3 : v1 = 3
  · subst c3
    exact ⟨nI L, Or.inl ⟨rfl, rfl⟩, fun post h => br_t rfl h, fun post h => br_t rfl h⟩
  by_cases c0 : v1 = 0
  · subst c0
    by_cases hj : ∃ j, j < uc ∧ v2 = nI j
    · obtain ⟨j, hj, rfl⟩ := hj
      obtain ⟨s, m, p, x, h, e1, e2, e3, e4, e5, e6, -⟩ := hU.2.2.2.2 j hj
      have d : a_urlLength (nI j).toNatClampNeg = nI m := cf_ix j rfl (by omega) e2
      refine ⟨nI m, Or.inr (Or.inl ⟨rfl, j, s, m, hj, rfl, e1, rfl, by omega⟩), fun post h => ?_, fun post h => ?_⟩
      · refine br_f (by decide) (cx_list0 (fun _ _ _ => br_f (by decide) (br_t rfl ⟨pk_in j 32 (by omega), ?_⟩)) (fun w => ?_) (by omega))
        · rw [d]; exact h
        · rcases w with w | w
          · exact absurd w (nI_pos (by omega))
          · exact absurd w (nI_ge hj (by omega))
      · refine br_f (by decide) (br_t rfl (br_f (nI_pos (by omega)) (br_f (nI_ge hj (by omega)) ⟨pk_in j 32 (by omega), ?_⟩)))
        rw [d]; exact h
    · have out : v2 < 0 ∨ nI uc ≤ v2 := by
        rcases pk_ix v2 (show uc < 2 ^ 31 by omega) with y | y | y
        · exact Or.inl y
        · exact Or.inr y
        · exact absurd y hj
      refine ⟨-1, Or.inr (Or.inr (Or.inr (Or.inr rfl))), fun post h => br_f (by decide) (cx_list0 (fun j h1 h2 => absurd ⟨j, h1, h2⟩ hj) (fun _ => br_t rfl h) (by omega)), fun post h => ?_⟩
      have nx : wY_textLength_33 post 0 v2 (nI mu) f_defaultDelay f_clock (nI L) (nI uc) (nI hc) (nI rc) f_cLen f_cHost f_cHostLen f_cPq f_decLen f_segN a_buffer a_urlPool a_urlStart a_urlLength a_urlState a_urlHost a_urlTime a_names a_nameLength a_hostDelay a_hostNext a_hostSent a_rulePool a_ruleStart a_ruleLength a_ruleHost a_ycanon a_dec a_segS a_segL := br_f (by decide) (br_f (by decide) h)
      refine br_f (by decide) (br_t rfl (br_c (fun _ => nx) (fun y => br_c (fun _ => nx) (fun y2 => ?_))))
      exact absurd (out.resolve_left y) y2
  by_cases c1 : v1 = 1
  · subst c1
    by_cases hj : ∃ j, j < hc ∧ v2 = nI j
    · obtain ⟨j, hj, rfl⟩ := hj
      obtain ⟨⟨m, hm, e2⟩, -⟩ := hH.2 j hj
      have d : a_nameLength (nI j).toNatClampNeg = nI m := cf_ix j rfl (by omega) e2
      refine ⟨nI m, Or.inr (Or.inr (Or.inl ⟨rfl, j, m, hj, rfl, rfl, hm⟩)), fun post h => ?_, fun post h => ?_⟩
      · refine br_f (by decide) (cx_list1 (fun _ _ _ => br_f (by decide) (br_f (by decide) (br_t rfl ⟨pk_in j 8 (by omega), ?_⟩))) (fun w => ?_) (by omega))
        · rw [d]; exact h
        · rcases w with w | w
          · exact absurd w (nI_pos (by omega))
          · exact absurd w (nI_ge hj (by omega))
      · refine br_f (by decide) (br_f (by decide) (br_t rfl (br_f (nI_pos (by omega)) (br_f (nI_ge hj (by omega)) ⟨pk_in j 8 (by omega), ?_⟩))))
        rw [d]; exact h
    · have out : v2 < 0 ∨ nI hc ≤ v2 := by
        rcases pk_ix v2 (show hc < 2 ^ 31 by omega) with y | y | y
        · exact Or.inl y
        · exact Or.inr y
        · exact absurd y hj
      refine ⟨-1, Or.inr (Or.inr (Or.inr (Or.inr rfl))), fun post h => br_f (by decide) (cx_list1 (fun j h1 h2 => absurd ⟨j, h1, h2⟩ hj) (fun _ => br_t rfl h) (by omega)), fun post h => ?_⟩
      have nx : wY_textLength_57 post 1 v2 (nI mu) f_defaultDelay f_clock (nI L) (nI uc) (nI hc) (nI rc) f_cLen f_cHost f_cHostLen f_cPq f_decLen f_segN a_buffer a_urlPool a_urlStart a_urlLength a_urlState a_urlHost a_urlTime a_names a_nameLength a_hostDelay a_hostNext a_hostSent a_rulePool a_ruleStart a_ruleLength a_ruleHost a_ycanon a_dec a_segS a_segL := br_f (by decide) h
      refine br_f (by decide) (br_f (by decide) (br_t rfl (br_c (fun _ => nx) (fun y => br_c (fun _ => nx) (fun y2 => ?_)))))
      exact absurd (out.resolve_left y) y2
  by_cases c2 : v1 = 2
  · subst c2
    by_cases hj : ∃ j, j < rc ∧ v2 = nI j
    · obtain ⟨j, hj, rfl⟩ := hj
      obtain ⟨s, m, e1, e2, e3⟩ := hR.2.2.2 j hj
      have d : a_ruleLength (nI j).toNatClampNeg = nI m := cf_ix j rfl (by omega) e2
      refine ⟨nI m, Or.inr (Or.inr (Or.inr (Or.inl ⟨rfl, j, s, m, hj, rfl, e1, rfl, by omega⟩))), fun post h => ?_, fun post h => ?_⟩
      · refine br_f (by decide) (cx_list2 (fun _ _ _ => br_f (by decide) (br_f (by decide) (br_f (by decide) ⟨pk_in j 8 (by omega), ?_⟩))) (fun w => ?_) (by omega))
        · rw [d]; exact h
        · rcases w with w | w
          · exact absurd w (nI_pos (by omega))
          · exact absurd w (nI_ge hj (by omega))
      · refine br_f (by decide) (br_f (by decide) (br_f (by decide) (br_t rfl (br_f (nI_pos (by omega)) (br_f (nI_ge hj (by omega)) ⟨pk_in j 8 (by omega), ?_⟩)))))
        rw [d]; exact h
    · have out : v2 < 0 ∨ nI rc ≤ v2 := by
        rcases pk_ix v2 (show rc < 2 ^ 31 by omega) with y | y | y
        · exact Or.inl y
        · exact Or.inr y
        · exact absurd y hj
      refine ⟨-1, Or.inr (Or.inr (Or.inr (Or.inr rfl))), fun post h => br_f (by decide) (cx_list2 (fun j h1 h2 => absurd ⟨j, h1, h2⟩ hj) (fun _ => br_t rfl h) (by omega)), fun post h => ?_⟩
      refine br_f (by decide) (br_f (by decide) (br_f (by decide) (br_t rfl (br_c (fun _ => h) (fun y => br_c (fun _ => h) (fun y2 => ?_))))))
      exact absurd (out.resolve_left y) y2
  exact ⟨-1, Or.inr (Or.inr (Or.inr (Or.inr rfl))), fun post h => br_f c3 (cx_listN c0 c1 c2 (br_t rfl h)), fun post h => br_f c3 (br_f c0 (br_f c1 (br_f c2 h)))⟩
end
theorem i_vc_textLength {k : Nat} {u : SX} {v : SY} (I : i_Rel k u v) (hk : k + 5 ≤ 2562) (v1 : Int32) (v2 : Int32) : wpX_textLength (fun r => wpY_textLength (fun r' => r' = r ∧ i_Rel (k + 5) u v) v v1 v2) u v1 v2 := by
  obtain ⟨L, mu, uc, uch, hc, rc, rch, f_defaultDelay, f_clock, f_canonLength, f_canonHost, f_canonHostLength, f_canonPath, f_schemePort, f_partLength, f_cLen, f_cHost, f_cHostLen, f_cPq, f_decLen, f_segN, a_buffer, a_canon, a_part, a_urlPool, a_urlStart, a_urlLength, a_urlPath, a_urlHost, a_urlState, a_urlTime, a_names, a_nameLength, a_hostDelay, a_hostNext, a_rulePool, a_ruleStart, a_ruleLength, a_ruleHost, a_hostSent, a_ycanon, a_dec, a_segS, a_segL, rfl, rfl, hL, hB, hU, hH, hR⟩ := I
  obtain ⟨r, -, hX, hY⟩ := cb_len (v1 := v1) (v2 := v2) (L := L) hU hH hR
  exact hX _ (hY _ ⟨rfl, cb_rel hL hB hU hH hR⟩)
