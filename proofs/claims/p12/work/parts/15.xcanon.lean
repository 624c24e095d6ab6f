/-! the class: the canonical text -/
theorem cf_dDB {D : List Nat} (h : ∀ c, c ∈ D → c ≤ 126) (j : Nat) : cf_dD D j ≤ 126 := by
  unfold cf_dD
  rcases Nat.lt_or_ge j D.length with z | z
  · exact h _ (cf_gdm z)
  · rw [List.getD_eq_getElem?_getD, List.getElem?_eq_none z]
    exact Nat.zero_le _
theorem cf_D47 {t : Nat → Nat} {L c he p pE : Nat} {po D : List Nat} (ht : ∀ j, t j ≤ 126) (h2 : cf_IE 4 t L (c + 3) he) (h4 : cf_PO t L c he p po) (h5 : cf_IE 2 t L p pE) (h6 : cf_dc t pE (pE - p) p = some D) (h : 0 < D.length) : cf_dD D 0 = 47 := by
  have l := (cf_dcF ht _ _ _ (Nat.le_refl _) h6).1
  have hp : p < pE := by omega
  obtain ⟨D', rfl⟩ := cf_dc47 hp (Nat.le_refl _) (cf_PSp h2 h4 h5 hp) h6
  rfl
section
variable {f_maxUrls f_defaultDelay f_clock f_bufferLength f_canonLength f_canonHost f_canonHostLength f_canonPath f_schemePort f_partLength f_urlCount f_urlChars f_hostCount f_ruleCount f_ruleChars : Int32} {a_buffer a_canon a_part a_urlPool a_urlStart a_urlLength a_urlPath a_urlHost a_urlState a_urlTime a_names a_nameLength a_hostDelay a_hostNext a_rulePool a_ruleStart a_ruleLength a_ruleHost : Nat → Int32}
variable {t : Nat → Nat} {L : Nat}
theorem cx_queryLoop {post : St2 → Prop} {D l : List Nat} {n : Nat} (hP : cf_K a_part D.length D) (hD : D.length ≤ 48) (hn : n + D.length ≤ 49) (h : ∀ a, cf_K a (n + D.length) (l ++ D) → post (f_maxUrls, f_defaultDelay, f_clock, f_bufferLength, nI (n + D.length), f_canonHost, f_canonHostLength, f_canonPath, f_schemePort, nI D.length, f_urlCount, f_urlChars, f_hostCount, f_ruleCount, f_ruleChars, a_buffer, a, a_part, a_urlPool, a_urlStart, a_urlLength, a_urlPath, a_urlHost, a_urlState, a_urlTime, a_names, a_nameLength, a_hostDelay, a_hostNext, a_rulePool, a_ruleStart, a_ruleLength, a_ruleHost)) : ∀ d k f a, k + d = D.length → d < f → cf_K a (n + k) (l ++ cf_sb (cf_dD D) 0 k) → wX_appendQuery_2 post f (nI k) f_maxUrls f_defaultDelay f_clock f_bufferLength (nI (n + k)) f_canonHost f_canonHostLength f_canonPath f_schemePort (nI D.length) f_urlCount f_urlChars f_hostCount f_ruleCount f_ruleChars a_buffer a a_part a_urlPool a_urlStart a_urlLength a_urlPath a_urlHost a_urlState a_urlTime a_names a_nameLength a_hostDelay a_hostNext a_rulePool a_ruleStart a_ruleLength a_ruleHost := by
  intro d
  induction d with
  | zero =>
    intro k f a hk hf hK
    have e : k = D.length := by omega
    subst e
    rw [cf_sbD] at hK
    cases f with
    | zero => omega
    | succ f => exact pk_le D.length D.length (fun _ => h a hK) (fun z => by omega)
  | succ d ih =>
    intro k f a hk hf hK
    cases f with
    | zero => omega
    | succ f =>
      refine pk_le D.length k (fun z => by omega) (fun z => ⟨pk_in k 48 (by omega), cx_app (cf_dD D k) (cf_rK hP k (by omega)) (by omega) hK (fun a' hK' => nm_r (nI_1 k) (ih (k + 1) f a' (by omega) (by omega) ?_))⟩)
      rw [cf_sb1, ← List.append_assoc, Nat.zero_add]
      exact hK'
theorem cx_appendQuery {post : St2 → Prop} {D l : List Nat} {n : Nat} (hP : cf_K a_part D.length D) (hD : D.length ≤ 48) (hn : n + D.length ≤ 49) (hK : cf_K a_canon n l) (h : ∀ a, cf_K a (n + D.length) (l ++ D) → post (f_maxUrls, f_defaultDelay, f_clock, f_bufferLength, nI (n + D.length), f_canonHost, f_canonHostLength, f_canonPath, f_schemePort, nI D.length, f_urlCount, f_urlChars, f_hostCount, f_ruleCount, f_ruleChars, a_buffer, a, a_part, a_urlPool, a_urlStart, a_urlLength, a_urlPath, a_urlHost, a_urlState, a_urlTime, a_names, a_nameLength, a_hostDelay, a_hostNext, a_rulePool, a_ruleStart, a_ruleLength, a_ruleHost)) : wpX_appendQuery post (f_maxUrls, f_defaultDelay, f_clock, f_bufferLength, nI n, f_canonHost, f_canonHostLength, f_canonPath, f_schemePort, nI D.length, f_urlCount, f_urlChars, f_hostCount, f_ruleCount, f_ruleChars, a_buffer, a_canon, a_part, a_urlPool, a_urlStart, a_urlLength, a_urlPath, a_urlHost, a_urlState, a_urlTime, a_names, a_nameLength, a_hostDelay, a_hostNext, a_rulePool, a_ruleStart, a_ruleLength, a_ruleHost) := by
  refine ⟨D.length + 1, cx_queryLoop hP hD hn h D.length 0 _ a_canon (by omega) (by omega) ?_⟩
  show cf_K a_canon (n + 0) (l ++ [])
  rw [List.append_nil]
  exact hK
theorem cx_canon {post : Int32 → St2 → Prop} (hL : L ≤ 48) (hb : ∀ j, a_buffer j = nI (t j)) (ht : ∀ j, t j ≤ 126) (hN : (∀ c he p pE qE po D1 D2, ¬ cf_PS t L c he p pE qE po D1 D2) → ∀ a1 a2 n1 n2 n3 n4 n5 n6, post 0 (f_maxUrls, f_defaultDelay, f_clock, nI L, n1, n2, n3, n4, n5, n6, f_urlCount, f_urlChars, f_hostCount, f_ruleCount, f_ruleChars, a_buffer, a1, a2, a_urlPool, a_urlStart, a_urlLength, a_urlPath, a_urlHost, a_urlState, a_urlTime, a_names, a_nameLength, a_hostDelay, a_hostNext, a_rulePool, a_ruleStart, a_ruleLength, a_ruleHost)) (hY : ∀ c he p pE qE po D1 D2, cf_PS t L c he p pE qE po D1 D2 → ∀ a1 a2 n5 n6, cf_K a1 (cf_out t he po D1 D2).length (cf_out t he po D1 D2) → post 1 (f_maxUrls, f_defaultDelay, f_clock, nI L, nI (cf_out t he po D1 D2).length, nI (c + 3), nI (he - (c + 3)), nI (he + po.length), n5, n6, f_urlCount, f_urlChars, f_hostCount, f_ruleCount, f_ruleChars, a_buffer, a1, a2, a_urlPool, a_urlStart, a_urlLength, a_urlPath, a_urlHost, a_urlState, a_urlTime, a_names, a_nameLength, a_hostDelay, a_hostNext, a_rulePool, a_ruleStart, a_ruleLength, a_ruleHost)) : wpX_canonicalise post (f_maxUrls, f_defaultDelay, f_clock, nI L, f_canonLength, f_canonHost, f_canonHostLength, f_canonPath, f_schemePort, f_partLength, f_urlCount, f_urlChars, f_hostCount, f_ruleCount, f_ruleChars, a_buffer, a_canon, a_part, a_urlPool, a_urlStart, a_urlLength, a_urlPath, a_urlHost, a_urlState, a_urlTime, a_names, a_nameLength, a_hostDelay, a_hostNext, a_rulePool, a_ruleStart, a_ruleLength, a_ruleHost) := by
  unfold wpX_canonicalise
  dsimp only
  refine cx_takeScheme hL hb ht (fun h a n => br_t rfl (hN (fun c he p pE qE po D1 D2 w => h c w.1) _ _ _ _ _ _ _ _)) (fun c hc a1 hK1 => br_f (cf_m1 (j := c + 3) (by have := hc.2.1; omega)) ?_)
  have c5 : c ≤ 5 := by have := hc.1; omega
  have cL := hc.2.1
  refine cx_takeHost hL (by omega) (by omega) hb ht hK1 (fun h a n x y => br_t rfl (hN (fun c' he p pE qE po D1 D2 w => ?_) _ _ _ _ _ _ _ _)) (fun he hE hH a2 hK2 => ?_)
  · have e := cf_Schu w.1 hc
    subst e
    exact h he w.2.1 w.2.2.1
  have he1 := hE.1
  have he2 := hE.2.1
  have he3 := hH.2.1
  refine br_f (cf_m1 (j := he) (by omega)) ?_
  have eh : cf_sb (fun j => cf_lo (t j)) 0 (c + 3) ++ cf_sb (fun j => cf_lo (t j)) (c + 3) (he - (c + 3)) = cf_sb (fun j => cf_lo (t j)) 0 he := by
    have q := cf_sbA (fun j => cf_lo (t j)) 0 (c + 3) (he - (c + 3))
    rw [Nat.zero_add, show c + 3 + (he - (c + 3)) = he by omega] at q
    exact q.symm
  rw [eh] at hK2
  refine cx_takePort hL he2 (by omega) hb ht hK2 (fun h => br_t rfl (hN (fun c' he' p pE qE po D1 D2 w => ?_) _ _ _ _ _ _ _ _)) (fun p po hPO a3 hK3 => ?_)
  · have e := cf_Schu w.1 hc
    subst e
    have e := cf_IEu w.2.1 hE
    subst e
    exact h p po w.2.2.2.1
  have pp := cf_POl he2 hPO
  have p1 := pp.1
  have p2 := pp.2.1
  refine br_f (cf_m1 (j := p) (by omega)) (cx_partEnd (r := 2) hb ht p2 hL (by omega) (fun pE hpE => ?_))
  have pE1 := hpE.1
  have pE2 := hpE.2.1
  refine cx_decode pE1 (by omega) hb ht (fun h a n => br_t rfl (hN (fun c' he' p' pE' qE po' D1 D2 w => ?_) _ _ _ _ _ _ _ _)) (fun D1 hD1 a4 hK4 => br_f (by decide) ?_)
  · have e := cf_Schu w.1 hc
    subst e
    have e := cf_IEu w.2.1 hE
    subst e
    have e := (cf_POu w.2.2.2.1 hPO).1
    subst e
    have e := cf_IEu w.2.2.2.2.1 hpE
    subst e
    have w6 := w.2.2.2.2.2.1
    rw [h] at w6
    cases w6
  have dd1 := cf_dcF ht (pE - p) p D1 (Nat.le_refl _) hD1
  have d1 := dd1.1
  have d2 := dd1.2
  refine cx_appendPath hK4 (by omega) (cf_dDB d2) (cf_D47 ht hE hPO hpE hD1) (by omega) (by omega) hK3 (fun a5 hK5 => ?_)
  refine cx_partEnd (r := 1) hb ht pE2 hL (by omega) (fun qE hqE => ?_)
  have qE1 := hqE.1
  have qE2 := hqE.2.1
  refine cx_decode qE1 (by omega) hb ht (fun h a n => br_t rfl (hN (fun c' he' p' pE' qE' po' D1' D2 w => ?_) _ _ _ _ _ _ _ _)) (fun D2 hD2 a6 hK6 => br_f (by decide) ?_)
  · have e := cf_Schu w.1 hc
    subst e
    have e := cf_IEu w.2.1 hE
    subst e
    have e := (cf_POu w.2.2.2.1 hPO).1
    subst e
    have e := cf_IEu w.2.2.2.2.1 hpE
    subst e
    have e := cf_IEu w.2.2.2.2.2.2.1 hqE
    subst e
    have w8 := w.2.2.2.2.2.2.2
    rw [h] at w8
    cases w8
  have ps : cf_PS t L c he p pE qE po D1 D2 := ⟨hc, hE, hH, hPO, hpE, hD1, hqE, hD2⟩
  have bo := cf_outB ht hL ps
  have f1 := (cf_dcF ht (qE - pE) pE D2 (Nat.le_refl _) hD2).1
  refine cx_appendQuery hK6 (by omega) (by omega) hK5 (fun a7 hK7 => ?_)
  have g := hY c he p pE qE po D1 D2 ps a7 a6
  rw [cf_outL] at g
  exact g _ _ hK7
end
