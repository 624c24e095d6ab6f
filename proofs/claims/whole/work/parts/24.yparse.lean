/-! the reference: parse, from its end to its beginning -/
theorem cf_w3 {t : Nat → Nat} {L c he c' he' p' pE' qE' : Nat} {po' D1' D2' : List Nat} (hc : cf_Sch t L c) (hE : cf_IE 4 t L (c + 3) he) (w : cf_PS t L c' he' p' pE' qE' po' D1' D2') : cf_Ho t (c + 3) he ∧ cf_PO t L c he p' po' := by
  have e := cf_Schu w.1 hc
  subst e
  have e := cf_IEu w.2.1 hE
  subst e
  exact ⟨w.2.2.1, w.2.2.2.1⟩
theorem cf_w6 {t : Nat → Nat} {L c he p pE c' he' p' pE' qE' : Nat} {po po' D1' D2' : List Nat} (hc : cf_Sch t L c) (hE : cf_IE 4 t L (c + 3) he) (hPO : cf_PO t L c he p po) (hpE : cf_IE 2 t L p pE) (w : cf_PS t L c' he' p' pE' qE' po' D1' D2') : cf_dc t pE (pE - p) p = some D1' := by
  have q := (cf_w3 hc hE w).2
  have e := (cf_POu q hPO).1
  subst e
  have e := cf_IEu w.2.2.2.2.1 hpE
  subst e
  exact w.2.2.2.2.2.1
theorem cf_w8 {t : Nat → Nat} {L c he p pE qE c' he' p' pE' qE' : Nat} {po po' D1' D2' : List Nat} (hc : cf_Sch t L c) (hE : cf_IE 4 t L (c + 3) he) (hPO : cf_PO t L c he p po) (hpE : cf_IE 2 t L p pE) (hqE : cf_IE 1 t L pE qE) (w : cf_PS t L c' he' p' pE' qE' po' D1' D2') : cf_dc t qE (qE - pE) pE = some D2' := by
  have q := (cf_w3 hc hE w).2
  have e := (cf_POu q hPO).1
  subst e
  have e := cf_IEu w.2.2.2.2.1 hpE
  subst e
  have e := cf_IEu w.2.2.2.2.2.2.1 hqE
  subst e
  exact w.2.2.2.2.2.2.2
section
variable {f_maxUrls f_defaultDelay f_clock f_bufferLength f_urlCount f_hostCount f_ruleCount f_cLen f_cHost f_cHostLen f_cPq f_decLen f_segN : Int32} {a_buffer a_urlPool a_urlStart a_urlLength a_urlState a_urlHost a_urlTime a_names a_nameLength a_hostDelay a_hostNext a_hostSent a_rulePool a_ruleStart a_ruleLength a_ruleHost a_ycanon a_dec a_segS a_segL : Nat → Int32}
variable {t : Nat → Nat} {L : Nat}
theorem cy_885 {post : Int32 → SY → Prop} {D1 D2 l : List Nat} {n : Nat} (hKd : cf_K a_dec (D1.length + D2.length) (D1 ++ D2)) (hD : D1.length + D2.length ≤ 60) (hn : n + D2.length ≤ 60) (h : ∀ a, cf_K a (n + D2.length) (l ++ D2) → post 1 (f_maxUrls, f_defaultDelay, f_clock, f_bufferLength, f_urlCount, f_hostCount, f_ruleCount, nI (n + D2.length), f_cHost, f_cHostLen, f_cPq, nI (D1.length + D2.length), f_segN, a_buffer, a_urlPool, a_urlStart, a_urlLength, a_urlState, a_urlHost, a_urlTime, a_names, a_nameLength, a_hostDelay, a_hostNext, a_hostSent, a_rulePool, a_ruleStart, a_ruleLength, a_ruleHost, a, a_dec, a_segS, a_segL)) : ∀ d k f a, k + d = D2.length → d < f → cf_K a (n + k) (l ++ cf_sb (cf_dD (D1 ++ D2)) D1.length k) → wY_parse_885 post f (nI (D1.length + k)) f_maxUrls f_defaultDelay f_clock f_bufferLength f_urlCount f_hostCount f_ruleCount (nI (n + k)) f_cHost f_cHostLen f_cPq (nI (D1.length + D2.length)) f_segN a_buffer a_urlPool a_urlStart a_urlLength a_urlState a_urlHost a_urlTime a_names a_nameLength a_hostDelay a_hostNext a_hostSent a_rulePool a_ruleStart a_ruleLength a_ruleHost a a_dec a_segS a_segL := by
  intro d
  induction d with
  | zero =>
    intro k f a hk hf hK
    have e : k = D2.length := by omega
    subst e
    rw [cf_sbD2] at hK
    cases f with
    | zero => omega
    | succ f => exact pk_le (D1.length + D2.length) (D1.length + D2.length) (fun _ => h a hK) (fun z => by omega)
  | succ d ih =>
    intro k f a hk hf hK
    cases f with
    | zero => omega
    | succ f =>
      refine pk_le (D1.length + D2.length) (D1.length + k) (fun z => by omega) (fun z => ⟨pk_in (D1.length + k) 64 (by omega), cy_emit (cf_dD (D1 ++ D2) (D1.length + k)) (cf_rK hKd (D1.length + k) (by omega)) (by omega) hK (fun a' hK' => nm_r (nI_1 (D1.length + k)) (ih (k + 1) f a' (by omega) (by omega) ?_))⟩)
      rw [cf_sb1, ← List.append_assoc]
      exact hK'
theorem cy_867 {post : Int32 → SY → Prop} {D1 D2 l : List Nat} {n : Nat} (hKd : cf_K a_dec (D1.length + D2.length) (D1 ++ D2)) (hB : ∀ c, c ∈ D1 → c ≤ 126) (hD : D1.length + D2.length ≤ 48) (hn : n + D1.length ≤ 49) (hn2 : n + (cf_pa D1).length + D2.length ≤ 49) (hK : cf_K a_ycanon n l) (h : ∀ a ss sl m, cf_K a (n + (cf_pa D1).length + D2.length) (l ++ cf_pa D1 ++ D2) → post 1 (f_maxUrls, f_defaultDelay, f_clock, f_bufferLength, f_urlCount, f_hostCount, f_ruleCount, nI (n + (cf_pa D1).length + D2.length), f_cHost, f_cHostLen, nI n, nI (D1.length + D2.length), m, a_buffer, a_urlPool, a_urlStart, a_urlLength, a_urlState, a_urlHost, a_urlTime, a_names, a_nameLength, a_hostDelay, a_hostNext, a_hostSent, a_rulePool, a_ruleStart, a_ruleLength, a_ruleHost, a, a_dec, ss, sl)) : wY_parse_867 post (nI D1.length) f_maxUrls f_defaultDelay f_clock f_bufferLength f_urlCount f_hostCount f_ruleCount (nI n) f_cHost f_cHostLen f_cPq (nI (D1.length + D2.length)) f_segN a_buffer a_urlPool a_urlStart a_urlLength a_urlState a_urlHost a_urlTime a_names a_nameLength a_hostDelay a_hostNext a_hostSent a_rulePool a_ruleStart a_ruleLength a_ruleHost a_ycanon a_dec a_segS a_segL := by
  unfold wY_parse_867
  refine cy_emitPath (D := D1) (fun j hj => ?_) (cf_dDB hB) (by omega) hn hK (fun a ss sl m hK' => ⟨D2.length + 1, cy_885 (D1 := D1) (D2 := D2) (l := l ++ cf_pa D1) (n := n + (cf_pa D1).length) hKd (by omega) (by omega) (fun a2 hK2 => h a2 ss sl m hK2) D2.length 0 _ a (Nat.zero_add _) (by omega) ?_⟩)
  · rw [cf_Kg hKd (by omega), cf_gdl hj]
    rfl
  · show cf_K a _ (_ ++ [])
    rw [List.append_nil]
    exact hK'
theorem cy_817 {post : Int32 → SY → Prop} {l : List Nat} {n0 hs he c v : Nat} {x9 : Int32} (hb : ∀ j, a_buffer j = nI (t j)) (ht : ∀ j, t j ≤ 126) (h48 : he ≤ 48) (hv : v ≤ 65535) (hn : n0 + (he - hs) ≤ 40) (h : ∀ a, cf_K a (n0 + (he - hs) + (cf_po c v).length) (l ++ cf_sb (fun j => cf_lo (t j)) hs (he - hs) ++ cf_po c v) → wY_parse_867 post x9 f_maxUrls f_defaultDelay f_clock f_bufferLength f_urlCount f_hostCount f_ruleCount (nI (n0 + (he - hs) + (cf_po c v).length)) f_cHost f_cHostLen f_cPq f_decLen f_segN a_buffer a_urlPool a_urlStart a_urlLength a_urlState a_urlHost a_urlTime a_names a_nameLength a_hostDelay a_hostNext a_hostSent a_rulePool a_ruleStart a_ruleLength a_ruleHost a a_dec a_segS a_segL) : ∀ d k f a, hs + k + d = he → d < f → cf_K a (n0 + k) (l ++ cf_sb (fun j => cf_lo (t j)) hs k) → wY_parse_817 post (nI (cf_dp c)) (nI he) (nI v) x9 f (nI (hs + k)) f_maxUrls f_defaultDelay f_clock f_bufferLength f_urlCount f_hostCount f_ruleCount (nI (n0 + k)) f_cHost f_cHostLen f_cPq f_decLen f_segN a_buffer a_urlPool a_urlStart a_urlLength a_urlState a_urlHost a_urlTime a_names a_nameLength a_hostDelay a_hostNext a_hostSent a_rulePool a_ruleStart a_ruleLength a_ruleHost a a_dec a_segS a_segL := by
  intro d
  induction d with
  | zero =>
    intro k f a hk hf hK
    have e : he - hs = k := by omega
    rw [e] at h hn
    have b3 : cf_dp c ≤ 443 := by unfold cf_dp; split <;> omega
    cases f with
    | zero => omega
    | succ f =>
      refine pk_le he (hs + k) (fun _ => pk_eq v (cf_dp c) (fun z => ?_) (fun z => ?_)) (fun z => by omega)
      · have e2 : cf_po c v = [] := by unfold cf_po; rw [if_pos z]
        rw [e2, List.append_nil] at h
        exact h a hK
      · have e2 : cf_po c v = 58 :: cf_dy 4 v := by unfold cf_po; rw [if_neg z]
        rw [e2] at h
        refine cy_emit 58 rfl (by omega) hK (fun a1 k1 => cy_num hv (by omega) k1 (fun a2 k2 => ?_))
        have h' := h a2
        have e3 : n0 + k + (58 :: cf_dy 4 v).length = n0 + k + 1 + (cf_dy 4 v).length := by rw [List.length_cons]; omega
        rw [e3] at h'
        rw [List.append_assoc] at k2
        exact h' k2
  | succ d ih =>
    intro k f a hk hf hK
    cases f with
    | zero => omega
    | succ f =>
      refine pk_le he (hs + k) (fun z => by omega) (fun z => ⟨pk_in (hs + k) 48 (by omega), cy_low (t (hs + k)) (cf_rd hb (hs + k)) (ht _) (cy_emit (cf_lo (t (hs + k))) rfl (by omega) hK (fun a' hK' => nm_r (nI_1 (hs + k)) (ih (k + 1) f a' (by omega) (by omega) ?_)))⟩)
      rw [cf_sb1, ← List.append_assoc]
      exact hK'
theorem cy_749 {post : Int32 → SY → Prop} {c he : Nat} {x2 x5 x9 : Int32} (hb : ∀ j, a_buffer j = nI (t j)) (ht : ∀ j, t j ≤ 126) (hc : c ≤ 5) (h58 : t c = 58) (h47 : t (c + 1) = 47) (h47' : t (c + 2) = 47) (hhe : c + 3 ≤ he) (h : ∀ a, cf_K a (c + 3) (cf_sb (fun j => cf_lo (t j)) 0 (c + 3)) → ∃ f, wY_parse_817 post x2 (nI he) x5 x9 f (nI (c + 3)) f_maxUrls f_defaultDelay f_clock f_bufferLength f_urlCount f_hostCount f_ruleCount (nI (c + 3)) (nI (c + 3)) (nI (he - (c + 3))) f_cPq f_decLen f_segN a_buffer a_urlPool a_urlStart a_urlLength a_urlState a_urlHost a_urlTime a_names a_nameLength a_hostDelay a_hostNext a_hostSent a_rulePool a_ruleStart a_ruleLength a_ruleHost a a_dec a_segS a_segL) : ∀ d k f a, k + d = c → d < f → cf_K a k (cf_sb (fun j => cf_lo (t j)) 0 k) → wY_parse_749 post (nI c) x2 (nI (c + 3)) (nI he) x5 x9 f (nI k) f_maxUrls f_defaultDelay f_clock f_bufferLength f_urlCount f_hostCount f_ruleCount (nI k) f_cHost f_cHostLen f_cPq f_decLen f_segN a_buffer a_urlPool a_urlStart a_urlLength a_urlState a_urlHost a_urlTime a_names a_nameLength a_hostDelay a_hostNext a_hostSent a_rulePool a_ruleStart a_ruleLength a_ruleHost a a_dec a_segS a_segL := by
  intro d
  induction d with
  | zero =>
    intro k f a hk hf hK
    have e : k = c := by omega
    subst e
    cases f with
    | zero => omega
    | succ f =>
      refine pk_le k k (fun _ => cy_emit 58 rfl (by omega) hK (fun a1 k1 => cy_emit 47 rfl (by omega) k1 (fun a2 k2 => cy_emit 47 rfl (by omega) k2 (fun a3 k3 => nm_r (pk_sub hhe) (h a3 ?_))))) (fun z => by omega)
      have e1 : cf_lo (t (0 + k)) = 58 := by rw [Nat.zero_add]; exact cf_lo58.mpr h58
      have e2 : cf_lo (t (0 + (k + 1))) = 47 := by rw [Nat.zero_add]; exact cf_lo47.mpr h47
      have e3 : cf_lo (t (0 + (k + 2))) = 47 := by rw [Nat.zero_add]; exact cf_lo47.mpr h47'
      rw [show k + 3 = k + 2 + 1 from rfl, cf_sb1, show k + 2 = k + 1 + 1 from rfl, cf_sb1, cf_sb1, e1, e2, e3]
      exact k3
  | succ d ih =>
    intro k f a hk hf hK
    cases f with
    | zero => omega
    | succ f =>
      refine pk_le c k (fun z => by omega) (fun z => ⟨pk_in k 48 (by omega), cy_low (t k) (cf_rd hb k) (ht _) (cy_emit (cf_lo (t k)) rfl (by omega) hK (fun a' hK' => nm_r (nI_1 k) (ih (k + 1) f a' (by omega) (by omega) ?_)))⟩)
      rw [cf_sb1, Nat.zero_add]
      exact hK'
theorem cy_714 {post : Int32 → SY → Prop} {c he p pE qE v : Nat} (hL : L ≤ 48) (hb : ∀ j, a_buffer j = nI (t j)) (ht : ∀ j, t j ≤ 126) (hN : (∀ c he p pE qE po D1 D2, ¬ cf_PS t L c he p pE qE po D1 D2) → ∀ a1 a2 a3 a4 n1 n2 n3 n4 n5 n6, post 0 (f_maxUrls, f_defaultDelay, f_clock, nI L, f_urlCount, f_hostCount, f_ruleCount, n1, n2, n3, n4, n5, n6, a_buffer, a_urlPool, a_urlStart, a_urlLength, a_urlState, a_urlHost, a_urlTime, a_names, a_nameLength, a_hostDelay, a_hostNext, a_hostSent, a_rulePool, a_ruleStart, a_ruleLength, a_ruleHost, a1, a2, a3, a4)) (hY : ∀ c he p pE qE po D1 D2, cf_PS t L c he p pE qE po D1 D2 → ∀ a1 a2 a3 a4 n5 n6, cf_K a1 (cf_out t he po D1 D2).length (cf_out t he po D1 D2) → post 1 (f_maxUrls, f_defaultDelay, f_clock, nI L, f_urlCount, f_hostCount, f_ruleCount, nI (cf_out t he po D1 D2).length, nI (c + 3), nI (he - (c + 3)), nI (he + po.length), n5, n6, a_buffer, a_urlPool, a_urlStart, a_urlLength, a_urlState, a_urlHost, a_urlTime, a_names, a_nameLength, a_hostDelay, a_hostNext, a_hostSent, a_rulePool, a_ruleStart, a_ruleLength, a_ruleHost, a1, a2, a3, a4)) (hc : cf_Sch t L c) (hE : cf_IE 4 t L (c + 3) he) (hH : cf_Ho t (c + 3) he) (hPO : cf_PO t L c he p (cf_po c v)) (hv : v ≤ 65535) (hpE : cf_IE 2 t L p pE) (hqE : cf_IE 1 t L pE qE) : wY_parse_714 post (nI c) (nI (cf_dp c)) (nI (c + 3)) (nI he) (nI v) (nI p) (nI pE) (nI qE) f_maxUrls f_defaultDelay f_clock (nI L) f_urlCount f_hostCount f_ruleCount 0 f_cHost f_cHostLen f_cPq 0 0 a_buffer a_urlPool a_urlStart a_urlLength a_urlState a_urlHost a_urlTime a_names a_nameLength a_hostDelay a_hostNext a_hostSent a_rulePool a_ruleStart a_ruleLength a_ruleHost a_ycanon a_dec a_segS a_segL := by
  have pp := cf_POl hE.2.1 hPO
  have c5 : c ≤ 5 := by have := hc.1; omega
  have he1 := hE.1
  have he2 := hE.2.1
  have he3 := hH.2.1
  have pE1 := hpE.1
  have pE2 := hpE.2.1
  have qE1 := hqE.1
  have qE2 := hqE.2.1
  unfold wY_parse_714
  refine cy_decode (m := 0) (D := []) pE1 (by omega) (Nat.zero_le _) hb ht (cf_K0 _) (fun h a n => br_t rfl (hN (fun c' he' p' pE' qE' po' D1' D2' w => ?_) _ _ _ _ _ _ _ _ _ _)) (fun D1 hD1 a4 hK4 => br_f (by decide) ?_)
  · rw [cf_w6 hc hE hPO hpE w] at h
    cases h
  have dd := cf_dcF ht (pE - p) p D1 (Nat.le_refl _) hD1
  have d1 := dd.1
  rw [Nat.zero_add, List.nil_append] at hK4
  rw [Nat.zero_add]
  refine cy_decode (m := D1.length) (D := D1) qE1 (by omega) (by omega) hb ht hK4 (fun h a n => br_t rfl (hN (fun c' he' p' pE' qE' po' D1' D2' w => ?_) _ _ _ _ _ _ _ _ _ _)) (fun D2 hD2 a5 hK5 => br_f (by decide) ⟨c + 1, ?_⟩)
  · rw [cf_w8 hc hE hPO hpE hqE w] at h
    cases h
  have ps : cf_PS t L c he p pE qE (cf_po c v) D1 D2 := ⟨hc, hE, hH, hPO, hpE, hD1, hqE, hD2⟩
  have bo := cf_outB ht hL ps
  have f1 := (cf_dcF ht (qE - pE) pE D2 (Nat.le_refl _) hD2).1
  have eh : cf_sb (fun j => cf_lo (t j)) 0 (c + 3) ++ cf_sb (fun j => cf_lo (t j)) (c + 3) (he - (c + 3)) = cf_sb (fun j => cf_lo (t j)) 0 he := by
    have q := cf_sbA (fun j => cf_lo (t j)) 0 (c + 3) (he - (c + 3))
    rw [Nat.zero_add, show c + 3 + (he - (c + 3)) = he by omega] at q
    exact q.symm
  have en : c + 3 + (he - (c + 3)) = he := by omega
  refine cy_749 hb ht c5 hc.2.2.2.2.2.2.2.1 hc.2.2.2.2.2.2.2.2.1 hc.2.2.2.2.2.2.2.2.2 he1 (fun a6 hK6 => ⟨he - (c + 3) + 1, cy_817 (c := c) (v := v) (hs := c + 3) (he := he) (n0 := c + 3) (l := cf_sb (fun j => cf_lo (t j)) 0 (c + 3)) hb ht (by omega) hv (by omega) (fun a7 hK7 => ?_) (he - (c + 3)) 0 _ a6 (by omega) (by omega) ?_⟩) c 0 _ a_ycanon (Nat.zero_add _) (by omega) (cf_K0 _)
  · rw [eh, en] at hK7
    rw [en]
    refine cy_867 (D1 := D1) (D2 := D2) hK5 dd.2 (by omega) (by omega) (by omega) hK7 (fun a8 ss sl m hK8 => ?_)
    have g := hY c he p pE qE (cf_po c v) D1 D2 ps a8 a5 ss sl
    rw [cf_outL] at g
    exact g _ _ hK8
  · show cf_K a6 _ (_ ++ [])
    rw [List.append_nil]
    exact hK6
end
