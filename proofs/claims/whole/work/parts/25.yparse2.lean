/-! the reference: parse, its first half -/
theorem cf_noPO {t : Nat → Nat} {L c he p p' : Nat} {po' : List Nat} (h : he < L ∧ t he = 58) (hp : cf_IE 3 t L (he + 1) p) (w : cf_PO t L c he p' po') : cf_Po t L (he + 1) p := by
  rcases w with ⟨w, -, -⟩ | ⟨-, w, -⟩
  · exact absurd h w
  · have e := cf_IEu w.1 hp
    subst e
    exact w
theorem cf_rk1 {c : Nat} (h : cf_rk 1 c) : c = 35 := by unfold cf_rk at h; omega
theorem cf_rk2 {c : Nat} : cf_rk 2 c ↔ c = 63 ∨ c = 35 := by unfold cf_rk; omega
theorem cf_rk3 {c : Nat} : cf_rk 3 c ↔ c = 47 ∨ c = 63 ∨ c = 35 := by unfold cf_rk; omega
theorem cf_rk4 {c : Nat} : cf_rk 4 c ↔ c = 58 ∨ c = 47 ∨ c = 63 ∨ c = 35 := by unfold cf_rk; omega
theorem cf_up1 {P : Nat → Prop} {i k : Nat} (h : ∀ j, i ≤ j → j < k → P j) (hk : P k) : ∀ j, i ≤ j → j < k + 1 → P j := by
  intro j h1 h2
  rcases Nat.lt_or_ge j k with y | y
  · exact h j h1 y
  · have e : j = k := by omega
    rw [e]
    exact hk
section
variable {f_maxUrls f_defaultDelay f_clock f_bufferLength f_urlCount f_hostCount f_ruleCount f_cLen f_cHost f_cHostLen f_cPq f_decLen f_segN : Int32} {a_buffer a_urlPool a_urlStart a_urlLength a_urlState a_urlHost a_urlTime a_names a_nameLength a_hostDelay a_hostNext a_hostSent a_rulePool a_ruleStart a_ruleLength a_ruleHost a_ycanon a_dec a_segS a_segL : Nat → Int32}
variable {t : Nat → Nat} {L : Nat}
theorem cy_691 {post : Int32 → SY → Prop} {c he p pE qE v : Nat} (hL : L ≤ 48) (hb : ∀ j, a_buffer j = nI (t j)) (ht : ∀ j, t j ≤ 126) (hN : (∀ c he p pE qE po D1 D2, ¬ cf_PS t L c he p pE qE po D1 D2) → ∀ a1 a2 a3 a4 n1 n2 n3 n4 n5 n6, post 0 (f_maxUrls, f_defaultDelay, f_clock, nI L, f_urlCount, f_hostCount, f_ruleCount, n1, n2, n3, n4, n5, n6, a_buffer, a_urlPool, a_urlStart, a_urlLength, a_urlState, a_urlHost, a_urlTime, a_names, a_nameLength, a_hostDelay, a_hostNext, a_hostSent, a_rulePool, a_ruleStart, a_ruleLength, a_ruleHost, a1, a2, a3, a4)) (hY : ∀ c he p pE qE po D1 D2, cf_PS t L c he p pE qE po D1 D2 → ∀ a1 a2 a3 a4 n5 n6, cf_K a1 (cf_out t he po D1 D2).length (cf_out t he po D1 D2) → post 1 (f_maxUrls, f_defaultDelay, f_clock, nI L, f_urlCount, f_hostCount, f_ruleCount, nI (cf_out t he po D1 D2).length, nI (c + 3), nI (he - (c + 3)), nI (he + po.length), n5, n6, a_buffer, a_urlPool, a_urlStart, a_urlLength, a_urlState, a_urlHost, a_urlTime, a_names, a_nameLength, a_hostDelay, a_hostNext, a_hostSent, a_rulePool, a_ruleStart, a_ruleLength, a_ruleHost, a1, a2, a3, a4)) (hc : cf_Sch t L c) (hE : cf_IE 4 t L (c + 3) he) (hH : cf_Ho t (c + 3) he) (hPO : cf_PO t L c he p (cf_po c v)) (hv : v ≤ 65535) (hpE : cf_IE 2 t L p pE) (hqE : cf_IE 1 t L pE qE) : wY_parse_691 post (nI c) (nI (cf_dp c)) (nI (c + 3)) (nI he) (nI v) (nI p) (nI pE) (nI qE) f_maxUrls f_defaultDelay f_clock (nI L) f_urlCount f_hostCount f_ruleCount 0 f_cHost f_cHostLen f_cPq 0 0 a_buffer a_urlPool a_urlStart a_urlLength a_urlState a_urlHost a_urlTime a_names a_nameLength a_hostDelay a_hostNext a_hostSent a_rulePool a_ruleStart a_ruleLength a_ruleHost a_ycanon a_dec a_segS a_segL := by
  have q2 := hqE.2.1
  have go : wY_parse_714 post (nI c) (nI (cf_dp c)) (nI (c + 3)) (nI he) (nI v) (nI p) (nI pE) (nI qE) f_maxUrls f_defaultDelay f_clock (nI L) f_urlCount f_hostCount f_ruleCount 0 f_cHost f_cHostLen f_cPq 0 0 a_buffer a_urlPool a_urlStart a_urlLength a_urlState a_urlHost a_urlTime a_names a_nameLength a_hostDelay a_hostNext a_hostSent a_rulePool a_ruleStart a_ruleLength a_ruleHost a_ycanon a_dec a_segS a_segL := cy_714 hL hb ht hN hY hc hE hH hPO hv hpE hqE
  exact pk_le L qE (fun _ => go) (fun z => ⟨pk_in qE 48 (by omega), cf_eqc (t qE) 35 (cf_rd hb qE) (by have := ht qE; omega) (fun _ => go) (fun w => absurd (cf_rk1 (hqE.2.2.2 z)) w)⟩)
theorem cy_657 {post : Int32 → SY → Prop} {c he p pE v : Nat} (hL : L ≤ 48) (hb : ∀ j, a_buffer j = nI (t j)) (ht : ∀ j, t j ≤ 126) (hN : (∀ c he p pE qE po D1 D2, ¬ cf_PS t L c he p pE qE po D1 D2) → ∀ a1 a2 a3 a4 n1 n2 n3 n4 n5 n6, post 0 (f_maxUrls, f_defaultDelay, f_clock, nI L, f_urlCount, f_hostCount, f_ruleCount, n1, n2, n3, n4, n5, n6, a_buffer, a_urlPool, a_urlStart, a_urlLength, a_urlState, a_urlHost, a_urlTime, a_names, a_nameLength, a_hostDelay, a_hostNext, a_hostSent, a_rulePool, a_ruleStart, a_ruleLength, a_ruleHost, a1, a2, a3, a4)) (hY : ∀ c he p pE qE po D1 D2, cf_PS t L c he p pE qE po D1 D2 → ∀ a1 a2 a3 a4 n5 n6, cf_K a1 (cf_out t he po D1 D2).length (cf_out t he po D1 D2) → post 1 (f_maxUrls, f_defaultDelay, f_clock, nI L, f_urlCount, f_hostCount, f_ruleCount, nI (cf_out t he po D1 D2).length, nI (c + 3), nI (he - (c + 3)), nI (he + po.length), n5, n6, a_buffer, a_urlPool, a_urlStart, a_urlLength, a_urlState, a_urlHost, a_urlTime, a_names, a_nameLength, a_hostDelay, a_hostNext, a_hostSent, a_rulePool, a_ruleStart, a_ruleLength, a_ruleHost, a1, a2, a3, a4)) (hc : cf_Sch t L c) (hE : cf_IE 4 t L (c + 3) he) (hH : cf_Ho t (c + 3) he) (hPO : cf_PO t L c he p (cf_po c v)) (hv : v ≤ 65535) (hpE : cf_IE 2 t L p pE) : ∀ d k f, k + d = L → d < f → pE ≤ k → (∀ j, pE ≤ j → j < k → ¬ cf_rk 1 (t j)) → wY_parse_657 post (nI c) (nI (cf_dp c)) (nI (c + 3)) (nI he) (nI v) (nI p) (nI pE) (nI L) f_maxUrls f_defaultDelay f_clock (nI L) f_urlCount f_hostCount f_ruleCount 0 f_cHost f_cHostLen f_cPq 0 0 a_buffer a_urlPool a_urlStart a_urlLength a_urlState a_urlHost a_urlTime a_names a_nameLength a_hostDelay a_hostNext a_hostSent a_rulePool a_ruleStart a_ruleLength a_ruleHost a_ycanon a_dec a_segS a_segL f (nI k) := by
  intro d
  induction d with
  | zero =>
    intro k f hk hf hpk hj
    have e : k = L := by omega
    subst e
    cases f with
    | zero => omega
    | succ f => exact pk_le k k (fun _ => cy_691 hL hb ht hN hY hc hE hH hPO hv hpE ⟨hpk, Nat.le_refl _, hj, fun z => by omega⟩) (fun z => by omega)
  | succ d ih =>
    intro k f hk hf hpk hj
    cases f with
    | zero => omega
    | succ f =>
      refine pk_le L k (fun z => by omega) (fun z => ⟨pk_in k 48 (by omega), cf_eqc (t k) 35 (cf_rd hb k) (by have := ht k; omega) (fun y => cy_691 hL hb ht hN hY hc hE hH hPO hv hpE ⟨hpk, by omega, hj, fun _ => Or.inl y⟩) (fun y => nm_r (nI_1 k) (ih (k + 1) f (by omega) (by omega) (by omega) (cf_up1 hj (fun w => y (cf_rk1 w)))))⟩)
theorem cy_622 {post : Int32 → SY → Prop} {c he p pE v : Nat} (hL : L ≤ 48) (hb : ∀ j, a_buffer j = nI (t j)) (ht : ∀ j, t j ≤ 126) (hN : (∀ c he p pE qE po D1 D2, ¬ cf_PS t L c he p pE qE po D1 D2) → ∀ a1 a2 a3 a4 n1 n2 n3 n4 n5 n6, post 0 (f_maxUrls, f_defaultDelay, f_clock, nI L, f_urlCount, f_hostCount, f_ruleCount, n1, n2, n3, n4, n5, n6, a_buffer, a_urlPool, a_urlStart, a_urlLength, a_urlState, a_urlHost, a_urlTime, a_names, a_nameLength, a_hostDelay, a_hostNext, a_hostSent, a_rulePool, a_ruleStart, a_ruleLength, a_ruleHost, a1, a2, a3, a4)) (hY : ∀ c he p pE qE po D1 D2, cf_PS t L c he p pE qE po D1 D2 → ∀ a1 a2 a3 a4 n5 n6, cf_K a1 (cf_out t he po D1 D2).length (cf_out t he po D1 D2) → post 1 (f_maxUrls, f_defaultDelay, f_clock, nI L, f_urlCount, f_hostCount, f_ruleCount, nI (cf_out t he po D1 D2).length, nI (c + 3), nI (he - (c + 3)), nI (he + po.length), n5, n6, a_buffer, a_urlPool, a_urlStart, a_urlLength, a_urlState, a_urlHost, a_urlTime, a_names, a_nameLength, a_hostDelay, a_hostNext, a_hostSent, a_rulePool, a_ruleStart, a_ruleLength, a_ruleHost, a1, a2, a3, a4)) (hc : cf_Sch t L c) (hE : cf_IE 4 t L (c + 3) he) (hH : cf_Ho t (c + 3) he) (hPO : cf_PO t L c he p (cf_po c v)) (hv : v ≤ 65535) (hpE : cf_IE 2 t L p pE) : wY_parse_622 post (nI c) (nI (cf_dp c)) (nI (c + 3)) (nI he) (nI v) (nI p) (nI pE) f_maxUrls f_defaultDelay f_clock (nI L) f_urlCount f_hostCount f_ruleCount 0 f_cHost f_cHostLen f_cPq 0 0 a_buffer a_urlPool a_urlStart a_urlLength a_urlState a_urlHost a_urlTime a_names a_nameLength a_hostDelay a_hostNext a_hostSent a_rulePool a_ruleStart a_ruleLength a_ruleHost a_ycanon a_dec a_segS a_segL := by
  have p2 := hpE.2.1
  exact pk_le L pE (fun z => cy_691 hL hb ht hN hY hc hE hH hPO hv hpE (cf_IEp p2 (fun y => by omega))) (fun z => ⟨pk_in pE 48 (by omega), cf_eqc (t pE) 63 (cf_rd hb pE) (by have := ht pE; omega) (fun y => ⟨L - pE + 1, cy_657 hL hb ht hN hY hc hE hH hPO hv hpE (L - pE) pE _ (by omega) (by omega) (Nat.le_refl _) (fun j h1 h2 => by omega)⟩) (fun y => cy_691 hL hb ht hN hY hc hE hH hPO hv hpE (cf_IEp p2 (fun _ => Or.inl ((cf_rk2.mp (hpE.2.2.2 z)).resolve_left y))))⟩)
theorem cy_576 {post : Int32 → SY → Prop} {c he p v : Nat} (hL : L ≤ 48) (hb : ∀ j, a_buffer j = nI (t j)) (ht : ∀ j, t j ≤ 126) (hN : (∀ c he p pE qE po D1 D2, ¬ cf_PS t L c he p pE qE po D1 D2) → ∀ a1 a2 a3 a4 n1 n2 n3 n4 n5 n6, post 0 (f_maxUrls, f_defaultDelay, f_clock, nI L, f_urlCount, f_hostCount, f_ruleCount, n1, n2, n3, n4, n5, n6, a_buffer, a_urlPool, a_urlStart, a_urlLength, a_urlState, a_urlHost, a_urlTime, a_names, a_nameLength, a_hostDelay, a_hostNext, a_hostSent, a_rulePool, a_ruleStart, a_ruleLength, a_ruleHost, a1, a2, a3, a4)) (hY : ∀ c he p pE qE po D1 D2, cf_PS t L c he p pE qE po D1 D2 → ∀ a1 a2 a3 a4 n5 n6, cf_K a1 (cf_out t he po D1 D2).length (cf_out t he po D1 D2) → post 1 (f_maxUrls, f_defaultDelay, f_clock, nI L, f_urlCount, f_hostCount, f_ruleCount, nI (cf_out t he po D1 D2).length, nI (c + 3), nI (he - (c + 3)), nI (he + po.length), n5, n6, a_buffer, a_urlPool, a_urlStart, a_urlLength, a_urlState, a_urlHost, a_urlTime, a_names, a_nameLength, a_hostDelay, a_hostNext, a_hostSent, a_rulePool, a_ruleStart, a_ruleLength, a_ruleHost, a1, a2, a3, a4)) (hc : cf_Sch t L c) (hE : cf_IE 4 t L (c + 3) he) (hH : cf_Ho t (c + 3) he) (hPO : cf_PO t L c he p (cf_po c v)) (hv : v ≤ 65535) : ∀ d k f, k + d = L → d < f → p ≤ k → (∀ j, p ≤ j → j < k → ¬ cf_rk 2 (t j)) → wY_parse_576 post (nI c) (nI (cf_dp c)) (nI (c + 3)) (nI he) (nI v) (nI p) (nI L) f_maxUrls f_defaultDelay f_clock (nI L) f_urlCount f_hostCount f_ruleCount 0 f_cHost f_cHostLen f_cPq 0 0 a_buffer a_urlPool a_urlStart a_urlLength a_urlState a_urlHost a_urlTime a_names a_nameLength a_hostDelay a_hostNext a_hostSent a_rulePool a_ruleStart a_ruleLength a_ruleHost a_ycanon a_dec a_segS a_segL f (nI k) := by
  intro d
  induction d with
  | zero =>
    intro k f hk hf hpk hj
    have e : k = L := by omega
    subst e
    cases f with
    | zero => omega
    | succ f => exact pk_le k k (fun _ => cy_622 hL hb ht hN hY hc hE hH hPO hv ⟨hpk, Nat.le_refl _, hj, fun z => by omega⟩) (fun z => by omega)
  | succ d ih =>
    intro k f hk hf hpk hj
    cases f with
    | zero => omega
    | succ f =>
      have tb := ht k
      have go : cf_rk 2 (t k) → wY_parse_609 post (nI c) (nI (cf_dp c)) (nI (c + 3)) (nI he) (nI v) (nI p) (nI k) f_maxUrls f_defaultDelay f_clock (nI L) f_urlCount f_hostCount f_ruleCount 0 f_cHost f_cHostLen f_cPq 0 0 a_buffer a_urlPool a_urlStart a_urlLength a_urlState a_urlHost a_urlTime a_names a_nameLength a_hostDelay a_hostNext a_hostSent a_rulePool a_ruleStart a_ruleLength a_ruleHost a_ycanon a_dec a_segS a_segL := fun r => cy_622 hL hb ht hN hY hc hE hH hPO hv ⟨hpk, by omega, hj, fun _ => r⟩
      exact pk_le L k (fun z => by omega) (fun z => ⟨pk_in k 48 (by omega), cf_eqc (t k) 63 (cf_rd hb k) (by omega) (fun y => go (cf_rk2.mpr (Or.inl y))) (fun y => ⟨pk_in k 48 (by omega), cf_eqc (t k) 35 (cf_rd hb k) (by omega) (fun y2 => go (cf_rk2.mpr (Or.inr y2))) (fun y2 => nm_r (nI_1 k) (ih (k + 1) f (by omega) (by omega) (by omega) (cf_up1 hj (fun w => (cf_rk2.mp w).elim y y2))))⟩)⟩)
theorem cy_541 {post : Int32 → SY → Prop} {c he p v : Nat} (hL : L ≤ 48) (hb : ∀ j, a_buffer j = nI (t j)) (ht : ∀ j, t j ≤ 126) (hN : (∀ c he p pE qE po D1 D2, ¬ cf_PS t L c he p pE qE po D1 D2) → ∀ a1 a2 a3 a4 n1 n2 n3 n4 n5 n6, post 0 (f_maxUrls, f_defaultDelay, f_clock, nI L, f_urlCount, f_hostCount, f_ruleCount, n1, n2, n3, n4, n5, n6, a_buffer, a_urlPool, a_urlStart, a_urlLength, a_urlState, a_urlHost, a_urlTime, a_names, a_nameLength, a_hostDelay, a_hostNext, a_hostSent, a_rulePool, a_ruleStart, a_ruleLength, a_ruleHost, a1, a2, a3, a4)) (hY : ∀ c he p pE qE po D1 D2, cf_PS t L c he p pE qE po D1 D2 → ∀ a1 a2 a3 a4 n5 n6, cf_K a1 (cf_out t he po D1 D2).length (cf_out t he po D1 D2) → post 1 (f_maxUrls, f_defaultDelay, f_clock, nI L, f_urlCount, f_hostCount, f_ruleCount, nI (cf_out t he po D1 D2).length, nI (c + 3), nI (he - (c + 3)), nI (he + po.length), n5, n6, a_buffer, a_urlPool, a_urlStart, a_urlLength, a_urlState, a_urlHost, a_urlTime, a_names, a_nameLength, a_hostDelay, a_hostNext, a_hostSent, a_rulePool, a_ruleStart, a_ruleLength, a_ruleHost, a1, a2, a3, a4)) (hc : cf_Sch t L c) (hE : cf_IE 4 t L (c + 3) he) (hH : cf_Ho t (c + 3) he) (hPO : cf_PO t L c he p (cf_po c v)) (hv : v ≤ 65535) : wY_parse_541 post (nI c) (nI (cf_dp c)) (nI (c + 3)) (nI he) (nI v) (nI p) f_maxUrls f_defaultDelay f_clock (nI L) f_urlCount f_hostCount f_ruleCount 0 f_cHost f_cHostLen f_cPq 0 0 a_buffer a_urlPool a_urlStart a_urlLength a_urlState a_urlHost a_urlTime a_names a_nameLength a_hostDelay a_hostNext a_hostSent a_rulePool a_ruleStart a_ruleLength a_ruleHost a_ycanon a_dec a_segS a_segL := by
  have p2 := (cf_POl hE.2.1 hPO).2.1
  refine pk_le L p (fun z => cy_622 hL hb ht hN hY hc hE hH hPO hv (cf_IEp p2 (fun y => by omega))) (fun z => ⟨pk_in p 48 (by omega), cf_eqc (t p) 47 (cf_rd hb p) (by have := ht p; omega) (fun y => ⟨L - p + 1, cy_576 hL hb ht hN hY hc hE hH hPO hv (L - p) p _ (by omega) (by omega) (Nat.le_refl _) (fun j h1 h2 => by omega)⟩) (fun y => cy_622 hL hb ht hN hY hc hE hH hPO hv (cf_IEp p2 (fun _ => cf_rk2.mpr ((cf_PSq hE hPO z).resolve_left y))))⟩)
theorem cy_481 {post : Int32 → SY → Prop} {c he p : Nat} (hL : L ≤ 48) (hb : ∀ j, a_buffer j = nI (t j)) (ht : ∀ j, t j ≤ 126) (hN : (∀ c he p pE qE po D1 D2, ¬ cf_PS t L c he p pE qE po D1 D2) → ∀ a1 a2 a3 a4 n1 n2 n3 n4 n5 n6, post 0 (f_maxUrls, f_defaultDelay, f_clock, nI L, f_urlCount, f_hostCount, f_ruleCount, n1, n2, n3, n4, n5, n6, a_buffer, a_urlPool, a_urlStart, a_urlLength, a_urlState, a_urlHost, a_urlTime, a_names, a_nameLength, a_hostDelay, a_hostNext, a_hostSent, a_rulePool, a_ruleStart, a_ruleLength, a_ruleHost, a1, a2, a3, a4)) (hY : ∀ c he p pE qE po D1 D2, cf_PS t L c he p pE qE po D1 D2 → ∀ a1 a2 a3 a4 n5 n6, cf_K a1 (cf_out t he po D1 D2).length (cf_out t he po D1 D2) → post 1 (f_maxUrls, f_defaultDelay, f_clock, nI L, f_urlCount, f_hostCount, f_ruleCount, nI (cf_out t he po D1 D2).length, nI (c + 3), nI (he - (c + 3)), nI (he + po.length), n5, n6, a_buffer, a_urlPool, a_urlStart, a_urlLength, a_urlState, a_urlHost, a_urlTime, a_names, a_nameLength, a_hostDelay, a_hostNext, a_hostSent, a_rulePool, a_ruleStart, a_ruleLength, a_ruleHost, a1, a2, a3, a4)) (hc : cf_Sch t L c) (hE : cf_IE 4 t L (c + 3) he) (hH : cf_Ho t (c + 3) he) (h58 : he < L ∧ t he = 58) (hp : cf_IE 3 t L (he + 1) p) (h1 : he + 1 + 1 ≤ p) (h5 : p ≤ he + 1 + 5) : ∀ d k f, he + 1 + k + d = p → d < f → (∀ j, he + 1 ≤ j → j < he + 1 + k → 48 ≤ t j ∧ t j ≤ 57) → wY_parse_481 post (nI c) (nI (cf_dp c)) (nI (c + 3)) (nI he) (nI p) f_maxUrls f_defaultDelay f_clock (nI L) f_urlCount f_hostCount f_ruleCount 0 f_cHost f_cHostLen f_cPq 0 0 a_buffer a_urlPool a_urlStart a_urlLength a_urlState a_urlHost a_urlTime a_names a_nameLength a_hostDelay a_hostNext a_hostSent a_rulePool a_ruleStart a_ruleLength a_ruleHost a_ycanon a_dec a_segS a_segL f (nI (cf_pv t (he + 1) k)) (nI (he + 1 + k)) := by
  have p2 := hp.2.1
  intro d
  induction d with
  | zero =>
    intro k f hk hf hj
    have e : p - (he + 1) = k := by omega
    cases f with
    | zero => omega
    | succ f =>
      have b1 : cf_pv t (he + 1) k < 10 ^ k := cf_pvB k (fun j h => (hj (he + 1 + j) (by omega) (by omega)).2)
      have b2 : 10 ^ k ≤ 10 ^ 5 := Nat.pow_le_pow_right (by decide) (by omega)
      have hj' : ∀ j, he + 1 ≤ j → j < p → 48 ≤ t j ∧ t j ≤ 57 := fun j h1 h2 => hj j h1 (by omega)
      refine pk_le p (he + 1 + k) (fun _ => pk_le (cf_pv t (he + 1) k) 65535 (fun z => cy_541 hL hb ht hN hY hc hE hH (Or.inr ⟨h58, ⟨hp, h1, h5, hj', by rw [e]; exact z⟩, by rw [e]⟩) z) (fun z => hN (fun c' he' p' pE' qE' po' D1' D2' w => ?_) _ _ _ _ _ _ _ _ _ _)) (fun z => by omega)
      have q := (cf_noPO h58 hp (cf_w3 hc hE w).2).2.2.2.2
      rw [e] at q
      omega
  | succ d ih =>
    intro k f hk hf hj
    cases f with
    | zero => omega
    | succ f =>
      refine pk_le p (he + 1 + k) (fun z => by omega) (fun z => ⟨pk_in (he + 1 + k) 48 (by omega), cy_isDigit (t (he + 1 + k)) (cf_rd hb (he + 1 + k)) (by have := ht (he + 1 + k); omega) (fun c1 => br_f (by decide) ⟨pk_in (he + 1 + k) 48 (by omega), ?_⟩) (fun c1 => br_t rfl (hN (fun c' he' p' pE' qE' po' D1' D2' w => c1 ((cf_noPO h58 hp (cf_w3 hc hE w).2).2.2.2.1 (he + 1 + k) (by omega) (by omega))) _ _ _ _ _ _ _ _ _ _))⟩)
      have e : ((nI (cf_pv t (he + 1) k) * 10) + (a_buffer (nI (he + 1 + k)).toNatClampNeg)) - 48 = nI (cf_pv t (he + 1) (k + 1)) := by
        rw [cf_rd hb (he + 1 + k)]
        refine (congrArg (fun z => z + nI (t (he + 1 + k)) - 48) (pk_mul (cf_pv t (he + 1) k) 10)).trans ?_
        show nI (cf_pv t (he + 1) k * 10) + nI (t (he + 1 + k)) - nI 48 = _
        rw [nI_add, pk_sub (by omega)]
        refine congrArg nI ?_
        show _ = cf_pv t (he + 1) k * 10 + (t (he + 1 + k) - 48)
        omega
      exact nm_r e (nm_r (nI_1 (he + 1 + k)) (ih (k + 1) f (by omega) (by omega) (cf_up1 hj c1)))
theorem cy_448 {post : Int32 → SY → Prop} {c he p : Nat} (hL : L ≤ 48) (hb : ∀ j, a_buffer j = nI (t j)) (ht : ∀ j, t j ≤ 126) (hN : (∀ c he p pE qE po D1 D2, ¬ cf_PS t L c he p pE qE po D1 D2) → ∀ a1 a2 a3 a4 n1 n2 n3 n4 n5 n6, post 0 (f_maxUrls, f_defaultDelay, f_clock, nI L, f_urlCount, f_hostCount, f_ruleCount, n1, n2, n3, n4, n5, n6, a_buffer, a_urlPool, a_urlStart, a_urlLength, a_urlState, a_urlHost, a_urlTime, a_names, a_nameLength, a_hostDelay, a_hostNext, a_hostSent, a_rulePool, a_ruleStart, a_ruleLength, a_ruleHost, a1, a2, a3, a4)) (hY : ∀ c he p pE qE po D1 D2, cf_PS t L c he p pE qE po D1 D2 → ∀ a1 a2 a3 a4 n5 n6, cf_K a1 (cf_out t he po D1 D2).length (cf_out t he po D1 D2) → post 1 (f_maxUrls, f_defaultDelay, f_clock, nI L, f_urlCount, f_hostCount, f_ruleCount, nI (cf_out t he po D1 D2).length, nI (c + 3), nI (he - (c + 3)), nI (he + po.length), n5, n6, a_buffer, a_urlPool, a_urlStart, a_urlLength, a_urlState, a_urlHost, a_urlTime, a_names, a_nameLength, a_hostDelay, a_hostNext, a_hostSent, a_rulePool, a_ruleStart, a_ruleLength, a_ruleHost, a1, a2, a3, a4)) (hc : cf_Sch t L c) (hE : cf_IE 4 t L (c + 3) he) (hH : cf_Ho t (c + 3) he) (h58 : he < L ∧ t he = 58) (hp : cf_IE 3 t L (he + 1) p) : wY_parse_448 post (nI c) (nI (cf_dp c)) (nI (c + 3)) (nI he) (nI he) (nI p) f_maxUrls f_defaultDelay f_clock (nI L) f_urlCount f_hostCount f_ruleCount 0 f_cHost f_cHostLen f_cPq 0 0 a_buffer a_urlPool a_urlStart a_urlLength a_urlState a_urlHost a_urlTime a_names a_nameLength a_hostDelay a_hostNext a_hostSent a_rulePool a_ruleStart a_ruleLength a_ruleHost a_ycanon a_dec a_segS a_segL := by
  have p1 := hp.1
  have p2 := hp.2.1
  have es : (nI p - nI he) - 1 = nI (p - (he + 1)) := by
    rw [pk_sub (by omega)]
    refine (pk_sub (a := p - he) (b := 1) (by omega)).trans ?_
    exact congrArg nI (by omega)
  refine pk_lt (p - (he + 1)) 1 (fun z => hN (fun c' he' p' pE' qE' po' D1' D2' w => ?_) _ _ _ _ _ _ _ _ _ _) (fun z => pk_le (p - (he + 1)) 5 (fun z2 => nm_r (nI_1 he) ⟨p - (he + 1) + 1, cy_481 hL hb ht hN hY hc hE hH h58 hp (by omega) (by omega) (p - (he + 1)) 0 _ (by omega) (by omega) (fun j h1 h2 => by omega)⟩) (fun z2 => hN (fun c' he' p' pE' qE' po' D1' D2' w => ?_) _ _ _ _ _ _ _ _ _ _) es) es
  · have q := (cf_noPO h58 hp (cf_w3 hc hE w).2).2.1
    omega
  · have q := (cf_noPO h58 hp (cf_w3 hc hE w).2).2.2.1
    omega
theorem cy_396 {post : Int32 → SY → Prop} {c he : Nat} (hL : L ≤ 48) (hb : ∀ j, a_buffer j = nI (t j)) (ht : ∀ j, t j ≤ 126) (hN : (∀ c he p pE qE po D1 D2, ¬ cf_PS t L c he p pE qE po D1 D2) → ∀ a1 a2 a3 a4 n1 n2 n3 n4 n5 n6, post 0 (f_maxUrls, f_defaultDelay, f_clock, nI L, f_urlCount, f_hostCount, f_ruleCount, n1, n2, n3, n4, n5, n6, a_buffer, a_urlPool, a_urlStart, a_urlLength, a_urlState, a_urlHost, a_urlTime, a_names, a_nameLength, a_hostDelay, a_hostNext, a_hostSent, a_rulePool, a_ruleStart, a_ruleLength, a_ruleHost, a1, a2, a3, a4)) (hY : ∀ c he p pE qE po D1 D2, cf_PS t L c he p pE qE po D1 D2 → ∀ a1 a2 a3 a4 n5 n6, cf_K a1 (cf_out t he po D1 D2).length (cf_out t he po D1 D2) → post 1 (f_maxUrls, f_defaultDelay, f_clock, nI L, f_urlCount, f_hostCount, f_ruleCount, nI (cf_out t he po D1 D2).length, nI (c + 3), nI (he - (c + 3)), nI (he + po.length), n5, n6, a_buffer, a_urlPool, a_urlStart, a_urlLength, a_urlState, a_urlHost, a_urlTime, a_names, a_nameLength, a_hostDelay, a_hostNext, a_hostSent, a_rulePool, a_ruleStart, a_ruleLength, a_ruleHost, a1, a2, a3, a4)) (hc : cf_Sch t L c) (hE : cf_IE 4 t L (c + 3) he) (hH : cf_Ho t (c + 3) he) (h58 : he < L ∧ t he = 58) : ∀ d k f, k + d = L → d < f → he + 1 ≤ k → (∀ j, he + 1 ≤ j → j < k → ¬ cf_rk 3 (t j)) → wY_parse_396 post (nI c) (nI (cf_dp c)) (nI (c + 3)) (nI he) (nI he) (nI L) f_maxUrls f_defaultDelay f_clock (nI L) f_urlCount f_hostCount f_ruleCount 0 f_cHost f_cHostLen f_cPq 0 0 a_buffer a_urlPool a_urlStart a_urlLength a_urlState a_urlHost a_urlTime a_names a_nameLength a_hostDelay a_hostNext a_hostSent a_rulePool a_ruleStart a_ruleLength a_ruleHost a_ycanon a_dec a_segS a_segL f (nI k) := by
  intro d
  induction d with
  | zero =>
    intro k f hk hf hpk hj
    have e : k = L := by omega
    subst e
    cases f with
    | zero => omega
    | succ f => exact pk_le k k (fun _ => cy_448 hL hb ht hN hY hc hE hH h58 ⟨hpk, Nat.le_refl _, hj, fun z => by omega⟩) (fun z => by omega)
  | succ d ih =>
    intro k f hk hf hpk hj
    cases f with
    | zero => omega
    | succ f =>
      have tb := ht k
      have go : cf_rk 3 (t k) → wY_parse_435 post (nI c) (nI (cf_dp c)) (nI (c + 3)) (nI he) (nI he) (nI k) f_maxUrls f_defaultDelay f_clock (nI L) f_urlCount f_hostCount f_ruleCount 0 f_cHost f_cHostLen f_cPq 0 0 a_buffer a_urlPool a_urlStart a_urlLength a_urlState a_urlHost a_urlTime a_names a_nameLength a_hostDelay a_hostNext a_hostSent a_rulePool a_ruleStart a_ruleLength a_ruleHost a_ycanon a_dec a_segS a_segL := fun r => cy_448 hL hb ht hN hY hc hE hH h58 ⟨hpk, by omega, hj, fun _ => r⟩
      refine pk_le L k (fun z => by omega) (fun z => ⟨pk_in k 48 (by omega), nm_r (cf_rd hb k) (cf_eqc (t k) 47 rfl (by omega) (fun y => go (cf_rk3.mpr (Or.inl y))) (fun y => cf_eqc (t k) 63 rfl (by omega) (fun y2 => go (cf_rk3.mpr (Or.inr (Or.inl y2)))) (fun y2 => cf_eqc (t k) 35 rfl (by omega) (fun y3 => go (cf_rk3.mpr (Or.inr (Or.inr y3)))) (fun y3 => nm_r (nI_1 k) (ih (k + 1) f (by omega) (by omega) (by omega) (cf_up1 hj (fun w => (cf_rk3.mp w).elim y (fun w => w.elim y2 y3))))))))⟩)
theorem cy_291 {post : Int32 → SY → Prop} {c he : Nat} (hL : L ≤ 48) (hb : ∀ j, a_buffer j = nI (t j)) (ht : ∀ j, t j ≤ 126) (hN : (∀ c he p pE qE po D1 D2, ¬ cf_PS t L c he p pE qE po D1 D2) → ∀ a1 a2 a3 a4 n1 n2 n3 n4 n5 n6, post 0 (f_maxUrls, f_defaultDelay, f_clock, nI L, f_urlCount, f_hostCount, f_ruleCount, n1, n2, n3, n4, n5, n6, a_buffer, a_urlPool, a_urlStart, a_urlLength, a_urlState, a_urlHost, a_urlTime, a_names, a_nameLength, a_hostDelay, a_hostNext, a_hostSent, a_rulePool, a_ruleStart, a_ruleLength, a_ruleHost, a1, a2, a3, a4)) (hY : ∀ c he p pE qE po D1 D2, cf_PS t L c he p pE qE po D1 D2 → ∀ a1 a2 a3 a4 n5 n6, cf_K a1 (cf_out t he po D1 D2).length (cf_out t he po D1 D2) → post 1 (f_maxUrls, f_defaultDelay, f_clock, nI L, f_urlCount, f_hostCount, f_ruleCount, nI (cf_out t he po D1 D2).length, nI (c + 3), nI (he - (c + 3)), nI (he + po.length), n5, n6, a_buffer, a_urlPool, a_urlStart, a_urlLength, a_urlState, a_urlHost, a_urlTime, a_names, a_nameLength, a_hostDelay, a_hostNext, a_hostSent, a_rulePool, a_ruleStart, a_ruleLength, a_ruleHost, a1, a2, a3, a4)) (hc : cf_Sch t L c) (hE : cf_IE 4 t L (c + 3) he) (h1 : c + 3 + 1 ≤ he) (h16 : he ≤ c + 3 + 16) : ∀ d k f, k + d = he → d < f → c + 3 ≤ k → (∀ j, c + 3 ≤ j → j < k → cf_HC (t j)) → wY_parse_291 post (nI c) (nI (cf_dp c)) (nI (c + 3)) (nI he) f_maxUrls f_defaultDelay f_clock (nI L) f_urlCount f_hostCount f_ruleCount 0 f_cHost f_cHostLen f_cPq 0 0 a_buffer a_urlPool a_urlStart a_urlLength a_urlState a_urlHost a_urlTime a_names a_nameLength a_hostDelay a_hostNext a_hostSent a_rulePool a_ruleStart a_ruleLength a_ruleHost a_ycanon a_dec a_segS a_segL f (nI k) := by
  have he2 := hE.2.1
  intro d
  induction d with
  | zero =>
    intro k f hk hf hck hj
    have e : k = he := by omega
    subst e
    cases f with
    | zero => omega
    | succ f =>
      have hH : cf_Ho t (c + 3) k := ⟨h1, h16, hj⟩
      have b3 : cf_dp c ≤ 443 := by unfold cf_dp; split <;> omega
      have e0 : cf_po c (cf_dp c) = [] := by unfold cf_po; rw [if_pos rfl]
      have no : ¬ (k < L ∧ t k = 58) → wY_parse_541 post (nI c) (nI (cf_dp c)) (nI (c + 3)) (nI k) (nI (cf_dp c)) (nI k) f_maxUrls f_defaultDelay f_clock (nI L) f_urlCount f_hostCount f_ruleCount 0 f_cHost f_cHostLen f_cPq 0 0 a_buffer a_urlPool a_urlStart a_urlLength a_urlState a_urlHost a_urlTime a_names a_nameLength a_hostDelay a_hostNext a_hostSent a_rulePool a_ruleStart a_ruleLength a_ruleHost a_ycanon a_dec a_segS a_segL := fun w => cy_541 hL hb ht hN hY hc hE hH (Or.inl ⟨w, rfl, e0⟩) (by omega)
      exact pk_le k k (fun _ => pk_le L k (fun z => no (fun w => by omega)) (fun z => ⟨pk_in k 48 (by omega), cf_eqc (t k) 58 (cf_rd hb k) (by have := ht k; omega) (fun y => nm_r (nI_1 k) ⟨L - (k + 1) + 1, cy_396 hL hb ht hN hY hc hE hH ⟨z, y⟩ (L - (k + 1)) (k + 1) _ (by omega) (by omega) (Nat.le_refl _) (fun j h1 h2 => by omega)⟩) (fun y => no (fun w => y w.2))⟩)) (fun z => by omega)
  | succ d ih =>
    intro k f hk hf hck hj
    cases f with
    | zero => omega
    | succ f =>
      have lb := cf_loB (ht k)
      have go : cf_HC (t k) → wY_parse_291 post (nI c) (nI (cf_dp c)) (nI (c + 3)) (nI he) f_maxUrls f_defaultDelay f_clock (nI L) f_urlCount f_hostCount f_ruleCount 0 f_cHost f_cHostLen f_cPq 0 0 a_buffer a_urlPool a_urlStart a_urlLength a_urlState a_urlHost a_urlTime a_names a_nameLength a_hostDelay a_hostNext a_hostSent a_rulePool a_ruleStart a_ruleLength a_ruleHost a_ycanon a_dec a_segS a_segL f (nI (k + 1)) := fun h => ih (k + 1) f (by omega) (by omega) (by omega) (cf_up1 hj h)
      have f325 : ¬ (97 ≤ cf_lo (t k) ∧ cf_lo (t k) ≤ 122) → wY_parse_325 post (wY_parse_291 post (nI c) (nI (cf_dp c)) (nI (c + 3)) (nI he) f_maxUrls f_defaultDelay f_clock (nI L) f_urlCount f_hostCount f_ruleCount 0 f_cHost f_cHostLen f_cPq 0 0 a_buffer a_urlPool a_urlStart a_urlLength a_urlState a_urlHost a_urlTime a_names a_nameLength a_hostDelay a_hostNext a_hostSent a_rulePool a_ruleStart a_ruleLength a_ruleHost a_ycanon a_dec a_segS a_segL f) (nI c) (nI (cf_dp c)) (nI (c + 3)) (nI he) (nI k) (nI (cf_lo (t k))) f_maxUrls f_defaultDelay f_clock (nI L) f_urlCount f_hostCount f_ruleCount 0 f_cHost f_cHostLen f_cPq 0 0 a_buffer a_urlPool a_urlStart a_urlLength a_urlState a_urlHost a_urlTime a_names a_nameLength a_hostDelay a_hostNext a_hostSent a_rulePool a_ruleStart a_ruleLength a_ruleHost a_ycanon a_dec a_segS a_segL := by
        intro nl
        refine cy_isDigit (cf_lo (t k)) rfl (by omega) (fun y => br_f (by decide) (nm_r (nI_1 k) (go (cf_HCY.mpr (Or.inr (Or.inl y)))))) (fun y => br_t rfl (pk_eq (cf_lo (t k)) 45 (fun y1 => nm_r (nI_1 k) (go (cf_HCY.mpr (Or.inr (Or.inr (Or.inl y1)))))) (fun y1 => pk_eq (cf_lo (t k)) 46 (fun y2 => nm_r (nI_1 k) (go (cf_HCY.mpr (Or.inr (Or.inr (Or.inr y2)))))) (fun y2 => hN (fun c' he' p' pE' qE' po' D1' D2' w => ?_) _ _ _ _ _ _ _ _ _ _))))
        have q := (cf_w3 hc hE w).1.2.2 k hck (by omega)
        have q2 := cf_HCY.mp q
        omega
      exact pk_le he k (fun z => by omega) (fun z => ⟨pk_in k 48 (by omega), cy_low (t k) (cf_rd hb k) (ht k) (pk_lt (cf_lo (t k)) 97 (fun y => f325 (by omega)) (fun y => pk_le (cf_lo (t k)) 122 (fun y2 => nm_r (nI_1 k) (go (cf_HCY.mpr (Or.inl ⟨y, y2⟩)))) (fun y2 => f325 (by omega))))⟩)
theorem cy_269 {post : Int32 → SY → Prop} {c he : Nat} (hL : L ≤ 48) (hb : ∀ j, a_buffer j = nI (t j)) (ht : ∀ j, t j ≤ 126) (hN : (∀ c he p pE qE po D1 D2, ¬ cf_PS t L c he p pE qE po D1 D2) → ∀ a1 a2 a3 a4 n1 n2 n3 n4 n5 n6, post 0 (f_maxUrls, f_defaultDelay, f_clock, nI L, f_urlCount, f_hostCount, f_ruleCount, n1, n2, n3, n4, n5, n6, a_buffer, a_urlPool, a_urlStart, a_urlLength, a_urlState, a_urlHost, a_urlTime, a_names, a_nameLength, a_hostDelay, a_hostNext, a_hostSent, a_rulePool, a_ruleStart, a_ruleLength, a_ruleHost, a1, a2, a3, a4)) (hY : ∀ c he p pE qE po D1 D2, cf_PS t L c he p pE qE po D1 D2 → ∀ a1 a2 a3 a4 n5 n6, cf_K a1 (cf_out t he po D1 D2).length (cf_out t he po D1 D2) → post 1 (f_maxUrls, f_defaultDelay, f_clock, nI L, f_urlCount, f_hostCount, f_ruleCount, nI (cf_out t he po D1 D2).length, nI (c + 3), nI (he - (c + 3)), nI (he + po.length), n5, n6, a_buffer, a_urlPool, a_urlStart, a_urlLength, a_urlState, a_urlHost, a_urlTime, a_names, a_nameLength, a_hostDelay, a_hostNext, a_hostSent, a_rulePool, a_ruleStart, a_ruleLength, a_ruleHost, a1, a2, a3, a4)) (hc : cf_Sch t L c) (hE : cf_IE 4 t L (c + 3) he) : wY_parse_269 post (nI c) (nI (cf_dp c)) (nI (c + 3)) (nI he) f_maxUrls f_defaultDelay f_clock (nI L) f_urlCount f_hostCount f_ruleCount 0 f_cHost f_cHostLen f_cPq 0 0 a_buffer a_urlPool a_urlStart a_urlLength a_urlState a_urlHost a_urlTime a_names a_nameLength a_hostDelay a_hostNext a_hostSent a_rulePool a_ruleStart a_ruleLength a_ruleHost a_ycanon a_dec a_segS a_segL := by
  have he1 := hE.1
  have he2 := hE.2.1
  have es : nI he - nI (c + 3) = nI (he - (c + 3)) := pk_sub he1
  refine pk_lt (he - (c + 3)) 1 (fun z => hN (fun c' he' p' pE' qE' po' D1' D2' w => ?_) _ _ _ _ _ _ _ _ _ _) (fun z => pk_le (he - (c + 3)) 16 (fun z2 => ⟨he - (c + 3) + 1, cy_291 hL hb ht hN hY hc hE (by omega) (by omega) (he - (c + 3)) (c + 3) _ (by omega) (by omega) (Nat.le_refl _) (fun j h1 h2 => by omega)⟩) (fun z2 => hN (fun c' he' p' pE' qE' po' D1' D2' w => ?_) _ _ _ _ _ _ _ _ _ _) es) es
  · have q := (cf_w3 hc hE w).1.1
    omega
  · have q := (cf_w3 hc hE w).1.2.1
    omega
theorem cy_210 {post : Int32 → SY → Prop} {c : Nat} (hL : L ≤ 48) (hb : ∀ j, a_buffer j = nI (t j)) (ht : ∀ j, t j ≤ 126) (hN : (∀ c he p pE qE po D1 D2, ¬ cf_PS t L c he p pE qE po D1 D2) → ∀ a1 a2 a3 a4 n1 n2 n3 n4 n5 n6, post 0 (f_maxUrls, f_defaultDelay, f_clock, nI L, f_urlCount, f_hostCount, f_ruleCount, n1, n2, n3, n4, n5, n6, a_buffer, a_urlPool, a_urlStart, a_urlLength, a_urlState, a_urlHost, a_urlTime, a_names, a_nameLength, a_hostDelay, a_hostNext, a_hostSent, a_rulePool, a_ruleStart, a_ruleLength, a_ruleHost, a1, a2, a3, a4)) (hY : ∀ c he p pE qE po D1 D2, cf_PS t L c he p pE qE po D1 D2 → ∀ a1 a2 a3 a4 n5 n6, cf_K a1 (cf_out t he po D1 D2).length (cf_out t he po D1 D2) → post 1 (f_maxUrls, f_defaultDelay, f_clock, nI L, f_urlCount, f_hostCount, f_ruleCount, nI (cf_out t he po D1 D2).length, nI (c + 3), nI (he - (c + 3)), nI (he + po.length), n5, n6, a_buffer, a_urlPool, a_urlStart, a_urlLength, a_urlState, a_urlHost, a_urlTime, a_names, a_nameLength, a_hostDelay, a_hostNext, a_hostSent, a_rulePool, a_ruleStart, a_ruleLength, a_ruleHost, a1, a2, a3, a4)) (hc : cf_Sch t L c) : ∀ d k f, k + d = L → d < f → c + 3 ≤ k → (∀ j, c + 3 ≤ j → j < k → ¬ cf_rk 4 (t j)) → wY_parse_210 post (nI c) (nI (cf_dp c)) (nI (c + 3)) (nI L) f_maxUrls f_defaultDelay f_clock (nI L) f_urlCount f_hostCount f_ruleCount 0 f_cHost f_cHostLen f_cPq 0 0 a_buffer a_urlPool a_urlStart a_urlLength a_urlState a_urlHost a_urlTime a_names a_nameLength a_hostDelay a_hostNext a_hostSent a_rulePool a_ruleStart a_ruleLength a_ruleHost a_ycanon a_dec a_segS a_segL f (nI k) := by
  intro d
  induction d with
  | zero =>
    intro k f hk hf hpk hj
    have e : k = L := by omega
    subst e
    cases f with
    | zero => omega
    | succ f => exact pk_le k k (fun _ => cy_269 hL hb ht hN hY hc ⟨hpk, Nat.le_refl _, hj, fun z => by omega⟩) (fun z => by omega)
  | succ d ih =>
    intro k f hk hf hpk hj
    cases f with
    | zero => omega
    | succ f =>
      have tb := ht k
      have go : cf_rk 4 (t k) → wY_parse_256 post (nI c) (nI (cf_dp c)) (nI (c + 3)) (nI k) f_maxUrls f_defaultDelay f_clock (nI L) f_urlCount f_hostCount f_ruleCount 0 f_cHost f_cHostLen f_cPq 0 0 a_buffer a_urlPool a_urlStart a_urlLength a_urlState a_urlHost a_urlTime a_names a_nameLength a_hostDelay a_hostNext a_hostSent a_rulePool a_ruleStart a_ruleLength a_ruleHost a_ycanon a_dec a_segS a_segL := fun r => cy_269 hL hb ht hN hY hc ⟨hpk, by omega, hj, fun _ => r⟩
      refine pk_le L k (fun z => by omega) (fun z => ⟨pk_in k 48 (by omega), nm_r (cf_rd hb k) (cf_eqc (t k) 58 rfl (by omega) (fun y => go (cf_rk4.mpr (Or.inl y))) (fun y => cf_eqc (t k) 47 rfl (by omega) (fun y2 => go (cf_rk4.mpr (Or.inr (Or.inl y2)))) (fun y2 => cf_eqc (t k) 63 rfl (by omega) (fun y3 => go (cf_rk4.mpr (Or.inr (Or.inr (Or.inl y3))))) (fun y3 => cf_eqc (t k) 35 rfl (by omega) (fun y4 => go (cf_rk4.mpr (Or.inr (Or.inr (Or.inr y4))))) (fun y4 => nm_r (nI_1 k) (ih (k + 1) f (by omega) (by omega) (by omega) (cf_up1 hj (fun w => (cf_rk4.mp w).elim y (fun w => w.elim y2 (fun w => w.elim y3 y4))))))))))⟩)
theorem cy_158 {post : Int32 → SY → Prop} {c : Nat} (hL : L ≤ 48) (hb : ∀ j, a_buffer j = nI (t j)) (ht : ∀ j, t j ≤ 126) (hN : (∀ c he p pE qE po D1 D2, ¬ cf_PS t L c he p pE qE po D1 D2) → ∀ a1 a2 a3 a4 n1 n2 n3 n4 n5 n6, post 0 (f_maxUrls, f_defaultDelay, f_clock, nI L, f_urlCount, f_hostCount, f_ruleCount, n1, n2, n3, n4, n5, n6, a_buffer, a_urlPool, a_urlStart, a_urlLength, a_urlState, a_urlHost, a_urlTime, a_names, a_nameLength, a_hostDelay, a_hostNext, a_hostSent, a_rulePool, a_ruleStart, a_ruleLength, a_ruleHost, a1, a2, a3, a4)) (hY : ∀ c he p pE qE po D1 D2, cf_PS t L c he p pE qE po D1 D2 → ∀ a1 a2 a3 a4 n5 n6, cf_K a1 (cf_out t he po D1 D2).length (cf_out t he po D1 D2) → post 1 (f_maxUrls, f_defaultDelay, f_clock, nI L, f_urlCount, f_hostCount, f_ruleCount, nI (cf_out t he po D1 D2).length, nI (c + 3), nI (he - (c + 3)), nI (he + po.length), n5, n6, a_buffer, a_urlPool, a_urlStart, a_urlLength, a_urlState, a_urlHost, a_urlTime, a_names, a_nameLength, a_hostDelay, a_hostNext, a_hostSent, a_rulePool, a_ruleStart, a_ruleLength, a_ruleHost, a1, a2, a3, a4)) (hu : ∀ c', cf_Sch t L c' → c' = c) (h5 : c ≤ 5) (hs : c + 2 < L → t (c + 1) = 47 → t (c + 2) = 47 → cf_Sch t L c) : wY_parse_158 post (nI c) (nI (cf_dp c)) f_maxUrls f_defaultDelay f_clock (nI L) f_urlCount f_hostCount f_ruleCount 0 f_cHost f_cHostLen f_cPq 0 0 a_buffer a_urlPool a_urlStart a_urlLength a_urlState a_urlHost a_urlTime a_names a_nameLength a_hostDelay a_hostNext a_hostSent a_rulePool a_ruleStart a_ruleLength a_ruleHost a_ycanon a_dec a_segS a_segL := by
  refine pk_le L (c + 2) (fun z => hN (fun c' he' p' pE' qE' po' D1' D2' w => ?_) _ _ _ _ _ _ _ _ _ _) (fun z => ⟨pk_in (c + 1) 48 (by omega) (nI_1 c), cf_eqc (t (c + 1)) 47 (cf_rd hb (c + 1) (nI_1 c)) (by have := ht (c + 1); omega) (fun y => ⟨pk_in (c + 2) 48 (by omega) (nI_add c 2), cf_eqc (t (c + 2)) 47 (cf_rd hb (c + 2) (nI_add c 2)) (by have := ht (c + 2); omega) (fun y2 => nm_r (nI_add c 3) ⟨L - (c + 3) + 1, cy_210 hL hb ht hN hY (hs z y y2) (L - (c + 3)) (c + 3) _ (by omega) (by omega) (Nat.le_refl _) (fun j h1 h2 => by omega)⟩) (fun y2 => hN (fun c' he' p' pE' qE' po' D1' D2' w => ?_) _ _ _ _ _ _ _ _ _ _)⟩) (fun y => hN (fun c' he' p' pE' qE' po' D1' D2' w => ?_) _ _ _ _ _ _ _ _ _ _)⟩) rfl (nI_add c 2)
  · have e := hu c' w.1
    have q := w.1.2.1
    omega
  · have e := hu c' w.1
    have q := w.1.2.2.2.2.2.2.2.2.2
    rw [e] at q
    exact y2 q
  · have e := hu c' w.1
    have q := w.1.2.2.2.2.2.2.2.2.1
    rw [e] at q
    exact y q
theorem cy_145 {post : Int32 → SY → Prop} {c : Nat} (hL : L ≤ 48) (hb : ∀ j, a_buffer j = nI (t j)) (ht : ∀ j, t j ≤ 126) (hN : (∀ c he p pE qE po D1 D2, ¬ cf_PS t L c he p pE qE po D1 D2) → ∀ a1 a2 a3 a4 n1 n2 n3 n4 n5 n6, post 0 (f_maxUrls, f_defaultDelay, f_clock, nI L, f_urlCount, f_hostCount, f_ruleCount, n1, n2, n3, n4, n5, n6, a_buffer, a_urlPool, a_urlStart, a_urlLength, a_urlState, a_urlHost, a_urlTime, a_names, a_nameLength, a_hostDelay, a_hostNext, a_hostSent, a_rulePool, a_ruleStart, a_ruleLength, a_ruleHost, a1, a2, a3, a4)) (hY : ∀ c he p pE qE po D1 D2, cf_PS t L c he p pE qE po D1 D2 → ∀ a1 a2 a3 a4 n5 n6, cf_K a1 (cf_out t he po D1 D2).length (cf_out t he po D1 D2) → post 1 (f_maxUrls, f_defaultDelay, f_clock, nI L, f_urlCount, f_hostCount, f_ruleCount, nI (cf_out t he po D1 D2).length, nI (c + 3), nI (he - (c + 3)), nI (he + po.length), n5, n6, a_buffer, a_urlPool, a_urlStart, a_urlLength, a_urlState, a_urlHost, a_urlTime, a_names, a_nameLength, a_hostDelay, a_hostNext, a_hostSent, a_rulePool, a_ruleStart, a_ruleLength, a_ruleHost, a1, a2, a3, a4)) (hu : ∀ c', cf_Sch t L c' → c' = c) (h45 : c = 4 ∨ c = 5) (hs : c + 2 < L → t (c + 1) = 47 → t (c + 2) = 47 → cf_Sch t L c) : wY_parse_145 post (nI c) f_maxUrls f_defaultDelay f_clock (nI L) f_urlCount f_hostCount f_ruleCount 0 f_cHost f_cHostLen f_cPq 0 0 a_buffer a_urlPool a_urlStart a_urlLength a_urlState a_urlHost a_urlTime a_names a_nameLength a_hostDelay a_hostNext a_hostSent a_rulePool a_ruleStart a_ruleLength a_ruleHost a_ycanon a_dec a_segS a_segL := by
  rcases h45 with rfl | rfl
  · exact br_t rfl (cy_158 hL hb ht hN hY hu (by omega) hs)
  · exact br_f (by decide) (cy_158 hL hb ht hN hY hu (by omega) hs)
theorem cy_61 {post : Int32 → SY → Prop} {c : Nat} (hL : L ≤ 48) (hb : ∀ j, a_buffer j = nI (t j)) (ht : ∀ j, t j ≤ 126) (hN : (∀ c he p pE qE po D1 D2, ¬ cf_PS t L c he p pE qE po D1 D2) → ∀ a1 a2 a3 a4 n1 n2 n3 n4 n5 n6, post 0 (f_maxUrls, f_defaultDelay, f_clock, nI L, f_urlCount, f_hostCount, f_ruleCount, n1, n2, n3, n4, n5, n6, a_buffer, a_urlPool, a_urlStart, a_urlLength, a_urlState, a_urlHost, a_urlTime, a_names, a_nameLength, a_hostDelay, a_hostNext, a_hostSent, a_rulePool, a_ruleStart, a_ruleLength, a_ruleHost, a1, a2, a3, a4)) (hY : ∀ c he p pE qE po D1 D2, cf_PS t L c he p pE qE po D1 D2 → ∀ a1 a2 a3 a4 n5 n6, cf_K a1 (cf_out t he po D1 D2).length (cf_out t he po D1 D2) → post 1 (f_maxUrls, f_defaultDelay, f_clock, nI L, f_urlCount, f_hostCount, f_ruleCount, nI (cf_out t he po D1 D2).length, nI (c + 3), nI (he - (c + 3)), nI (he + po.length), n5, n6, a_buffer, a_urlPool, a_urlStart, a_urlLength, a_urlState, a_urlHost, a_urlTime, a_names, a_nameLength, a_hostDelay, a_hostNext, a_hostSent, a_rulePool, a_ruleStart, a_ruleLength, a_ruleHost, a1, a2, a3, a4)) (hu : ∀ c', cf_Sch t L c' → c' = c) (h45 : c = 4 ∨ c = 5) (h58 : t c = 58) : wY_parse_61 post (nI c) f_maxUrls f_defaultDelay f_clock (nI L) f_urlCount f_hostCount f_ruleCount 0 f_cHost f_cHostLen f_cPq 0 0 a_buffer a_urlPool a_urlStart a_urlLength a_urlState a_urlHost a_urlTime a_names a_nameLength a_hostDelay a_hostNext a_hostSent a_rulePool a_ruleStart a_ruleLength a_ruleHost a_ycanon a_dec a_segS a_segL := by
  have no : ¬ cf_Sch t L c → ∀ a1 a2 a3 a4 n1 n2 n3 n4 n5 n6, post 0 (f_maxUrls, f_defaultDelay, f_clock, nI L, f_urlCount, f_hostCount, f_ruleCount, n1, n2, n3, n4, n5, n6, a_buffer, a_urlPool, a_urlStart, a_urlLength, a_urlState, a_urlHost, a_urlTime, a_names, a_nameLength, a_hostDelay, a_hostNext, a_hostSent, a_rulePool, a_ruleStart, a_ruleLength, a_ruleHost, a1, a2, a3, a4) := by
    intro h
    refine hN (fun c' he' p' pE' qE' po' D1' D2' w => ?_)
    have e := hu c' w.1
    subst e
    exact h w.1
  have lb : ∀ k, cf_lo (t k) ≤ 70000 := fun k => Nat.le_trans (cf_loB (ht k)) (by decide)
  unfold wY_parse_61
  refine cy_low (t 0) (hb 0) (ht 0) (cf_eqc (cf_lo (t 0)) 104 rfl (lb 0) (fun y0 => cy_low (t 1) (hb 1) (ht 1) (cf_eqc (cf_lo (t 1)) 116 rfl (lb 1) (fun y1 => cy_low (t 2) (hb 2) (ht 2) (cf_eqc (cf_lo (t 2)) 116 rfl (lb 2) (fun y2 => cy_low (t 3) (hb 3) (ht 3) (cf_eqc (cf_lo (t 3)) 112 rfl (lb 3) (fun y3 => pk_eq c 5 (fun z => cy_low (t 4) (hb 4) (ht 4) (cf_eqc (cf_lo (t 4)) 115 rfl (lb 4) (fun y4 => cy_145 hL hb ht hN hY hu h45 (fun z1 z2 z3 => ⟨h45, z1, y0, y1, y2, y3, fun _ => y4, h58, z2, z3⟩)) (fun y4 => no (fun w => y4 (w.2.2.2.2.2.2.1 z)) _ _ _ _ _ _ _ _ _ _))) (fun z => cy_145 hL hb ht hN hY hu h45 (fun z1 z2 z3 => ⟨h45, z1, y0, y1, y2, y3, fun z4 => absurd z4 z, h58, z2, z3⟩))) (fun y3 => no (fun w => y3 w.2.2.2.2.2.1) _ _ _ _ _ _ _ _ _ _))) (fun y2 => no (fun w => y2 w.2.2.2.2.1) _ _ _ _ _ _ _ _ _ _))) (fun y1 => no (fun w => y1 w.2.2.2.1) _ _ _ _ _ _ _ _ _ _))) (fun y0 => no (fun w => y0 w.2.2.1) _ _ _ _ _ _ _ _ _ _))
theorem cy_19 {post : Int32 → SY → Prop} (hL : L ≤ 48) (hb : ∀ j, a_buffer j = nI (t j)) (ht : ∀ j, t j ≤ 126) (hN : (∀ c he p pE qE po D1 D2, ¬ cf_PS t L c he p pE qE po D1 D2) → ∀ a1 a2 a3 a4 n1 n2 n3 n4 n5 n6, post 0 (f_maxUrls, f_defaultDelay, f_clock, nI L, f_urlCount, f_hostCount, f_ruleCount, n1, n2, n3, n4, n5, n6, a_buffer, a_urlPool, a_urlStart, a_urlLength, a_urlState, a_urlHost, a_urlTime, a_names, a_nameLength, a_hostDelay, a_hostNext, a_hostSent, a_rulePool, a_ruleStart, a_ruleLength, a_ruleHost, a1, a2, a3, a4)) (hY : ∀ c he p pE qE po D1 D2, cf_PS t L c he p pE qE po D1 D2 → ∀ a1 a2 a3 a4 n5 n6, cf_K a1 (cf_out t he po D1 D2).length (cf_out t he po D1 D2) → post 1 (f_maxUrls, f_defaultDelay, f_clock, nI L, f_urlCount, f_hostCount, f_ruleCount, nI (cf_out t he po D1 D2).length, nI (c + 3), nI (he - (c + 3)), nI (he + po.length), n5, n6, a_buffer, a_urlPool, a_urlStart, a_urlLength, a_urlState, a_urlHost, a_urlTime, a_names, a_nameLength, a_hostDelay, a_hostNext, a_hostSent, a_rulePool, a_ruleStart, a_ruleLength, a_ruleHost, a1, a2, a3, a4)) : ∀ d k f, k + d = L → d < f → (∀ j, j < k → t j ≠ 58) → wY_parse_19 post (-1) f_maxUrls f_defaultDelay f_clock (nI L) f_urlCount f_hostCount f_ruleCount 0 f_cHost f_cHostLen f_cPq 0 0 a_buffer a_urlPool a_urlStart a_urlLength a_urlState a_urlHost a_urlTime a_names a_nameLength a_hostDelay a_hostNext a_hostSent a_rulePool a_ruleStart a_ruleLength a_ruleHost a_ycanon a_dec a_segS a_segL f (nI k) := by
  have sc : ∀ c', cf_Sch t L c' → c' < L ∧ t c' = 58 ∧ ∀ j, j < c' → t j ≠ 58 := fun c' h => ⟨by have := h.2.1; omega, h.2.2.2.2.2.2.2.1, fun j hj e => (cf_SchE h).2.2.1 j (Nat.zero_le _) hj (cf_rk4.mpr (Or.inl e))⟩
  intro d
  induction d with
  | zero =>
    intro k f hk hf hj
    have e : k = L := by omega
    subst e
    cases f with
    | zero => omega
    | succ f =>
      refine pk_le k k (fun _ => br_f (by decide) (br_f (by decide) (hN (fun c' he' p' pE' qE' po' D1' D2' w => ?_) _ _ _ _ _ _ _ _ _ _))) (fun z => by omega)
      exact hj c' (sc c' w.1).1 (sc c' w.1).2.1
  | succ d ih =>
    intro k f hk hf hj
    cases f with
    | zero => omega
    | succ f =>
      refine pk_le L k (fun z => by omega) (fun z => ⟨pk_in k 48 (by omega), cf_eqc (t k) 58 (cf_rd hb k) (by have := ht k; omega) (fun y => ?_) (fun y => nm_r (nI_1 k) (ih (k + 1) f (by omega) (by omega) (fun j h2 => ?_)))⟩)
      · have hu : ∀ c', cf_Sch t L c' → c' = k := by
          intro c' h
          have q := sc c' h
          rcases Nat.lt_trichotomy c' k with x | x | x
          · exact absurd q.2.1 (hj c' x)
          · exact x
          · exact absurd y (q.2.2 k x)
        refine pk_eq k 4 (fun z => cy_61 hL hb ht hN hY hu (Or.inl z) y) (fun z1 => pk_eq k 5 (fun z => cy_61 hL hb ht hN hY hu (Or.inr z) y) (fun z2 => hN (fun c' he' p' pE' qE' po' D1' D2' w => ?_) _ _ _ _ _ _ _ _ _ _))
        have e := hu c' w.1
        have q := w.1.1
        omega
      · rcases Nat.lt_or_ge j k with x | x
        · exact hj j x
        · have e : j = k := by omega
          rw [e]
          exact y
theorem cy_parse {post : Int32 → SY → Prop} (hL : L ≤ 48) (hb : ∀ j, a_buffer j = nI (t j)) (ht : ∀ j, t j ≤ 126) (hN : (∀ c he p pE qE po D1 D2, ¬ cf_PS t L c he p pE qE po D1 D2) → ∀ a1 a2 a3 a4 n1 n2 n3 n4 n5 n6, post 0 (f_maxUrls, f_defaultDelay, f_clock, nI L, f_urlCount, f_hostCount, f_ruleCount, n1, n2, n3, n4, n5, n6, a_buffer, a_urlPool, a_urlStart, a_urlLength, a_urlState, a_urlHost, a_urlTime, a_names, a_nameLength, a_hostDelay, a_hostNext, a_hostSent, a_rulePool, a_ruleStart, a_ruleLength, a_ruleHost, a1, a2, a3, a4)) (hY : ∀ c he p pE qE po D1 D2, cf_PS t L c he p pE qE po D1 D2 → ∀ a1 a2 a3 a4 n5 n6, cf_K a1 (cf_out t he po D1 D2).length (cf_out t he po D1 D2) → post 1 (f_maxUrls, f_defaultDelay, f_clock, nI L, f_urlCount, f_hostCount, f_ruleCount, nI (cf_out t he po D1 D2).length, nI (c + 3), nI (he - (c + 3)), nI (he + po.length), n5, n6, a_buffer, a_urlPool, a_urlStart, a_urlLength, a_urlState, a_urlHost, a_urlTime, a_names, a_nameLength, a_hostDelay, a_hostNext, a_hostSent, a_rulePool, a_ruleStart, a_ruleLength, a_ruleHost, a1, a2, a3, a4)) : wpY_parse post (f_maxUrls, f_defaultDelay, f_clock, nI L, f_urlCount, f_hostCount, f_ruleCount, f_cLen, f_cHost, f_cHostLen, f_cPq, f_decLen, f_segN, a_buffer, a_urlPool, a_urlStart, a_urlLength, a_urlState, a_urlHost, a_urlTime, a_names, a_nameLength, a_hostDelay, a_hostNext, a_hostSent, a_rulePool, a_ruleStart, a_ruleLength, a_ruleHost, a_ycanon, a_dec, a_segS, a_segL) :=
  ⟨L + 1, cy_19 hL hb ht hN hY L 0 _ (Nat.zero_add _) (by omega) (fun j h => absurd h (Nat.not_lt_zero j))⟩
end
