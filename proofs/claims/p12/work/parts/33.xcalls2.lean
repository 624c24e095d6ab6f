/-! the class: disallow and setDelay (made by mk33.py) -/
section
variable {f_maxUrls f_defaultDelay f_clock f_bufferLength f_canonLength f_canonHost f_canonHostLength f_canonPath f_schemePort f_partLength f_urlCount f_urlChars f_hostCount f_ruleCount f_ruleChars : Int32} {a_buffer a_canon a_part a_urlPool a_urlStart a_urlLength a_urlPath a_urlHost a_urlState a_urlTime a_names a_nameLength a_hostDelay a_hostNext a_rulePool a_ruleStart a_ruleLength a_ruleHost : Nat → Int32}
variable {t : Nat → Nat} {L : Nat}
theorem cx_disallow {post : Int32 → St2 → Prop} {uc hc rc rch : Nat} (hL : L ≤ 48) (hb : ∀ j, a_buffer j = nI (t j)) (ht : ∀ j, t j ≤ 126) (h32 : uc ≤ 32) (h8 : hc ≤ 8) (hr8 : rc ≤ 8) (hrch : rch ≤ 128) (hU : ∀ u, u < uc → ∃ s m p, a_urlStart u = nI s ∧ a_urlLength u = nI m ∧ a_urlPath u = nI p ∧ p ≤ m ∧ s + m ≤ 256) (hR : ∀ r, r < rc → ∃ s m, a_ruleStart r = nI s ∧ a_ruleLength r = nI m ∧ s + m ≤ 128)
    (hN : (∀ c he p pE qE po D1 D2, ¬ cf_PS t L c he p pE qE po D1 D2) → ∀ a1 a2 n1 n2 n3 n4 n5 n6, post (-1) (f_maxUrls, f_defaultDelay, f_clock, 0, n1, n2, n3, n4, n5, n6, nI uc, f_urlChars, nI hc, nI rc, nI rch, a_buffer, a1, a2, a_urlPool, a_urlStart, a_urlLength, a_urlPath, a_urlHost, a_urlState, a_urlTime, a_names, a_nameLength, a_hostDelay, a_hostNext, a_rulePool, a_ruleStart, a_ruleLength, a_ruleHost))
    (hRf : ∀ c he p pE qE po D1 D2 n H HL P, cf_PS t L c he p pE qE po D1 D2 → n = (cf_out t he po D1 D2).length → H = c + 3 → HL = he - (c + 3) → P = he + po.length → ∀ a1, cf_K a1 n (cf_out t he po D1 D2) → ∀ r, cf_Rf False (cf_FF (cf_Ph a_names a_nameLength a1 H HL) hc) (fun x => ∃ r, r < rc ∧ cf_Pe a_rulePool a_ruleStart a_ruleLength a_ruleHost a1 P n x r) (-2) (8 ≤ rc ∨ 128 < rch + (n - P)) hc r → ∀ a2 n5 n6, post r (f_maxUrls, f_defaultDelay, f_clock, 0, nI n, nI H, nI HL, nI P, n5, n6, nI uc, f_urlChars, nI hc, nI rc, nI rch, a_buffer, a1, a2, a_urlPool, a_urlStart, a_urlLength, a_urlPath, a_urlHost, a_urlState, a_urlTime, a_names, a_nameLength, a_hostDelay, a_hostNext, a_rulePool, a_ruleStart, a_ruleLength, a_ruleHost))
    (hA : ∀ c he p pE qE po D1 D2 n H HL P, cf_PS t L c he p pE qE po D1 D2 → n = (cf_out t he po D1 D2).length → H = c + 3 → HL = he - (c + 3) → P = he + po.length → ∀ a1, cf_K a1 n (cf_out t he po D1 D2) → ∀ x, cf_Ac False (cf_FF (cf_Ph a_names a_nameLength a1 H HL) hc) (fun x => ∃ r, r < rc ∧ cf_Pe a_rulePool a_ruleStart a_ruleLength a_ruleHost a1 P n x r) (8 ≤ rc ∨ 128 < rch + (n - P)) hc x →
      (∀ h, h < hc → x = nI h → ∀ a2 n5 n6, post (nI (cf_bk (cf_M a_urlPool a_urlStart a_urlLength a_urlPath a_urlHost (cf_cp a_rulePool rch a1 P (n - P)) (upd a_ruleStart rc (nI rch)) (upd a_ruleLength rc (nI (n - P))) (upd a_ruleHost rc (nI h)) rc) a_urlState uc).2) (f_maxUrls, f_defaultDelay, f_clock, 0, nI n, nI H, nI HL, nI P, n5, n6, nI uc, f_urlChars, nI hc, nI (rc + 1), nI (rch + (n - P)), a_buffer, a1, a2, a_urlPool, a_urlStart, a_urlLength, a_urlPath, a_urlHost, (cf_bk (cf_M a_urlPool a_urlStart a_urlLength a_urlPath a_urlHost (cf_cp a_rulePool rch a1 P (n - P)) (upd a_ruleStart rc (nI rch)) (upd a_ruleLength rc (nI (n - P))) (upd a_ruleHost rc (nI h)) rc) a_urlState uc).1, a_urlTime, a_names, a_nameLength, a_hostDelay, a_hostNext, cf_cp a_rulePool rch a1 P (n - P), upd a_ruleStart rc (nI rch), upd a_ruleLength rc (nI (n - P)), upd a_ruleHost rc (nI h))) ∧
      (x = -1 → ∀ a2 n5 n6, post (nI (cf_bk (cf_M a_urlPool a_urlStart a_urlLength a_urlPath a_urlHost (cf_cp a_rulePool rch a1 P (n - P)) (upd a_ruleStart rc (nI rch)) (upd a_ruleLength rc (nI (n - P))) (upd a_ruleHost rc (nI hc)) rc) a_urlState uc).2) (f_maxUrls, f_defaultDelay, f_clock, 0, nI n, nI H, nI HL, nI P, n5, n6, nI uc, f_urlChars, nI (hc + 1), nI (rc + 1), nI (rch + (n - P)), a_buffer, a1, a2, a_urlPool, a_urlStart, a_urlLength, a_urlPath, a_urlHost, (cf_bk (cf_M a_urlPool a_urlStart a_urlLength a_urlPath a_urlHost (cf_cp a_rulePool rch a1 P (n - P)) (upd a_ruleStart rc (nI rch)) (upd a_ruleLength rc (nI (n - P))) (upd a_ruleHost rc (nI hc)) rc) a_urlState uc).1, a_urlTime, cf_cp a_names (hc * 16) a1 H HL, upd a_nameLength hc (nI HL), upd a_hostDelay hc f_defaultDelay, upd a_hostNext hc 0, cf_cp a_rulePool rch a1 P (n - P), upd a_ruleStart rc (nI rch), upd a_ruleLength rc (nI (n - P)), upd a_ruleHost rc (nI hc)))) :
    wpX_disallow post (f_maxUrls, f_defaultDelay, f_clock, nI L, f_canonLength, f_canonHost, f_canonHostLength, f_canonPath, f_schemePort, f_partLength, nI uc, f_urlChars, nI hc, nI rc, nI rch, a_buffer, a_canon, a_part, a_urlPool, a_urlStart, a_urlLength, a_urlPath, a_urlHost, a_urlState, a_urlTime, a_names, a_nameLength, a_hostDelay, a_hostNext, a_rulePool, a_ruleStart, a_ruleLength, a_ruleHost) := by
  unfold wpX_disallow
  dsimp only
  refine cx_canon hL hb ht (fun h a1 a2 n1 n2 n3 n4 n5 n6 => br_t rfl (hN h _ _ _ _ _ _ _ _)) (fun c he p pE qE po D1 D2 ps a1 a2 n5 n6 hK => br_f (by decide) ?_)
  have bo := cf_outB ht hL ps
  have ol := cf_outL (t := t) (he := he) (po := po) (D1 := D1) (D2 := D2)
  have hRf' := hRf c he p pE qE po D1 D2 _ _ _ _ ps rfl rfl rfl rfl a1 hK
  have hA' := hA c he p pE qE po D1 D2 _ _ _ _ ps rfl rfl rfl rfl a1 hK
  have hpn : he + po.length ≤ (cf_out t he po D1 D2).length := by omega
  have hhl : he - (c + 3) ≤ 16 := by omega
  have hhn : c + 3 + (he - (c + 3)) ≤ 49 := by omega
  have hn49 : (cf_out t he po D1 D2).length ≤ 49 := by omega
  generalize (cf_out t he po D1 D2).length = n at *
  generalize he + po.length = P at *
  generalize c + 3 = H at *
  generalize he - H = HL at *
  refine cx_findHost h8 hhl hhn (fun x fx => cx_isRule hR hr8 hn49 hpn (fun q => br_f (by decide) (hRf' _ (Or.inr ⟨id, x, fx, Or.inl ⟨q, rfl⟩⟩) _ _ _)) (fun q => br_t rfl ?_))
  have nq : ¬ (∃ r, r < rc ∧ cf_Pe a_rulePool a_ruleStart a_ruleLength a_ruleHost a1 P n x r) := fun w => by
    obtain ⟨r, hr, w⟩ := w
    exact q r hr w
  have es : (nI rch + nI n) - nI P = nI (rch + (n - P)) := by
    rw [nI_add, pk_sub (by omega)]
    exact congrArg nI (by omega)
  refine pk_le 8 rc (fun z => hRf' _ (Or.inr ⟨id, x, fx, Or.inr ⟨nq, Or.inl ⟨Or.inl z, rfl⟩⟩⟩) _ _ _) (fun z => pk_le (rch + (n - P)) 128 (fun z2 => ?_) (fun z2 => hRf' _ (Or.inr ⟨id, x, fx, Or.inr ⟨nq, Or.inl ⟨Or.inr z2, rfl⟩⟩⟩) _ _ _) es)
  have nf : ¬ (8 ≤ rc ∨ 128 < rch + (n - P)) := by omega
  have fx2 := fx
  rcases fx with ⟨h, hh, -, -, rfl⟩ | ⟨-, rfl⟩
  · have g := (hA' _ ⟨id, fx2, nq, nf, fun w => absurd w (cf_m1 (by omega))⟩).1 h hh rfl
    refine br_f (cf_m1 (by omega)) (br_f (cf_m1 (by omega)) (cx_addRule z hpn (by omega) (by omega) (cx_block (M := (cf_M a_urlPool a_urlStart a_urlLength a_urlPath a_urlHost (cf_cp a_rulePool rch a1 P (n - P)) (upd a_ruleStart rc (nI rch)) (upd a_ruleLength rc (nI (n - P))) (upd a_ruleHost rc (nI h)) rc)) (x := 0) h32 (fun us u p hu k1 k0 => ?_) (g _ _ _))))
    obtain ⟨s, m, p0, e1, e2, e3, e4, e5⟩ := hU u hu
    exact cx_matches (by omega) z e1 e2 e3 e4 e5 pk_us pk_us (by omega) k1 k0
  · rcases Nat.lt_or_ge hc 8 with y | y
    · have g := (hA' _ ⟨id, fx2, nq, nf, fun _ => y⟩).2 rfl
      refine cx_newHost y hhl hhn (br_f (cf_m1 (by omega)) (cx_addRule z hpn (by omega) (by omega) (cx_block (M := (cf_M a_urlPool a_urlStart a_urlLength a_urlPath a_urlHost (cf_cp a_rulePool rch a1 P (n - P)) (upd a_ruleStart rc (nI rch)) (upd a_ruleLength rc (nI (n - P))) (upd a_ruleHost rc (nI hc)) rc)) (x := 0) h32 (fun us u p hu k1 k0 => ?_) (g _ _ _))))
      obtain ⟨s, m, p0, e1, e2, e3, e4, e5⟩ := hU u hu
      exact cx_matches (by omega) z e1 e2 e3 e4 e5 pk_us pk_us (by omega) k1 k0
    · exact br_t rfl (pk_lt hc 8 (fun w => by omega) (fun _ => br_t rfl (hRf' _ (Or.inr ⟨id, _, fx2, Or.inr ⟨nq, Or.inr ⟨nf, rfl, y, rfl⟩⟩⟩) _ _ _)))
theorem cx_setDelay {post : Int32 → St2 → Prop} {hc : Nat} {v : Int32} (hL : L ≤ 48) (hb : ∀ j, a_buffer j = nI (t j)) (ht : ∀ j, t j ≤ 126) (h8 : hc ≤ 8) (hv1 : ¬ v < 1) (hv2 : v ≤ 16)
    (hN : (∀ c he p pE qE po D1 D2, ¬ cf_PS t L c he p pE qE po D1 D2) → ∀ a1 a2 n1 n2 n3 n4 n5 n6, post (-1) (f_maxUrls, f_defaultDelay, f_clock, 0, n1, n2, n3, n4, n5, n6, f_urlCount, f_urlChars, nI hc, f_ruleCount, f_ruleChars, a_buffer, a1, a2, a_urlPool, a_urlStart, a_urlLength, a_urlPath, a_urlHost, a_urlState, a_urlTime, a_names, a_nameLength, a_hostDelay, a_hostNext, a_rulePool, a_ruleStart, a_ruleLength, a_ruleHost))
    (hRf : ∀ c he p pE qE po D1 D2 n H HL P, cf_PS t L c he p pE qE po D1 D2 → n = (cf_out t he po D1 D2).length → H = c + 3 → HL = he - (c + 3) → P = he + po.length → ∀ a1, cf_K a1 n (cf_out t he po D1 D2) → ∀ r, cf_Rf False (cf_FF (cf_Ph a_names a_nameLength a1 H HL) hc) (fun _ => False) 0 False hc r → ∀ a2 n5 n6, post r (f_maxUrls, f_defaultDelay, f_clock, 0, nI n, nI H, nI HL, nI P, n5, n6, f_urlCount, f_urlChars, nI hc, f_ruleCount, f_ruleChars, a_buffer, a1, a2, a_urlPool, a_urlStart, a_urlLength, a_urlPath, a_urlHost, a_urlState, a_urlTime, a_names, a_nameLength, a_hostDelay, a_hostNext, a_rulePool, a_ruleStart, a_ruleLength, a_ruleHost))
    (hA : ∀ c he p pE qE po D1 D2 n H HL P, cf_PS t L c he p pE qE po D1 D2 → n = (cf_out t he po D1 D2).length → H = c + 3 → HL = he - (c + 3) → P = he + po.length → ∀ a1, cf_K a1 n (cf_out t he po D1 D2) → ∀ x, cf_Ac False (cf_FF (cf_Ph a_names a_nameLength a1 H HL) hc) (fun _ => False) False hc x →
      (∀ h, h < hc → x = nI h → ∀ a2 n5 n6, post (nI h) (f_maxUrls, f_defaultDelay, f_clock, 0, nI n, nI H, nI HL, nI P, n5, n6, f_urlCount, f_urlChars, nI hc, f_ruleCount, f_ruleChars, a_buffer, a1, a2, a_urlPool, a_urlStart, a_urlLength, a_urlPath, a_urlHost, a_urlState, a_urlTime, a_names, a_nameLength, upd a_hostDelay h v, a_hostNext, a_rulePool, a_ruleStart, a_ruleLength, a_ruleHost)) ∧
      (x = -1 → ∀ a2 n5 n6, post (nI hc) (f_maxUrls, f_defaultDelay, f_clock, 0, nI n, nI H, nI HL, nI P, n5, n6, f_urlCount, f_urlChars, nI (hc + 1), f_ruleCount, f_ruleChars, a_buffer, a1, a2, a_urlPool, a_urlStart, a_urlLength, a_urlPath, a_urlHost, a_urlState, a_urlTime, cf_cp a_names (hc * 16) a1 H HL, upd a_nameLength hc (nI HL), upd (upd a_hostDelay hc f_defaultDelay) hc v, upd a_hostNext hc 0, a_rulePool, a_ruleStart, a_ruleLength, a_ruleHost))) :
    wpX_setDelay post (f_maxUrls, f_defaultDelay, f_clock, nI L, f_canonLength, f_canonHost, f_canonHostLength, f_canonPath, f_schemePort, f_partLength, f_urlCount, f_urlChars, nI hc, f_ruleCount, f_ruleChars, a_buffer, a_canon, a_part, a_urlPool, a_urlStart, a_urlLength, a_urlPath, a_urlHost, a_urlState, a_urlTime, a_names, a_nameLength, a_hostDelay, a_hostNext, a_rulePool, a_ruleStart, a_ruleLength, a_ruleHost) v := by
  refine br_f hv1 (br_t hv2 ?_)
  refine cx_canon hL hb ht (fun h a1 a2 n1 n2 n3 n4 n5 n6 => br_t rfl (hN h _ _ _ _ _ _ _ _)) (fun c he p pE qE po D1 D2 ps a1 a2 n5 n6 hK => br_f (by decide) ?_)
  have bo := cf_outB ht hL ps
  have hRf' := hRf c he p pE qE po D1 D2 _ _ _ _ ps rfl rfl rfl rfl a1 hK
  have hA' := hA c he p pE qE po D1 D2 _ _ _ _ ps rfl rfl rfl rfl a1 hK
  have hhl : he - (c + 3) ≤ 16 := by omega
  have hhn : c + 3 + (he - (c + 3)) ≤ 49 := by omega
  refine cx_findHost h8 hhl hhn (fun x fx => ?_)
  have fx2 := fx
  rcases fx with ⟨h, hh, -, -, rfl⟩ | ⟨-, rfl⟩
  · have g := (hA' _ ⟨id, fx2, id, id, fun w => absurd w (cf_m1 (by omega))⟩).1 h hh rfl
    exact br_f (cf_m1 (by omega)) (br_f (cf_m1 (by omega)) ⟨pk_in h 8 (by omega), nm_r (e' := upd a_hostDelay h v) (by rw [pk_cl h]) (g _ _ _)⟩)
  · rcases Nat.lt_or_ge hc 8 with y | y
    · have g := (hA' _ ⟨id, fx2, id, id, fun _ => y⟩).2 rfl
      exact cx_newHost y hhl hhn (br_f (cf_m1 (by omega)) ⟨pk_in hc 8 y, nm_r (e' := upd (upd a_hostDelay hc f_defaultDelay) hc v) (by rw [pk_cl hc]) (g _ _ _)⟩)
    · exact br_t rfl (pk_lt hc 8 (fun w => by omega) (fun _ => br_t rfl (hRf' _ (Or.inr ⟨id, _, fx2, Or.inr ⟨id, Or.inr ⟨id, rfl, y, rfl⟩⟩⟩) _ _ _)))
end
