/-! what a call decides, and the class's three calls -/
def cf_Rf (D : Prop) (F Q : Int32 → Prop) (q : Int32) (Fu : Prop) (hc : Nat) (r : Int32) : Prop := (D ∧ r = -2) ∨ (¬ D ∧ ∃ x, F x ∧ ((Q x ∧ r = q) ∨ (¬ Q x ∧ ((Fu ∧ r = -4) ∨ (¬ Fu ∧ x = -1 ∧ 8 ≤ hc ∧ r = -5)))))
def cf_Ac (D : Prop) (F Q : Int32 → Prop) (Fu : Prop) (hc : Nat) (x : Int32) : Prop := ¬ D ∧ F x ∧ ¬ Q x ∧ ¬ Fu ∧ (x = -1 → hc < 8)
theorem cf_Rfu {D : Prop} {F Q : Int32 → Prop} {q : Int32} {Fu : Prop} {hc : Nat} {r r' : Int32} (hF : ∀ x y, F x → F y → x = y) (h : cf_Rf D F Q q Fu hc r) (h' : cf_Rf D F Q q Fu hc r') : r = r' := by
  rcases h with ⟨a, e⟩ | ⟨a, x, fx, b⟩ <;> rcases h' with ⟨a', e'⟩ | ⟨a', x', fx', b'⟩
  · rw [e, e']
  · exact absurd a a'
  · exact absurd a' a
  · have ex := hF x x' fx fx'
    subst ex
    rcases b with ⟨b, e⟩ | ⟨b, d⟩ <;> rcases b' with ⟨b', e'⟩ | ⟨b', d'⟩
    · rw [e, e']
    · exact absurd b b'
    · exact absurd b' b
    · rcases d with ⟨d, e⟩ | ⟨d, -, -, e⟩ <;> rcases d' with ⟨d', e'⟩ | ⟨d', -, -, e'⟩
      · rw [e, e']
      · exact absurd d d'
      · exact absurd d' d
      · rw [e, e']
theorem cf_RA {D : Prop} {F Q : Int32 → Prop} {q : Int32} {Fu : Prop} {hc : Nat} {r x : Int32} (hF : ∀ x y, F x → F y → x = y) (h : cf_Rf D F Q q Fu hc r) (h' : cf_Ac D F Q Fu hc x) : False := by
  obtain ⟨a1, a2, a3, a4, a5⟩ := h'
  rcases h with ⟨a, e⟩ | ⟨a, y, fy, b⟩
  · exact a1 a
  · have ex := hF y x fy a2
    subst ex
    rcases b with ⟨b, e⟩ | ⟨b, d⟩
    · exact a3 b
    · rcases d with ⟨d, e⟩ | ⟨d, e1, e2, -⟩
      · exact a4 d
      · have := a5 e1
        omega
theorem cf_Rfc {D D' : Prop} {F F' Q Q' : Int32 → Prop} {q : Int32} {Fu : Prop} {hc : Nat} {r : Int32} (hD : D ↔ D') (hF : ∀ x, F x ↔ F' x) (hQ : ∀ x, Q x ↔ Q' x) (h : cf_Rf D F Q q Fu hc r) : cf_Rf D' F' Q' q Fu hc r := by
  rcases h with ⟨a, e⟩ | ⟨a, y, fy, b⟩
  · exact Or.inl ⟨hD.mp a, e⟩
  · refine Or.inr ⟨fun w => a (hD.mpr w), y, (hF y).mp fy, ?_⟩
    rcases b with ⟨b, e⟩ | ⟨b, d⟩
    · exact Or.inl ⟨(hQ y).mp b, e⟩
    · exact Or.inr ⟨fun w => b ((hQ y).mpr w), d⟩
theorem cf_Acc {D D' : Prop} {F F' Q Q' : Int32 → Prop} {Fu : Prop} {hc : Nat} {x : Int32} (hD : D ↔ D') (hF : ∀ x, F x ↔ F' x) (hQ : ∀ x, Q x ↔ Q' x) (h : cf_Ac D F Q Fu hc x) : cf_Ac D' F' Q' Fu hc x :=
  ⟨fun w => h.1 (hD.mpr w), (hF x).mp h.2.1, fun w => h.2.2.1 ((hQ x).mpr w), h.2.2.2⟩
section
variable {f_maxUrls f_defaultDelay f_clock f_bufferLength f_canonLength f_canonHost f_canonHostLength f_canonPath f_schemePort f_partLength f_urlCount f_urlChars f_hostCount f_ruleCount f_ruleChars : Int32} {a_buffer a_canon a_part a_urlPool a_urlStart a_urlLength a_urlPath a_urlHost a_urlState a_urlTime a_names a_nameLength a_hostDelay a_hostNext a_rulePool a_ruleStart a_ruleLength a_ruleHost : Nat → Int32}
variable {t : Nat → Nat} {L : Nat}
theorem cx_submit {post : Int32 → St2 → Prop} {mu uc uch hc rc : Nat} (hL : L ≤ 48) (hb : ∀ j, a_buffer j = nI (t j)) (ht : ∀ j, t j ≤ 126) (h32 : mu ≤ 32) (hum : uc ≤ mu) (hch : uch ≤ 256) (h8 : hc ≤ 8) (hr8 : rc ≤ 8) (hU : ∀ u, u < uc → ∃ s m, a_urlStart u = nI s ∧ a_urlLength u = nI m ∧ s + m ≤ 256) (hR : ∀ r, r < rc → ∃ s m, a_ruleStart r = nI s ∧ a_ruleLength r = nI m ∧ s + m ≤ 128)
    (hN : (∀ c he p pE qE po D1 D2, ¬ cf_PS t L c he p pE qE po D1 D2) → ∀ a1 a2 n1 n2 n3 n4 n5 n6, post (-1) (nI mu, f_defaultDelay, f_clock, 0, n1, n2, n3, n4, n5, n6, nI uc, nI uch, nI hc, nI rc, f_ruleChars, a_buffer, a1, a2, a_urlPool, a_urlStart, a_urlLength, a_urlPath, a_urlHost, a_urlState, a_urlTime, a_names, a_nameLength, a_hostDelay, a_hostNext, a_rulePool, a_ruleStart, a_ruleLength, a_ruleHost))
    (hRf : ∀ c he p pE qE po D1 D2 n H HL P, cf_PS t L c he p pE qE po D1 D2 → n = (cf_out t he po D1 D2).length → H = c + 3 → HL = he - (c + 3) → P = he + po.length → ∀ a1, cf_K a1 n (cf_out t he po D1 D2) → ∀ r, cf_Rf (∃ u, u < uc ∧ cf_Dup a_urlPool a_urlStart a_urlLength a1 n u) (cf_FF (cf_Ph a_names a_nameLength a1 H HL) hc) (fun x => ∃ r, r < rc ∧ cf_Pr a_rulePool a_ruleStart a_ruleLength a_ruleHost a1 P n x r) (-3) (mu ≤ uc ∨ 256 < uch + n) hc r → ∀ a2 n5 n6, post r (nI mu, f_defaultDelay, f_clock, 0, nI n, nI H, nI HL, nI P, n5, n6, nI uc, nI uch, nI hc, nI rc, f_ruleChars, a_buffer, a1, a2, a_urlPool, a_urlStart, a_urlLength, a_urlPath, a_urlHost, a_urlState, a_urlTime, a_names, a_nameLength, a_hostDelay, a_hostNext, a_rulePool, a_ruleStart, a_ruleLength, a_ruleHost))
    (hA : ∀ c he p pE qE po D1 D2 n H HL P, cf_PS t L c he p pE qE po D1 D2 → n = (cf_out t he po D1 D2).length → H = c + 3 → HL = he - (c + 3) → P = he + po.length → ∀ a1, cf_K a1 n (cf_out t he po D1 D2) → ∀ x, cf_Ac (∃ u, u < uc ∧ cf_Dup a_urlPool a_urlStart a_urlLength a1 n u) (cf_FF (cf_Ph a_names a_nameLength a1 H HL) hc) (fun x => ∃ r, r < rc ∧ cf_Pr a_rulePool a_ruleStart a_ruleLength a_ruleHost a1 P n x r) (mu ≤ uc ∨ 256 < uch + n) hc x →
      (∀ h, h < hc → x = nI h → ∀ a2 n5 n6, post (nI uc) (nI mu, f_defaultDelay, f_clock, 0, nI n, nI H, nI HL, nI P, n5, n6, nI (uc + 1), nI (uch + n), nI hc, nI rc, f_ruleChars, a_buffer, a1, a2, cf_cp a_urlPool uch a1 0 n, upd a_urlStart uc (nI uch), upd a_urlLength uc (nI n), upd a_urlPath uc (nI P), upd a_urlHost uc (nI h), upd a_urlState uc 1, upd a_urlTime uc (-1), a_names, a_nameLength, a_hostDelay, a_hostNext, a_rulePool, a_ruleStart, a_ruleLength, a_ruleHost)) ∧
      (x = -1 → ∀ a2 n5 n6, post (nI uc) (nI mu, f_defaultDelay, f_clock, 0, nI n, nI H, nI HL, nI P, n5, n6, nI (uc + 1), nI (uch + n), nI (hc + 1), nI rc, f_ruleChars, a_buffer, a1, a2, cf_cp a_urlPool uch a1 0 n, upd a_urlStart uc (nI uch), upd a_urlLength uc (nI n), upd a_urlPath uc (nI P), upd a_urlHost uc (nI hc), upd a_urlState uc 1, upd a_urlTime uc (-1), cf_cp a_names (hc * 16) a1 H HL, upd a_nameLength hc (nI HL), upd a_hostDelay hc f_defaultDelay, upd a_hostNext hc 0, a_rulePool, a_ruleStart, a_ruleLength, a_ruleHost))) :
    wpX_submit post (nI mu, f_defaultDelay, f_clock, nI L, f_canonLength, f_canonHost, f_canonHostLength, f_canonPath, f_schemePort, f_partLength, nI uc, nI uch, nI hc, nI rc, f_ruleChars, a_buffer, a_canon, a_part, a_urlPool, a_urlStart, a_urlLength, a_urlPath, a_urlHost, a_urlState, a_urlTime, a_names, a_nameLength, a_hostDelay, a_hostNext, a_rulePool, a_ruleStart, a_ruleLength, a_ruleHost) := by
  unfold wpX_submit
  dsimp only
  refine cx_canon hL hb ht (fun h a1 a2 n1 n2 n3 n4 n5 n6 => br_t rfl (hN h _ _ _ _ _ _ _ _)) (fun c he p pE qE po D1 D2 ps a1 a2 n5 n6 hK => br_f (by decide) ?_)
  have bo := cf_outB ht hL ps
  have ol := cf_outL (t := t) (he := he) (po := po) (D1 := D1) (D2 := D2)
  have hRf' := hRf c he p pE qE po D1 D2 _ _ _ _ ps rfl rfl rfl rfl a1 hK
  have hA' := hA c he p pE qE po D1 D2 _ _ _ _ ps rfl rfl rfl rfl a1 hK
  generalize (cf_out t he po D1 D2).length = n at *
  refine cx_isAdmitted hU (by omega) (by omega) (fun d => br_f (by decide) (hRf' _ (Or.inl ⟨d, rfl⟩) _ _ _)) (fun d => br_t rfl (cx_findHost h8 (by omega) (by omega) (fun x fx => ?_)))
  have nd : ¬ (∃ u, u < uc ∧ cf_Dup a_urlPool a_urlStart a_urlLength a1 n u) := fun w => by
    obtain ⟨u, hu, w⟩ := w
    exact d u hu w
  refine cx_isDisallowed hR hr8 (by omega) (by omega) (fun q => br_f (by decide) (hRf' _ (Or.inr ⟨nd, x, fx, Or.inl ⟨q, rfl⟩⟩) _ _ _)) (fun q => br_t rfl ?_)
  have nq : ¬ (∃ r, r < rc ∧ cf_Pr a_rulePool a_ruleStart a_ruleLength a_ruleHost a1 (he + po.length) n x r) := fun w => by
    obtain ⟨r, hr, w⟩ := w
    exact q r hr w
  refine pk_le mu uc (fun z => hRf' _ (Or.inr ⟨nd, x, fx, Or.inr ⟨nq, Or.inl ⟨Or.inl z, rfl⟩⟩⟩) _ _ _) (fun z => pk_le (uch + n) 256 (fun z2 => ?_) (fun z2 => hRf' _ (Or.inr ⟨nd, x, fx, Or.inr ⟨nq, Or.inl ⟨Or.inr z2, rfl⟩⟩⟩) _ _ _) (nI_add uch n))
  have nf : ¬ (mu ≤ uc ∨ 256 < uch + n) := by omega
  have fx2 := fx
  rcases fx with ⟨h, hh, -, -, rfl⟩ | ⟨-, rfl⟩
  · have g := (hA' _ ⟨nd, fx2, nq, nf, fun w => absurd w (cf_m1 (by omega))⟩).1 h hh rfl
    exact br_f (cf_m1 (by omega)) (br_f (cf_m1 (by omega)) (cx_addUrl (by omega) (by omega) (by omega) (g _ _ _)))
  · rcases Nat.lt_or_ge hc 8 with y | y
    · have g := (hA' _ ⟨nd, fx2, nq, nf, fun _ => y⟩).2 rfl
      exact cx_newHost y (by omega) (by omega) (br_f (cf_m1 (by omega)) (cx_addUrl (by omega) (by omega) (by omega) (g _ _ _)))
    · exact br_t rfl (pk_lt hc 8 (fun w => by omega) (fun _ => br_t rfl (hRf' _ (Or.inr ⟨nd, _, fx2, Or.inr ⟨nq, Or.inr ⟨nf, rfl, y, rfl⟩⟩⟩) _ _ _)))
end
