/-! the class: the percent rule -/
section
variable {f_maxUrls f_defaultDelay f_clock f_bufferLength f_canonLength f_canonHost f_canonHostLength f_canonPath f_schemePort f_partLength f_urlCount f_urlChars f_hostCount f_ruleCount f_ruleChars : Int32} {a_buffer a_canon a_part a_urlPool a_urlStart a_urlLength a_urlPath a_urlHost a_urlState a_urlTime a_names a_nameLength a_hostDelay a_hostNext a_rulePool a_ruleStart a_ruleLength a_ruleHost : Nat → Int32}
variable {t : Nat → Nat} {L : Nat}
theorem cx_triple {post : St2 → Prop} {h l n : Nat} {D : List Nat} (hh : cf_hv h < 16) (hl : cf_hv l < 16) (hn : n + 3 ≤ 48) (hK : cf_K a_part n D) (hp : ∀ a, cf_K a (n + (cf_tr h l).length) (D ++ cf_tr h l) → post (f_maxUrls, f_defaultDelay, f_clock, f_bufferLength, f_canonLength, f_canonHost, f_canonHostLength, f_canonPath, f_schemePort, nI (n + (cf_tr h l).length), f_urlCount, f_urlChars, f_hostCount, f_ruleCount, f_ruleChars, a_buffer, a_canon, a, a_urlPool, a_urlStart, a_urlLength, a_urlPath, a_urlHost, a_urlState, a_urlTime, a_names, a_nameLength, a_hostDelay, a_hostNext, a_rulePool, a_ruleStart, a_ruleLength, a_ruleHost)) : wpX_addTriple post (f_maxUrls, f_defaultDelay, f_clock, f_bufferLength, f_canonLength, f_canonHost, f_canonHostLength, f_canonPath, f_schemePort, nI n, f_urlCount, f_urlChars, f_hostCount, f_ruleCount, f_ruleChars, a_buffer, a_canon, a_part, a_urlPool, a_urlStart, a_urlLength, a_urlPath, a_urlHost, a_urlState, a_urlTime, a_names, a_nameLength, a_hostDelay, a_hostNext, a_rulePool, a_ruleStart, a_ruleLength, a_ruleHost) (nI (cf_hv h)) (nI (cf_hv l)) := by
  have e : (nI (cf_hv h) * 16) + nI (cf_hv l) = nI (cf_hv h * 16 + cf_hv l) := (congrArg (fun z => z + nI (cf_hv l)) (pk_mul (cf_hv h) 16)).trans (nI_add _ _)
  have one : cf_UN (cf_hv h * 16 + cf_hv l) → wX_addTriple_26 post (nI (cf_hv h * 16 + cf_hv l)) f_maxUrls f_defaultDelay f_clock f_bufferLength f_canonLength f_canonHost f_canonHostLength f_canonPath f_schemePort (nI n) f_urlCount f_urlChars f_hostCount f_ruleCount f_ruleChars a_buffer a_canon a_part a_urlPool a_urlStart a_urlLength a_urlPath a_urlHost a_urlState a_urlTime a_names a_nameLength a_hostDelay a_hostNext a_rulePool a_ruleStart a_ruleLength a_ruleHost := by
    intro u
    rw [cf_trP u] at hp
    exact cx_addp _ rfl (by omega) hK (fun a hK' => hp a hK')
  refine nm_r e (cx_isHost (cf_hv h * 16 + cf_hv l) rfl (by omega) (fun c => br_f (by decide) (one (Or.inl c))) (fun c => br_t rfl (pk_eq (cf_hv h * 16 + cf_hv l) 95 (fun z => one (Or.inr (Or.inl z))) (fun z1 => pk_eq (cf_hv h * 16 + cf_hv l) 126 (fun z => one (Or.inr (Or.inr z))) (fun z2 => ?_)))))
  have un : ¬ cf_UN (cf_hv h * 16 + cf_hv l) := by
    intro w
    rcases w with w | w | w
    · exact c w
    · exact z1 w
    · exact z2 w
  rw [cf_trN un] at hp
  refine cx_hexd hh (cx_hexd hl (cx_addp 37 rfl (by omega) hK (fun a1 k1 => cx_addp (cf_up h) (by rw [cf_hdup hh]) (by omega) k1 (fun a2 k2 => cx_addp (cf_up l) (by rw [cf_hdup hl]) (by omega) k2 (fun a3 k3 => hp a3 ?_)))))
  rw [List.append_assoc, List.append_assoc] at k3
  exact k3
theorem cx_decLoop {post : Int32 → St2 → Prop} {e : Nat} (he : e ≤ 48) (hb : ∀ j, a_buffer j = nI (t j)) (ht : ∀ j, t j ≤ 126) : ∀ n i f m D a, i ≤ e → e - i ≤ n → n < f → m ≤ i → cf_K a m D → (cf_dc t e n i = none → ∀ a n, post 0 (f_maxUrls, f_defaultDelay, f_clock, f_bufferLength, f_canonLength, f_canonHost, f_canonHostLength, f_canonPath, f_schemePort, n, f_urlCount, f_urlChars, f_hostCount, f_ruleCount, f_ruleChars, a_buffer, a_canon, a, a_urlPool, a_urlStart, a_urlLength, a_urlPath, a_urlHost, a_urlState, a_urlTime, a_names, a_nameLength, a_hostDelay, a_hostNext, a_rulePool, a_ruleStart, a_ruleLength, a_ruleHost)) → (∀ D', cf_dc t e n i = some D' → ∀ a, cf_K a (m + D'.length) (D ++ D') → post 1 (f_maxUrls, f_defaultDelay, f_clock, f_bufferLength, f_canonLength, f_canonHost, f_canonHostLength, f_canonPath, f_schemePort, nI (m + D'.length), f_urlCount, f_urlChars, f_hostCount, f_ruleCount, f_ruleChars, a_buffer, a_canon, a, a_urlPool, a_urlStart, a_urlLength, a_urlPath, a_urlHost, a_urlState, a_urlTime, a_names, a_nameLength, a_hostDelay, a_hostNext, a_rulePool, a_ruleStart, a_ruleLength, a_ruleHost)) → wX_decode_7 post (nI e) f (nI i) f_maxUrls f_defaultDelay f_clock f_bufferLength f_canonLength f_canonHost f_canonHostLength f_canonPath f_schemePort (nI m) f_urlCount f_urlChars f_hostCount f_ruleCount f_ruleChars a_buffer a_canon a a_urlPool a_urlStart a_urlLength a_urlPath a_urlHost a_urlState a_urlTime a_names a_nameLength a_hostDelay a_hostNext a_rulePool a_ruleStart a_ruleLength a_ruleHost := by
  intro n
  induction n with
  | zero =>
    intro i f m D a hi hn hf hm hK hN hY
    cases f with
    | zero => omega
    | succ f =>
      have g := hY [] (cf_dcE (by omega)) a
      rw [List.append_nil] at g
      exact pk_le e i (fun _ => g hK) (fun z => by omega)
  | succ n ih =>
    intro i f m D a hi hn hf hm hK hN hY
    cases f with
    | zero => omega
    | succ f =>
      refine pk_le e i (fun z => ?_) (fun z => ⟨pk_in i 48 (by omega), cf_eqc (t i) 37 (cf_rd hb i) (by have := ht i; omega) (fun z1 => pk_lt (i + 2) e (fun z2 => ⟨pk_in (i + 1) 48 (by omega) (nI_1 i), cx_hex (t (i + 1)) (cf_rd hb (i + 1) (nI_1 i)) (ht _) (fun x1 => ⟨pk_in (i + 2) 48 (by omega) (nI_add i 2), cx_hex (t (i + 2)) (cf_rd hb (i + 2) (nI_add i 2)) (ht _) (fun x2 => br_f (cf_m1 (by omega)) (br_f (cf_m1 (by omega)) (cx_triple x1 x2 (by omega) hK (fun a' hK' => nm_r (nI_add i 3) ?_)))) (fun x2 => br_f (cf_m1 (by omega)) (br_t rfl (hN (cf_dcX z2 z1 (fun w => x2 w.2)) _ _)))⟩) (fun x1 => ⟨pk_in (i + 2) 48 (by omega) (nI_add i 2), cx_hex (t (i + 2)) (cf_rd hb (i + 2) (nI_add i 2)) (ht _) (fun x2 => br_t rfl (hN (cf_dcX z2 z1 (fun w => x1 w.1)) _ _)) (fun x2 => br_t rfl (hN (cf_dcX z2 z1 (fun w => x1 w.1)) _ _))⟩)⟩) (fun z2 => hN (cf_dcS z z1 z2) _ _) (nI_add i 2)) (fun z1 => ⟨pk_in i 48 (by omega), cx_addp (t i) (cf_rd hb i) (by omega) hK (fun a' hK' => nm_r (nI_1 i) ?_)⟩)⟩)
      · have g := hY [] (cf_dcE z) a
        rw [List.append_nil] at g
        exact g hK
      · have tl := cf_trL (t (i + 1)) (t (i + 2))
        refine ih (i + 3) f (m + (cf_tr (t (i + 1)) (t (i + 2))).length) _ a' (by omega) (by omega) (by omega) (by omega) hK' (fun h => hN (by rw [cf_dcT z2 z1 ⟨x1, x2⟩, h]; rfl)) (fun D' h a2 hK2 => ?_)
        have g := hY (cf_tr (t (i + 1)) (t (i + 2)) ++ D') (by rw [cf_dcT z2 z1 ⟨x1, x2⟩, h]; rfl) a2
        have e2 : m + (cf_tr (t (i + 1)) (t (i + 2)) ++ D').length = m + (cf_tr (t (i + 1)) (t (i + 2))).length + D'.length := by rw [List.length_append]; omega
        rw [e2, ← List.append_assoc] at g
        exact g hK2
      · refine ih (i + 1) f (m + 1) _ a' (by omega) (by omega) (by omega) (by omega) hK' (fun h => hN (by rw [cf_dcC z z1, h]; rfl)) (fun D' h a2 hK2 => ?_)
        have g := hY (t i :: D') (by rw [cf_dcC z z1, h]; rfl) a2
        have e2 : m + (t i :: D').length = m + 1 + D'.length := by rw [List.length_cons]; omega
        rw [e2] at g
        rw [List.append_assoc] at hK2
        exact g hK2
theorem cx_decode {post : Int32 → St2 → Prop} {i e : Nat} (hi : i ≤ e) (he : e ≤ 48) (hb : ∀ j, a_buffer j = nI (t j)) (ht : ∀ j, t j ≤ 126) (hN : cf_dc t e (e - i) i = none → ∀ a n, post 0 (f_maxUrls, f_defaultDelay, f_clock, f_bufferLength, f_canonLength, f_canonHost, f_canonHostLength, f_canonPath, f_schemePort, n, f_urlCount, f_urlChars, f_hostCount, f_ruleCount, f_ruleChars, a_buffer, a_canon, a, a_urlPool, a_urlStart, a_urlLength, a_urlPath, a_urlHost, a_urlState, a_urlTime, a_names, a_nameLength, a_hostDelay, a_hostNext, a_rulePool, a_ruleStart, a_ruleLength, a_ruleHost)) (hY : ∀ D, cf_dc t e (e - i) i = some D → ∀ a, cf_K a D.length D → post 1 (f_maxUrls, f_defaultDelay, f_clock, f_bufferLength, f_canonLength, f_canonHost, f_canonHostLength, f_canonPath, f_schemePort, nI D.length, f_urlCount, f_urlChars, f_hostCount, f_ruleCount, f_ruleChars, a_buffer, a_canon, a, a_urlPool, a_urlStart, a_urlLength, a_urlPath, a_urlHost, a_urlState, a_urlTime, a_names, a_nameLength, a_hostDelay, a_hostNext, a_rulePool, a_ruleStart, a_ruleLength, a_ruleHost)) : wpX_decode post (f_maxUrls, f_defaultDelay, f_clock, f_bufferLength, f_canonLength, f_canonHost, f_canonHostLength, f_canonPath, f_schemePort, f_partLength, f_urlCount, f_urlChars, f_hostCount, f_ruleCount, f_ruleChars, a_buffer, a_canon, a_part, a_urlPool, a_urlStart, a_urlLength, a_urlPath, a_urlHost, a_urlState, a_urlTime, a_names, a_nameLength, a_hostDelay, a_hostNext, a_rulePool, a_ruleStart, a_ruleLength, a_ruleHost) (nI i) (nI e) := by
  refine ⟨e - i + 1, cx_decLoop he hb ht (e - i) i _ 0 [] a_part hi (Nat.le_refl _) (by omega) (Nat.zero_le _) (cf_K0 _) hN (fun D h a hK => ?_)⟩
  rw [Nat.zero_add] at hK
  rw [Nat.zero_add]
  exact hY D h a hK
end
