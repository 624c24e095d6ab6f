/-! the reference: characters, emit, decode -/
section
variable {f_maxUrls f_defaultDelay f_clock f_bufferLength f_urlCount f_hostCount f_ruleCount f_cLen f_cHost f_cHostLen f_cPq f_decLen f_segN : Int32} {a_buffer a_urlPool a_urlStart a_urlLength a_urlState a_urlHost a_urlTime a_names a_nameLength a_hostDelay a_hostNext a_hostSent a_rulePool a_ruleStart a_ruleLength a_ruleHost a_ycanon a_dec a_segS a_segL : Nat → Int32}
variable {t : Nat → Nat} {L : Nat}
theorem cy_low {post : Int32 → Prop} {x : Int32} (c : Nat) (hx : x = nI c) (hc : c ≤ 126) (h : post (nI (cf_lo c))) : wpY_low post (f_maxUrls, f_defaultDelay, f_clock, f_bufferLength, f_urlCount, f_hostCount, f_ruleCount, f_cLen, f_cHost, f_cHostLen, f_cPq, f_decLen, f_segN, a_buffer, a_urlPool, a_urlStart, a_urlLength, a_urlState, a_urlHost, a_urlTime, a_names, a_nameLength, a_hostDelay, a_hostNext, a_hostSent, a_rulePool, a_ruleStart, a_ruleLength, a_ruleHost, a_ycanon, a_dec, a_segS, a_segL) x := by
  subst hx
  refine pk_lt c 65 (fun z => ?_) (fun z => pk_lt 90 c (fun z2 => ?_) (fun z2 => ?_))
  · have e : cf_lo c = c := by unfold cf_lo; rw [if_neg (by omega)]
    rw [e] at h
    exact h
  · have e : cf_lo c = c := by unfold cf_lo; rw [if_neg (by omega)]
    rw [e] at h
    exact h
  · have e : cf_lo c = c + 32 := by unfold cf_lo; rw [if_pos (by omega)]
    rw [e, ← nI_add] at h
    exact h
theorem cy_up {post : Int32 → Prop} {x : Int32} (c : Nat) (hx : x = nI c) (hc : c ≤ 126) (h : post (nI (cf_up c))) : wpY_up post (f_maxUrls, f_defaultDelay, f_clock, f_bufferLength, f_urlCount, f_hostCount, f_ruleCount, f_cLen, f_cHost, f_cHostLen, f_cPq, f_decLen, f_segN, a_buffer, a_urlPool, a_urlStart, a_urlLength, a_urlState, a_urlHost, a_urlTime, a_names, a_nameLength, a_hostDelay, a_hostNext, a_hostSent, a_rulePool, a_ruleStart, a_ruleLength, a_ruleHost, a_ycanon, a_dec, a_segS, a_segL) x := by
  subst hx
  refine pk_lt c 97 (fun z => ?_) (fun z => pk_lt 102 c (fun z2 => ?_) (fun z2 => ?_))
  · have e : cf_up c = c := by unfold cf_up; rw [if_neg (by omega)]
    rw [e] at h
    exact h
  · have e : cf_up c = c := by unfold cf_up; rw [if_neg (by omega)]
    rw [e] at h
    exact h
  · have e : cf_up c = c - 32 := by unfold cf_up; rw [if_pos (by omega)]
    rw [e, ← pk_sub (by omega)] at h
    exact h
theorem cy_isDigit {post : Int32 → Prop} {x : Int32} (c : Nat) (hx : x = nI c) (hc : c ≤ 255) (h1 : 48 ≤ c ∧ c ≤ 57 → post 1) (h0 : ¬ (48 ≤ c ∧ c ≤ 57) → post 0) : wpY_isDigit post (f_maxUrls, f_defaultDelay, f_clock, f_bufferLength, f_urlCount, f_hostCount, f_ruleCount, f_cLen, f_cHost, f_cHostLen, f_cPq, f_decLen, f_segN, a_buffer, a_urlPool, a_urlStart, a_urlLength, a_urlState, a_urlHost, a_urlTime, a_names, a_nameLength, a_hostDelay, a_hostNext, a_hostSent, a_rulePool, a_ruleStart, a_ruleLength, a_ruleHost, a_ycanon, a_dec, a_segS, a_segL) x := by
  subst hx
  exact pk_lt c 48 (fun z => h0 (by omega)) (fun z => pk_lt 57 c (fun z2 => h0 (by omega)) (fun z2 => h1 (by omega)))
theorem cy_hex37 {post : Int32 → Prop} {c : Nat} (hc : c ≤ 126) (hn : ¬ (48 ≤ c ∧ c ≤ 57) ∧ ¬ (97 ≤ c ∧ c ≤ 102)) (h1 : cf_hv c < 16 → post (nI (cf_hv c))) (h0 : ¬ cf_hv c < 16 → post (-1)) : wY_hexVal_37 post (nI c) f_maxUrls f_defaultDelay f_clock f_bufferLength f_urlCount f_hostCount f_ruleCount f_cLen f_cHost f_cHostLen f_cPq f_decLen f_segN a_buffer a_urlPool a_urlStart a_urlLength a_urlState a_urlHost a_urlTime a_names a_nameLength a_hostDelay a_hostNext a_hostSent a_rulePool a_ruleStart a_ruleLength a_ruleHost a_ycanon a_dec a_segS a_segL := by
  refine pk_lt c 65 (fun z => h0 ?_) (fun z => pk_lt 70 c (fun z2 => h0 ?_) (fun z2 => ?_))
  · unfold cf_hv; rw [if_neg hn.1, if_neg (by omega), if_neg hn.2]; omega
  · unfold cf_hv; rw [if_neg hn.1, if_neg (by omega), if_neg hn.2]; omega
  · have e : cf_hv c = c - 65 + 10 := by unfold cf_hv; rw [if_neg hn.1, if_pos (by omega)]; omega
    have h := h1 (by omega)
    rw [e, ← nI_add, ← pk_sub (by omega)] at h
    exact h
theorem cy_hex17 {post : Int32 → Prop} {c : Nat} (hc : c ≤ 126) (hn : ¬ (48 ≤ c ∧ c ≤ 57)) (h1 : cf_hv c < 16 → post (nI (cf_hv c))) (h0 : ¬ cf_hv c < 16 → post (-1)) : wY_hexVal_17 post (nI c) f_maxUrls f_defaultDelay f_clock f_bufferLength f_urlCount f_hostCount f_ruleCount f_cLen f_cHost f_cHostLen f_cPq f_decLen f_segN a_buffer a_urlPool a_urlStart a_urlLength a_urlState a_urlHost a_urlTime a_names a_nameLength a_hostDelay a_hostNext a_hostSent a_rulePool a_ruleStart a_ruleLength a_ruleHost a_ycanon a_dec a_segS a_segL := by
  refine pk_lt c 97 (fun z => cy_hex37 hc ⟨hn, by omega⟩ h1 h0) (fun z => pk_lt 102 c (fun z2 => cy_hex37 hc ⟨hn, by omega⟩ h1 h0) (fun z2 => ?_))
  have e : cf_hv c = c - 97 + 10 := by unfold cf_hv; rw [if_neg hn, if_neg (by omega), if_pos (by omega)]; omega
  have h := h1 (by omega)
  rw [e, ← nI_add, ← pk_sub (by omega)] at h
  exact h
theorem cy_hex {post : Int32 → Prop} {x : Int32} (c : Nat) (hx : x = nI c) (hc : c ≤ 126) (h1 : cf_hv c < 16 → post (nI (cf_hv c))) (h0 : ¬ cf_hv c < 16 → post (-1)) : wpY_hexVal post (f_maxUrls, f_defaultDelay, f_clock, f_bufferLength, f_urlCount, f_hostCount, f_ruleCount, f_cLen, f_cHost, f_cHostLen, f_cPq, f_decLen, f_segN, a_buffer, a_urlPool, a_urlStart, a_urlLength, a_urlState, a_urlHost, a_urlTime, a_names, a_nameLength, a_hostDelay, a_hostNext, a_hostSent, a_rulePool, a_ruleStart, a_ruleLength, a_ruleHost, a_ycanon, a_dec, a_segS, a_segL) x := by
  subst hx
  refine pk_lt c 48 (fun z => cy_hex17 hc (by omega) h1 h0) (fun z => pk_lt 57 c (fun z2 => cy_hex17 hc (by omega) h1 h0) (fun z2 => ?_))
  have e : cf_hv c = c - 48 := by unfold cf_hv; rw [if_pos (by omega)]
  have h := h1 (by omega)
  rw [e, ← pk_sub (by omega)] at h
  exact h
theorem cy_un24 {post : Int32 → Prop} {c : Nat} (hc : c ≤ 255) (hn : ¬ ((97 ≤ c ∧ c ≤ 122) ∨ (65 ≤ c ∧ c ≤ 90))) (h1 : cf_UN c → post 1) (h0 : ¬ cf_UN c → post 0) : wY_unreserved_24 post (nI c) f_maxUrls f_defaultDelay f_clock f_bufferLength f_urlCount f_hostCount f_ruleCount f_cLen f_cHost f_cHostLen f_cPq f_decLen f_segN a_buffer a_urlPool a_urlStart a_urlLength a_urlState a_urlHost a_urlTime a_names a_nameLength a_hostDelay a_hostNext a_hostSent a_rulePool a_ruleStart a_ruleLength a_ruleHost a_ycanon a_dec a_segS a_segL :=
  cy_isDigit c rfl hc (fun z => br_f (by decide) (h1 (by unfold cf_UN cf_HC; omega))) (fun z => br_t rfl (pk_eq c 45 (fun y => h1 (by unfold cf_UN cf_HC; omega)) (fun y1 => pk_eq c 46 (fun y => h1 (by unfold cf_UN cf_HC; omega)) (fun y2 => pk_eq c 95 (fun y => h1 (by unfold cf_UN cf_HC; omega)) (fun y3 => pk_eq c 126 (fun y => h1 (by unfold cf_UN cf_HC; omega)) (fun y4 => h0 (by unfold cf_UN cf_HC; omega)))))))
theorem cy_un12 {post : Int32 → Prop} {c : Nat} (hc : c ≤ 255) (hn : ¬ (65 ≤ c ∧ c ≤ 90)) (h1 : cf_UN c → post 1) (h0 : ¬ cf_UN c → post 0) : wY_unreserved_12 post (nI c) f_maxUrls f_defaultDelay f_clock f_bufferLength f_urlCount f_hostCount f_ruleCount f_cLen f_cHost f_cHostLen f_cPq f_decLen f_segN a_buffer a_urlPool a_urlStart a_urlLength a_urlState a_urlHost a_urlTime a_names a_nameLength a_hostDelay a_hostNext a_hostSent a_rulePool a_ruleStart a_ruleLength a_ruleHost a_ycanon a_dec a_segS a_segL :=
  pk_lt c 97 (fun z => cy_un24 hc (by omega) h1 h0) (fun z => pk_le c 122 (fun z2 => h1 (by unfold cf_UN cf_HC; omega)) (fun z2 => cy_un24 hc (by omega) h1 h0))
theorem cy_unres {post : Int32 → Prop} {c : Nat} (hc : c ≤ 255) (h1 : cf_UN c → post 1) (h0 : ¬ cf_UN c → post 0) : wpY_unreserved post (f_maxUrls, f_defaultDelay, f_clock, f_bufferLength, f_urlCount, f_hostCount, f_ruleCount, f_cLen, f_cHost, f_cHostLen, f_cPq, f_decLen, f_segN, a_buffer, a_urlPool, a_urlStart, a_urlLength, a_urlState, a_urlHost, a_urlTime, a_names, a_nameLength, a_hostDelay, a_hostNext, a_hostSent, a_rulePool, a_ruleStart, a_ruleLength, a_ruleHost, a_ycanon, a_dec, a_segS, a_segL) (nI c) :=
  pk_lt c 65 (fun z => cy_un12 hc (by omega) h1 h0) (fun z => pk_le c 90 (fun z2 => h1 (by unfold cf_UN cf_HC; omega)) (fun z2 => cy_un12 hc (by omega) h1 h0))
theorem cy_emit {post : SY → Prop} {x : Int32} {n : Nat} {l : List Nat} (c : Nat) (hx : x = nI c) (hn : n < 64) (hK : cf_K a_ycanon n l) (h : ∀ a, cf_K a (n + 1) (l ++ [c]) → post (f_maxUrls, f_defaultDelay, f_clock, f_bufferLength, f_urlCount, f_hostCount, f_ruleCount, nI (n + 1), f_cHost, f_cHostLen, f_cPq, f_decLen, f_segN, a_buffer, a_urlPool, a_urlStart, a_urlLength, a_urlState, a_urlHost, a_urlTime, a_names, a_nameLength, a_hostDelay, a_hostNext, a_hostSent, a_rulePool, a_ruleStart, a_ruleLength, a_ruleHost, a, a_dec, a_segS, a_segL)) : wpY_emit post (f_maxUrls, f_defaultDelay, f_clock, f_bufferLength, f_urlCount, f_hostCount, f_ruleCount, nI n, f_cHost, f_cHostLen, f_cPq, f_decLen, f_segN, a_buffer, a_urlPool, a_urlStart, a_urlLength, a_urlState, a_urlHost, a_urlTime, a_names, a_nameLength, a_hostDelay, a_hostNext, a_hostSent, a_rulePool, a_ruleStart, a_ruleLength, a_ruleHost, a_ycanon, a_dec, a_segS, a_segL) x := by
  subst hx
  refine pk_le 64 n (fun z => by omega) (fun z => ⟨pk_in n 64 hn, ?_⟩)
  refine nm_r (e' := upd a_ycanon n (nI c)) (by rw [pk_cl n]) (nm_r (nI_1 n) (h _ (cf_Ka c hK)))
theorem cy_add {post : SY → Prop} {x : Int32} {n : Nat} {l : List Nat} (c : Nat) (hx : x = nI c) (hn : n < 64) (hK : cf_K a_dec n l) (h : ∀ a, cf_K a (n + 1) (l ++ [c]) → post (f_maxUrls, f_defaultDelay, f_clock, f_bufferLength, f_urlCount, f_hostCount, f_ruleCount, f_cLen, f_cHost, f_cHostLen, f_cPq, nI (n + 1), f_segN, a_buffer, a_urlPool, a_urlStart, a_urlLength, a_urlState, a_urlHost, a_urlTime, a_names, a_nameLength, a_hostDelay, a_hostNext, a_hostSent, a_rulePool, a_ruleStart, a_ruleLength, a_ruleHost, a_ycanon, a, a_segS, a_segL)) : wpY_addDec post (f_maxUrls, f_defaultDelay, f_clock, f_bufferLength, f_urlCount, f_hostCount, f_ruleCount, f_cLen, f_cHost, f_cHostLen, f_cPq, nI n, f_segN, a_buffer, a_urlPool, a_urlStart, a_urlLength, a_urlState, a_urlHost, a_urlTime, a_names, a_nameLength, a_hostDelay, a_hostNext, a_hostSent, a_rulePool, a_ruleStart, a_ruleLength, a_ruleHost, a_ycanon, a_dec, a_segS, a_segL) x := by
  subst hx
  refine pk_le 64 n (fun z => by omega) (fun z => ⟨pk_in n 64 hn, ?_⟩)
  refine nm_r (e' := upd a_dec n (nI c)) (by rw [pk_cl n]) (nm_r (nI_1 n) (h _ (cf_Ka c hK)))
theorem cy_skip {post : Int32 → SY → Prop} {e i f : Nat} (he : e ≤ 48) (hi : i + 2 < e) (h : wY_decode_5 post (nI e) f 0 (nI (i + 3)) f_maxUrls f_defaultDelay f_clock f_bufferLength f_urlCount f_hostCount f_ruleCount f_cLen f_cHost f_cHostLen f_cPq f_decLen f_segN a_buffer a_urlPool a_urlStart a_urlLength a_urlState a_urlHost a_urlTime a_names a_nameLength a_hostDelay a_hostNext a_hostSent a_rulePool a_ruleStart a_ruleLength a_ruleHost a_ycanon a_dec a_segS a_segL) : wY_decode_5 post (nI e) (f + 1 + 1) 2 (nI (i + 1)) f_maxUrls f_defaultDelay f_clock f_bufferLength f_urlCount f_hostCount f_ruleCount f_cLen f_cHost f_cHostLen f_cPq f_decLen f_segN a_buffer a_urlPool a_urlStart a_urlLength a_urlState a_urlHost a_urlTime a_names a_nameLength a_hostDelay a_hostNext a_hostSent a_rulePool a_ruleStart a_ruleLength a_ruleHost a_ycanon a_dec a_segS a_segL :=
  pk_le e (i + 1) (fun z => by omega) (fun _ => br_f (by decide) (nm_r (e' := 1) (by decide) (nm_r (nI_1 (i + 1)) (pk_le e (i + 2) (fun z => by omega) (fun _ => br_f (by decide) (nm_r (e' := 0) (by decide) (nm_r (nI_1 (i + 2)) h)))))))
theorem cy_decLoop {post : Int32 → SY → Prop} {e : Nat} (he : e ≤ 48) (hb : ∀ j, a_buffer j = nI (t j)) (ht : ∀ j, t j ≤ 126) : ∀ n i f m D a, i ≤ e → e - i ≤ n → e - i < f → m ≤ i → cf_K a m D → (cf_dc t e n i = none → ∀ a n, post 0 (f_maxUrls, f_defaultDelay, f_clock, f_bufferLength, f_urlCount, f_hostCount, f_ruleCount, f_cLen, f_cHost, f_cHostLen, f_cPq, n, f_segN, a_buffer, a_urlPool, a_urlStart, a_urlLength, a_urlState, a_urlHost, a_urlTime, a_names, a_nameLength, a_hostDelay, a_hostNext, a_hostSent, a_rulePool, a_ruleStart, a_ruleLength, a_ruleHost, a_ycanon, a, a_segS, a_segL)) → (∀ D', cf_dc t e n i = some D' → ∀ a, cf_K a (m + D'.length) (D ++ D') → post 1 (f_maxUrls, f_defaultDelay, f_clock, f_bufferLength, f_urlCount, f_hostCount, f_ruleCount, f_cLen, f_cHost, f_cHostLen, f_cPq, nI (m + D'.length), f_segN, a_buffer, a_urlPool, a_urlStart, a_urlLength, a_urlState, a_urlHost, a_urlTime, a_names, a_nameLength, a_hostDelay, a_hostNext, a_hostSent, a_rulePool, a_ruleStart, a_ruleLength, a_ruleHost, a_ycanon, a, a_segS, a_segL)) → wY_decode_5 post (nI e) f 0 (nI i) f_maxUrls f_defaultDelay f_clock f_bufferLength f_urlCount f_hostCount f_ruleCount f_cLen f_cHost f_cHostLen f_cPq (nI m) f_segN a_buffer a_urlPool a_urlStart a_urlLength a_urlState a_urlHost a_urlTime a_names a_nameLength a_hostDelay a_hostNext a_hostSent a_rulePool a_ruleStart a_ruleLength a_ruleHost a_ycanon a a_segS a_segL := by
  intro n
  induction n with
  | zero =>
    intro i f m D a hi hn hf hm hK hN hY
    cases f with
    | zero => omega
    | succ f =>
      have g := hY [] (cf_dcE (by omega)) a
      rw [List.append_nil] at g
      exact pk_le e i (fun _ => g hK) (fun z => by omega)
  | succ n ih =>
    intro i f m D a hi hn hf hm hK hN hY
    rcases Nat.lt_or_ge i e with z | z
    · by_cases z1 : t i = 37
      · rcases Nat.lt_or_ge (i + 2) e with z2 | z2
        · obtain ⟨g, rfl⟩ : ∃ g, f = g + 1 + 1 + 1 := ⟨f - 3, by omega⟩
          by_cases x1 : cf_hv (t (i + 1)) < 16
          · by_cases x2 : cf_hv (t (i + 2)) < 16
            · have tl := cf_trL (t (i + 1)) (t (i + 2))
              have e8 : (nI (cf_hv (t (i + 1))) * 16) + nI (cf_hv (t (i + 2))) = nI (cf_hv (t (i + 1)) * 16 + cf_hv (t (i + 2))) := (congrArg (fun z => z + nI (cf_hv (t (i + 2)))) (pk_mul (cf_hv (t (i + 1))) 16)).trans (nI_add _ _)
              have nx : ∀ a', cf_K a' (m + (cf_tr (t (i + 1)) (t (i + 2))).length) (D ++ cf_tr (t (i + 1)) (t (i + 2))) → wY_decode_5 post (nI e) (g + 1 + 1) 2 (nI (i + 1)) f_maxUrls f_defaultDelay f_clock f_bufferLength f_urlCount f_hostCount f_ruleCount f_cLen f_cHost f_cHostLen f_cPq (nI (m + (cf_tr (t (i + 1)) (t (i + 2))).length)) f_segN a_buffer a_urlPool a_urlStart a_urlLength a_urlState a_urlHost a_urlTime a_names a_nameLength a_hostDelay a_hostNext a_hostSent a_rulePool a_ruleStart a_ruleLength a_ruleHost a_ycanon a' a_segS a_segL := by
                intro a' hK'
                refine cy_skip he z2 (ih (i + 3) g (m + (cf_tr (t (i + 1)) (t (i + 2))).length) _ a' (by omega) (by omega) (by omega) (by omega) hK' (fun h => hN (by rw [cf_dcT z2 z1 ⟨x1, x2⟩, h]; rfl)) (fun D' h a2 hK2 => ?_))
                have g := hY (cf_tr (t (i + 1)) (t (i + 2)) ++ D') (by rw [cf_dcT z2 z1 ⟨x1, x2⟩, h]; rfl) a2
                have e2 : m + (cf_tr (t (i + 1)) (t (i + 2)) ++ D').length = m + (cf_tr (t (i + 1)) (t (i + 2))).length + D'.length := by rw [List.length_append]; omega
                rw [e2, ← List.append_assoc] at g
                exact g hK2
              refine pk_le e i (fun z => by omega) (fun _ => br_t (by decide) ⟨pk_in i 48 (by omega), nm_r (cf_rd hb i) (cf_eqc (t i) 37 rfl (by omega) (fun _ => pk_lt (i + 2) e (fun _ => ⟨pk_in (i + 1) 48 (by omega) (nI_1 i), cy_hex (t (i + 1)) (cf_rd hb (i + 1) (nI_1 i)) (ht _) (fun _ => ⟨pk_in (i + 2) 48 (by omega) (nI_add i 2), cy_hex (t (i + 2)) (cf_rd hb (i + 2) (nI_add i 2)) (ht _) (fun _ => br_f (nI_pos (by omega)) (br_t (nI_pos' (by omega)) (nm_r e8 (cy_unres (by omega) (fun u => br_f (by decide) ?_) (fun u => br_t rfl ?_))))) (fun w => absurd x2 w)⟩) (fun w => absurd x1 w)⟩) (fun z3 => by omega) (nI_add i 2)) (fun w => absurd z1 w))⟩)
              · rw [cf_trP u] at nx
                exact cy_add _ rfl (by omega) hK (fun a' hK' => nm_r (nI_1 i) (nx a' hK'))
              · rw [cf_trN u] at nx
                refine cy_add 37 rfl (by omega) hK (fun a1 k1 => ⟨pk_in (i + 1) 48 (by omega) (nI_1 i), cy_up (t (i + 1)) (cf_rd hb (i + 1) (nI_1 i)) (ht _) (cy_add (cf_up (t (i + 1))) rfl (by omega) k1 (fun a2 k2 => ⟨pk_in (i + 2) 48 (by omega) (nI_add i 2), cy_up (t (i + 2)) (cf_rd hb (i + 2) (nI_add i 2)) (ht _) (cy_add (cf_up (t (i + 2))) rfl (by omega) k2 (fun a3 k3 => nm_r (nI_1 i) (nx a3 ?_)))⟩))⟩)
                rw [List.append_assoc, List.append_assoc] at k3
                exact k3
            · exact pk_le e i (fun z => by omega) (fun _ => br_t (by decide) ⟨pk_in i 48 (by omega), nm_r (cf_rd hb i) (cf_eqc (t i) 37 rfl (by omega) (fun _ => pk_lt (i + 2) e (fun _ => ⟨pk_in (i + 1) 48 (by omega) (nI_1 i), cy_hex (t (i + 1)) (cf_rd hb (i + 1) (nI_1 i)) (ht _) (fun _ => ⟨pk_in (i + 2) 48 (by omega) (nI_add i 2), cy_hex (t (i + 2)) (cf_rd hb (i + 2) (nI_add i 2)) (ht _) (fun w => absurd w x2) (fun _ => br_f (nI_pos (by omega)) (br_f (by decide) (hN (cf_dcX z2 z1 (fun w => x2 w.2)) _ _)))⟩) (fun w => absurd x1 w)⟩) (fun z3 => by omega) (nI_add i 2)) (fun w => absurd z1 w))⟩)
          · exact pk_le e i (fun z => by omega) (fun _ => br_t (by decide) ⟨pk_in i 48 (by omega), nm_r (cf_rd hb i) (cf_eqc (t i) 37 rfl (by omega) (fun _ => pk_lt (i + 2) e (fun _ => ⟨pk_in (i + 1) 48 (by omega) (nI_1 i), cy_hex (t (i + 1)) (cf_rd hb (i + 1) (nI_1 i)) (ht _) (fun w => absurd w x1) (fun _ => ⟨pk_in (i + 2) 48 (by omega) (nI_add i 2), cy_hex (t (i + 2)) (cf_rd hb (i + 2) (nI_add i 2)) (ht _) (fun _ => br_t cf_m0 (hN (cf_dcX z2 z1 (fun w => x1 w.1)) _ _)) (fun _ => br_t cf_m0 (hN (cf_dcX z2 z1 (fun w => x1 w.1)) _ _))⟩)⟩) (fun z3 => by omega) (nI_add i 2)) (fun w => absurd z1 w))⟩)
        · obtain ⟨g, rfl⟩ : ∃ g, f = g + 1 := ⟨f - 1, by omega⟩
          exact pk_le e i (fun z => by omega) (fun _ => br_t (by decide) ⟨pk_in i 48 (by omega), nm_r (cf_rd hb i) (cf_eqc (t i) 37 rfl (by omega) (fun _ => pk_lt (i + 2) e (fun z3 => by omega) (fun _ => hN (cf_dcS z z1 z2) _ _) (nI_add i 2)) (fun w => absurd z1 w))⟩)
      · obtain ⟨g, rfl⟩ : ∃ g, f = g + 1 := ⟨f - 1, by omega⟩
        refine pk_le e i (fun z => by omega) (fun _ => br_t (by decide) ⟨pk_in i 48 (by omega), nm_r (cf_rd hb i) (cf_eqc (t i) 37 rfl (by have := ht i; omega) (fun w => absurd w z1) (fun _ => cy_add (t i) rfl (by omega) hK (fun a' hK' => nm_r (nI_1 i) ?_)))⟩)
        refine ih (i + 1) g (m + 1) _ a' (by omega) (by omega) (by omega) (by omega) hK' (fun h => hN (by rw [cf_dcC z z1, h]; rfl)) (fun D' h a2 hK2 => ?_)
        have g := hY (t i :: D') (by rw [cf_dcC z z1, h]; rfl) a2
        have e2 : m + (t i :: D').length = m + 1 + D'.length := by rw [List.length_cons]; omega
        rw [e2] at g
        rw [List.append_assoc] at hK2
        exact g hK2
    · obtain ⟨g, rfl⟩ : ∃ g, f = g + 1 := ⟨f - 1, by omega⟩
      have g := hY [] (cf_dcE z) a
      rw [List.append_nil] at g
      exact pk_le e i (fun _ => g hK) (fun z => by omega)
theorem cy_decode {post : Int32 → SY → Prop} {i e m : Nat} {D : List Nat} (hi : i ≤ e) (he : e ≤ 48) (hm : m ≤ i) (hb : ∀ j, a_buffer j = nI (t j)) (ht : ∀ j, t j ≤ 126) (hK : cf_K a_dec m D) (hN : cf_dc t e (e - i) i = none → ∀ a n, post 0 (f_maxUrls, f_defaultDelay, f_clock, f_bufferLength, f_urlCount, f_hostCount, f_ruleCount, f_cLen, f_cHost, f_cHostLen, f_cPq, n, f_segN, a_buffer, a_urlPool, a_urlStart, a_urlLength, a_urlState, a_urlHost, a_urlTime, a_names, a_nameLength, a_hostDelay, a_hostNext, a_hostSent, a_rulePool, a_ruleStart, a_ruleLength, a_ruleHost, a_ycanon, a, a_segS, a_segL)) (hY : ∀ D', cf_dc t e (e - i) i = some D' → ∀ a, cf_K a (m + D'.length) (D ++ D') → post 1 (f_maxUrls, f_defaultDelay, f_clock, f_bufferLength, f_urlCount, f_hostCount, f_ruleCount, f_cLen, f_cHost, f_cHostLen, f_cPq, nI (m + D'.length), f_segN, a_buffer, a_urlPool, a_urlStart, a_urlLength, a_urlState, a_urlHost, a_urlTime, a_names, a_nameLength, a_hostDelay, a_hostNext, a_hostSent, a_rulePool, a_ruleStart, a_ruleLength, a_ruleHost, a_ycanon, a, a_segS, a_segL)) : wpY_decode post (f_maxUrls, f_defaultDelay, f_clock, f_bufferLength, f_urlCount, f_hostCount, f_ruleCount, f_cLen, f_cHost, f_cHostLen, f_cPq, nI m, f_segN, a_buffer, a_urlPool, a_urlStart, a_urlLength, a_urlState, a_urlHost, a_urlTime, a_names, a_nameLength, a_hostDelay, a_hostNext, a_hostSent, a_rulePool, a_ruleStart, a_ruleLength, a_ruleHost, a_ycanon, a_dec, a_segS, a_segL) (nI i) (nI e) :=
  ⟨e - i + 1, cy_decLoop he hb ht (e - i) i _ m D a_dec hi (Nat.le_refl _) (by omega) hm hK hN hY⟩
end
