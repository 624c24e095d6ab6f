/-! the class: characters, append, the end of a part -/
theorem cf_eqc {x : Int32} {A B : Prop} (a b : Nat) (hx : x = nI a) (ha : a ≤ 70000) (f : a = b → A) (g : a ≠ b → B) (hb : b < 2 ^ 31 := by omega) : (x = nI b → A) ∧ (¬ x = nI b → B) := by
  subst hx
  rw [nI_eq (by omega) hb]
  exact ⟨f, g⟩
section
variable {f_maxUrls f_defaultDelay f_clock f_bufferLength f_canonLength f_canonHost f_canonHostLength f_canonPath f_schemePort f_partLength f_urlCount f_urlChars f_hostCount f_ruleCount f_ruleChars : Int32} {a_buffer a_canon a_part a_urlPool a_urlStart a_urlLength a_urlPath a_urlHost a_urlState a_urlTime a_names a_nameLength a_hostDelay a_hostNext a_rulePool a_ruleStart a_ruleLength a_ruleHost : Nat → Int32}
variable {t : Nat → Nat} {L : Nat}
theorem cx_rank {post : Int32 → Prop} {x : Int32} (c : Nat) (hx : x = nI c) (hc : c ≤ 126) (h : ∀ k, k ≤ 5 → (∀ r, 1 ≤ r → r ≤ 4 → (k ≤ r ↔ cf_rk r c)) → post (nI k)) : wpX_delimiterRank post () x := by
  subst hx
  refine pk_eq c 35 (fun e => h 1 (by omega) (fun r h1 h2 => by unfold cf_rk; omega)) (fun e1 => pk_eq c 47 (fun e => h 3 (by omega) (fun r h1 h2 => by unfold cf_rk; omega)) (fun e2 => pk_eq c 58 (fun e => h 4 (by omega) (fun r h1 h2 => by unfold cf_rk; omega)) (fun e3 => pk_eq c 63 (fun e => h 2 (by omega) (fun r h1 h2 => by unfold cf_rk; omega)) (fun e4 => h 5 (by omega) (fun r h1 h2 => by unfold cf_rk; omega)))))
theorem cx_partEnd {post : Int32 → Prop} {i r : Nat} (hb : ∀ j, a_buffer j = nI (t j)) (ht : ∀ j, t j ≤ 126) (hi : i ≤ L) (hL : L ≤ 48) (hr : 1 ≤ r ∧ r ≤ 4) (h : ∀ e, cf_IE r t L i e → post (nI e)) : wpX_partEnd post (f_maxUrls, f_defaultDelay, f_clock, nI L, f_canonLength, f_canonHost, f_canonHostLength, f_canonPath, f_schemePort, f_partLength, f_urlCount, f_urlChars, f_hostCount, f_ruleCount, f_ruleChars, a_buffer, a_canon, a_part, a_urlPool, a_urlStart, a_urlLength, a_urlPath, a_urlHost, a_urlState, a_urlTime, a_names, a_nameLength, a_hostDelay, a_hostNext, a_rulePool, a_ruleStart, a_ruleLength, a_ruleHost) (nI i) (nI r) := by
  have key : ∀ d k f, k + d = L → d < f → i ≤ k → (∀ j, i ≤ j → j < k → ¬ cf_rk r (t j)) → wX_partEnd_2 post (nI r) f_maxUrls f_defaultDelay f_clock (nI L) f_canonLength f_canonHost f_canonHostLength f_canonPath f_schemePort f_partLength f_urlCount f_urlChars f_hostCount f_ruleCount f_ruleChars a_buffer a_canon a_part a_urlPool a_urlStart a_urlLength a_urlPath a_urlHost a_urlState a_urlTime a_names a_nameLength a_hostDelay a_hostNext a_rulePool a_ruleStart a_ruleLength a_ruleHost f (nI k) := by
    intro d
    induction d with
    | zero =>
      intro k f hk hf hik hj
      cases f with
      | zero => omega
      | succ f => exact pk_le L k (fun _ => h L ⟨hi, Nat.le_refl _, fun j h1 h2 => hj j h1 (by omega), fun z => by omega⟩) (fun z => by omega)
    | succ d ih =>
      intro k f hk hf hik hj
      cases f with
      | zero => omega
      | succ f =>
        refine pk_le L k (fun z => by omega) (fun z => ⟨pk_in k 48 (by omega), cx_rank (t k) (cf_rd hb k) (ht k) (fun q hq hqr => ?_)⟩)
        have hq2 := hqr r hr.1 hr.2
        refine pk_lt r q (fun z1 => nm_r (nI_1 k) (ih (k + 1) f (by omega) (by omega) (by omega) (fun j h1 h2 => ?_))) (fun z1 => h k ⟨hik, by omega, hj, fun _ => hq2.mp z1⟩)
        rcases Nat.lt_or_ge j k with y | y
        · exact hj j h1 y
        · have e : j = k := by omega
          rw [e]
          exact fun w => absurd (hq2.mpr w) (by omega)
  exact ⟨L - i + 1, key (L - i) i _ (by omega) (by omega) (Nat.le_refl _) (fun j h1 h2 => by omega)⟩
theorem cx_lower {post : Int32 → Prop} {x : Int32} (c : Nat) (hx : x = nI c) (hc : c ≤ 126) (h : post (nI (cf_lo c))) : wpX_lower post () x := by
  subst hx
  refine pk_lt c 65 (fun z => ?_) (fun z => pk_lt 90 c (fun z2 => ?_) (fun z2 => ?_))
  · have e : cf_lo c = c := by unfold cf_lo; rw [if_neg (by omega)]
    rw [e] at h
    exact h
  · have e : cf_lo c = c := by unfold cf_lo; rw [if_neg (by omega)]
    rw [e] at h
    exact h
  · have e : cf_lo c = c + 32 := by unfold cf_lo; rw [if_pos (by omega)]
    rw [e, ← nI_add] at h
    exact h
theorem cx_app {post : St2 → Prop} {x : Int32} {n : Nat} {l : List Nat} (c : Nat) (hx : x = nI c) (hn : n < 49) (hK : cf_K a_canon n l) (h : ∀ a, cf_K a (n + 1) (l ++ [c]) → post (f_maxUrls, f_defaultDelay, f_clock, f_bufferLength, nI (n + 1), f_canonHost, f_canonHostLength, f_canonPath, f_schemePort, f_partLength, f_urlCount, f_urlChars, f_hostCount, f_ruleCount, f_ruleChars, a_buffer, a, a_part, a_urlPool, a_urlStart, a_urlLength, a_urlPath, a_urlHost, a_urlState, a_urlTime, a_names, a_nameLength, a_hostDelay, a_hostNext, a_rulePool, a_ruleStart, a_ruleLength, a_ruleHost)) : wpX_append post (f_maxUrls, f_defaultDelay, f_clock, f_bufferLength, nI n, f_canonHost, f_canonHostLength, f_canonPath, f_schemePort, f_partLength, f_urlCount, f_urlChars, f_hostCount, f_ruleCount, f_ruleChars, a_buffer, a_canon, a_part, a_urlPool, a_urlStart, a_urlLength, a_urlPath, a_urlHost, a_urlState, a_urlTime, a_names, a_nameLength, a_hostDelay, a_hostNext, a_rulePool, a_ruleStart, a_ruleLength, a_ruleHost) x := by
  subst hx
  refine pk_le 49 n (fun z => by omega) (fun z => ⟨pk_in n 49 hn, ?_⟩)
  refine nm_r (e' := upd a_canon n (nI c)) (by rw [pk_cl n]) (nm_r (nI_1 n) (h _ (cf_Ka c hK)))
theorem cx_addp {post : St2 → Prop} {x : Int32} {n : Nat} {l : List Nat} (c : Nat) (hx : x = nI c) (hn : n < 48) (hK : cf_K a_part n l) (h : ∀ a, cf_K a (n + 1) (l ++ [c]) → post (f_maxUrls, f_defaultDelay, f_clock, f_bufferLength, f_canonLength, f_canonHost, f_canonHostLength, f_canonPath, f_schemePort, nI (n + 1), f_urlCount, f_urlChars, f_hostCount, f_ruleCount, f_ruleChars, a_buffer, a_canon, a, a_urlPool, a_urlStart, a_urlLength, a_urlPath, a_urlHost, a_urlState, a_urlTime, a_names, a_nameLength, a_hostDelay, a_hostNext, a_rulePool, a_ruleStart, a_ruleLength, a_ruleHost)) : wpX_addToPart post (f_maxUrls, f_defaultDelay, f_clock, f_bufferLength, f_canonLength, f_canonHost, f_canonHostLength, f_canonPath, f_schemePort, nI n, f_urlCount, f_urlChars, f_hostCount, f_ruleCount, f_ruleChars, a_buffer, a_canon, a_part, a_urlPool, a_urlStart, a_urlLength, a_urlPath, a_urlHost, a_urlState, a_urlTime, a_names, a_nameLength, a_hostDelay, a_hostNext, a_rulePool, a_ruleStart, a_ruleLength, a_ruleHost) x := by
  subst hx
  refine pk_le 48 n (fun z => by omega) (fun z => ⟨pk_in n 48 hn, ?_⟩)
  refine nm_r (e' := upd a_part n (nI c)) (by rw [pk_cl n]) (nm_r (nI_1 n) (h _ (cf_Ka c hK)))
theorem cx_isDigit {post : Int32 → Prop} {x : Int32} (c : Nat) (hx : x = nI c) (hc : c ≤ 126) (h1 : 48 ≤ c ∧ c ≤ 57 → post 1) (h0 : ¬ (48 ≤ c ∧ c ≤ 57) → post 0) : wpX_isDigit post () x := by
  subst hx
  exact pk_lt c 48 (fun z => h0 (by omega)) (fun z => pk_lt 57 c (fun z2 => h0 (by omega)) (fun z2 => h1 (by omega)))
theorem cx_host36 {post : Int32 → Prop} {c : Nat} (hc : c ≤ 255) (hn : ¬ ((97 ≤ c ∧ c ≤ 122) ∨ (65 ≤ c ∧ c ≤ 90) ∨ (48 ≤ c ∧ c ≤ 57))) (h1 : cf_HC c → post 1) (h0 : ¬ cf_HC c → post 0) : wX_isHostCharacter_36 post (nI c) :=
  pk_eq c 45 (fun z => h1 (by unfold cf_HC; omega)) (fun z => pk_eq c 46 (fun z2 => h1 (by unfold cf_HC; omega)) (fun z2 => h0 (by unfold cf_HC; omega)))
theorem cx_host24 {post : Int32 → Prop} {c : Nat} (hc : c ≤ 255) (hn : ¬ ((97 ≤ c ∧ c ≤ 122) ∨ (65 ≤ c ∧ c ≤ 90))) (h1 : cf_HC c → post 1) (h0 : ¬ cf_HC c → post 0) : wX_isHostCharacter_24 post (nI c) :=
  pk_lt c 48 (fun z => cx_host36 hc (by omega) h1 h0) (fun z => pk_le c 57 (fun z2 => h1 (by unfold cf_HC; omega)) (fun z2 => cx_host36 hc (by omega) h1 h0))
theorem cx_host12 {post : Int32 → Prop} {c : Nat} (hc : c ≤ 255) (hn : ¬ (97 ≤ c ∧ c ≤ 122)) (h1 : cf_HC c → post 1) (h0 : ¬ cf_HC c → post 0) : wX_isHostCharacter_12 post (nI c) :=
  pk_lt c 65 (fun z => cx_host24 hc (by omega) h1 h0) (fun z => pk_le c 90 (fun z2 => h1 (by unfold cf_HC; omega)) (fun z2 => cx_host24 hc (by omega) h1 h0))
theorem cx_isHost {post : Int32 → Prop} {x : Int32} (c : Nat) (hx : x = nI c) (hc : c ≤ 255) (h1 : cf_HC c → post 1) (h0 : ¬ cf_HC c → post 0) : wpX_isHostCharacter post () x := by
  subst hx
  exact pk_lt c 97 (fun z => cx_host12 hc (by omega) h1 h0) (fun z => pk_le c 122 (fun z2 => h1 (by unfold cf_HC; omega)) (fun z2 => cx_host12 hc (by omega) h1 h0))
theorem cx_hex32 {post : Int32 → Prop} {c : Nat} (hc : c ≤ 126) (hn : ¬ (48 ≤ c ∧ c ≤ 57) ∧ ¬ (65 ≤ c ∧ c ≤ 70)) (h1 : cf_hv c < 16 → post (nI (cf_hv c))) (h0 : ¬ cf_hv c < 16 → post (-1)) : wX_hexValue_32 post (nI c) := by
  refine pk_lt c 97 (fun z => h0 ?_) (fun z => pk_lt 102 c (fun z2 => h0 ?_) (fun z2 => ?_))
  · unfold cf_hv; rw [if_neg hn.1, if_neg hn.2, if_neg (by omega)]; omega
  · unfold cf_hv; rw [if_neg hn.1, if_neg hn.2, if_neg (by omega)]; omega
  · have e : cf_hv c = c - 97 + 10 := by unfold cf_hv; rw [if_neg hn.1, if_neg hn.2, if_pos (by omega)]; omega
    have h := h1 (by omega)
    rw [e, ← nI_add, ← pk_sub (by omega)] at h
    exact h
theorem cx_hex {post : Int32 → Prop} {x : Int32} (c : Nat) (hx : x = nI c) (hc : c ≤ 126) (h1 : cf_hv c < 16 → post (nI (cf_hv c))) (h0 : ¬ cf_hv c < 16 → post (-1)) : wpX_hexValue post () x := by
  subst hx
  refine cx_isDigit c rfl hc (fun z => br_f (by decide) ?_) (fun z => br_t rfl (pk_lt c 65 (fun z1 => cx_hex32 hc ⟨z, by omega⟩ h1 h0) (fun z1 => pk_lt 70 c (fun z2 => cx_hex32 hc ⟨z, by omega⟩ h1 h0) (fun z2 => ?_))))
  · have e : cf_hv c = c - 48 := by unfold cf_hv; rw [if_pos z]
    have h := h1 (by omega)
    rw [e, ← pk_sub (by omega)] at h
    exact h
  · have e : cf_hv c = c - 65 + 10 := by unfold cf_hv; rw [if_neg z, if_pos (by omega)]; omega
    have h := h1 (by omega)
    rw [e, ← nI_add, ← pk_sub (by omega)] at h
    exact h
theorem cx_hexd {post : Int32 → Prop} {v : Nat} (hv : v < 16) (h : post (nI (cf_hd v))) : wpX_hexDigit post () (nI v) := by
  refine pk_le 10 v (fun z => ?_) (fun z => ?_)
  · have e : cf_hd v = 65 + v - 10 := by unfold cf_hd; rw [if_neg (by omega)]; omega
    rw [e, ← pk_sub (by omega), ← nI_add] at h
    exact h
  · have e : cf_hd v = 48 + v := by unfold cf_hd; rw [if_pos z]
    rw [e, ← nI_add] at h
    exact h
end
