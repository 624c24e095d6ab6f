/-! the class: the port -/
section
variable {f_maxUrls f_defaultDelay f_clock f_bufferLength f_canonLength f_canonHost f_canonHostLength f_canonPath f_schemePort f_partLength f_urlCount f_urlChars f_hostCount f_ruleCount f_ruleChars : Int32} {a_buffer a_canon a_part a_urlPool a_urlStart a_urlLength a_urlPath a_urlHost a_urlState a_urlTime a_names a_nameLength a_hostDelay a_hostNext a_rulePool a_ruleStart a_ruleLength a_ruleHost : Nat → Int32}
variable {t : Nat → Nat} {L : Nat}
theorem cx_p25 {post : St2 → Prop} {J : Int32 → Int32 → Int32 → Int32 → Int32 → Int32 → Int32 → Int32 → Int32 → Int32 → Int32 → Int32 → Int32 → Int32 → Int32 → Int32 → (Nat → Int32) → (Nat → Int32) → (Nat → Int32) → (Nat → Int32) → (Nat → Int32) → (Nat → Int32) → (Nat → Int32) → (Nat → Int32) → (Nat → Int32) → (Nat → Int32) → (Nat → Int32) → (Nat → Int32) → (Nat → Int32) → (Nat → Int32) → (Nat → Int32) → (Nat → Int32) → (Nat → Int32) → (Nat → Int32) → Prop} {v un n : Nat} {l : List Nat} (hv : v ≤ 65535) (hu : 0 < un) (hu2 : un ≤ 10000) (hn : n < 49) (hK : cf_K a_canon n l) (h : ∀ a, cf_K a (n + 1) (l ++ [48 + v / un % 10]) → J (nI (un / 10)) f_maxUrls f_defaultDelay f_clock f_bufferLength (nI (n + 1)) f_canonHost f_canonHostLength f_canonPath f_schemePort f_partLength f_urlCount f_urlChars f_hostCount f_ruleCount f_ruleChars a_buffer a a_part a_urlPool a_urlStart a_urlLength a_urlPath a_urlHost a_urlState a_urlTime a_names a_nameLength a_hostDelay a_hostNext a_rulePool a_ruleStart a_ruleLength a_ruleHost) : wX_appendPort_25 post J (nI v) (nI un) f_maxUrls f_defaultDelay f_clock f_bufferLength (nI n) f_canonHost f_canonHostLength f_canonPath f_schemePort f_partLength f_urlCount f_urlChars f_hostCount f_ruleCount f_ruleChars a_buffer a_canon a_part a_urlPool a_urlStart a_urlLength a_urlPath a_urlHost a_urlState a_urlTime a_names a_nameLength a_hostDelay a_hostNext a_rulePool a_ruleStart a_ruleLength a_ruleHost := by
  have hq : v / un ≤ v := Nat.div_le_self _ _
  have e : (48 : Int32) + ((nI v / nI un) - (nI v / nI un) / 10 * 10) = nI (48 + v / un % 10) := by
    rw [pk_div (by omega) hu (by omega)]
    exact (congrArg (fun z => nI 48 + z) (pk_rem (a := v / un) (d := 10) (by omega) (by decide) (by decide))).trans (nI_add 48 _)
  exact ⟨nI_ne0 hu (by omega), by decide, cx_app (48 + v / un % 10) e hn hK (fun a hK' => ⟨by decide, nm_r (pk_div (d := 10) (by omega) (by decide) (by decide)) (h a hK')⟩)⟩
theorem cx_portLoop {post : St2 → Prop} {v : Nat} (hv : v ≤ 65535) : ∀ m n l a f, m ≤ 4 → cf_K a n l → n + m + 1 ≤ 49 → m + 1 < f → (∀ a', cf_K a' (n + (cf_dy m v).length) (l ++ cf_dy m v) → post (f_maxUrls, f_defaultDelay, f_clock, f_bufferLength, nI (n + (cf_dy m v).length), f_canonHost, f_canonHostLength, f_canonPath, f_schemePort, f_partLength, f_urlCount, f_urlChars, f_hostCount, f_ruleCount, f_ruleChars, a_buffer, a', a_part, a_urlPool, a_urlStart, a_urlLength, a_urlPath, a_urlHost, a_urlState, a_urlTime, a_names, a_nameLength, a_hostDelay, a_hostNext, a_rulePool, a_ruleStart, a_ruleLength, a_ruleHost)) → wX_appendPort_10 post (nI v) f (nI (10 ^ m)) f_maxUrls f_defaultDelay f_clock f_bufferLength (nI n) f_canonHost f_canonHostLength f_canonPath f_schemePort f_partLength f_urlCount f_urlChars f_hostCount f_ruleCount f_ruleChars a_buffer a a_part a_urlPool a_urlStart a_urlLength a_urlPath a_urlHost a_urlState a_urlTime a_names a_nameLength a_hostDelay a_hostNext a_rulePool a_ruleStart a_ruleLength a_ruleHost := by
  intro m
  induction m with
  | zero =>
    intro n l a f hm hK hn hf h
    obtain ⟨g, rfl⟩ : ∃ g, f = g + 1 + 1 := ⟨f - 2, by omega⟩
    have fin : wX_appendPort_25 post (wX_appendPort_10 post (nI v) (g + 1)) (nI v) (nI 1) f_maxUrls f_defaultDelay f_clock f_bufferLength (nI n) f_canonHost f_canonHostLength f_canonPath f_schemePort f_partLength f_urlCount f_urlChars f_hostCount f_ruleCount f_ruleChars a_buffer a a_part a_urlPool a_urlStart a_urlLength a_urlPath a_urlHost a_urlState a_urlTime a_names a_nameLength a_hostDelay a_hostNext a_rulePool a_ruleStart a_ruleLength a_ruleHost := by
      refine cx_p25 hv (by omega) (by omega) (by omega) hK (fun a' hK' => ?_)
      rw [Nat.div_one] at hK'
      exact pk_lt 0 1 (fun _ => h a' hK') (fun z => by omega)
    exact pk_lt 1 1 (fun z => by omega) (fun _ => br_c (fun _ => fin) (fun _ => br_t rfl fin))
  | succ m ih =>
    intro n l a f hm hK hn hf h
    obtain ⟨g, rfl⟩ : ∃ g, f = g + 1 := ⟨f - 1, by omega⟩
    have p0 : 0 < 10 ^ m := Nat.pow_pos (by decide)
    have p4 : 10 ^ m ≤ 10 ^ 3 := Nat.pow_le_pow_right (by decide) (by omega)
    have ps : 10 ^ (m + 1) = 10 ^ m * 10 := Nat.pow_succ 10 m
    have pd : 10 ^ (m + 1) / 10 = 10 ^ m := by rw [ps]; exact Nat.mul_div_cancel _ (by decide)
    have p5 : 10 ^ (m + 1) ≤ 10000 := by omega
    refine pk_lt (10 ^ (m + 1)) 1 (fun z => by omega) (fun _ => pk_le (10 ^ (m + 1)) v (fun z => ?_) (fun z => pk_eq (10 ^ (m + 1)) 1 (fun z2 => by omega) (fun z2 => ⟨by decide, ?_⟩)))
    · refine cx_p25 hv (by omega) p5 (by omega) hK (fun a' hK' => ?_)
      rw [pd]
      refine ih (n + 1) _ a' g (by omega) hK' (by omega) (by omega) (fun a2 hK2 => ?_)
      have e : cf_dy (m + 1) v = (48 + v / 10 ^ (m + 1) % 10) :: cf_dy m v := cf_dyT z
      have e2 : n + (cf_dy (m + 1) v).length = n + 1 + (cf_dy m v).length := by rw [e, List.length_cons]; omega
      have h' := h a2
      rw [e2, e] at h'
      rw [List.append_assoc] at hK2
      exact h' hK2
    · refine nm_r (e' := nI (10 ^ m)) ((pk_div (a := 10 ^ (m + 1)) (d := 10) (by omega) (by decide) (by decide)).trans (by rw [pd])) (ih n l a g (by omega) hK (by omega) (by omega) (fun a2 hK2 => ?_))
      have e : cf_dy (m + 1) v = cf_dy m v := cf_dyF (by omega)
      have h' := h a2
      rw [e] at h'
      exact h' hK2
theorem cx_appendPort {post : St2 → Prop} {v n : Nat} {l : List Nat} (hv : v ≤ 65535) (hn : n ≤ 40) (hK : cf_K a_canon n l) (h : ∀ a, cf_K a (n + (58 :: cf_dy 4 v).length) (l ++ (58 :: cf_dy 4 v)) → post (f_maxUrls, f_defaultDelay, f_clock, f_bufferLength, nI (n + (58 :: cf_dy 4 v).length), f_canonHost, f_canonHostLength, f_canonPath, f_schemePort, f_partLength, f_urlCount, f_urlChars, f_hostCount, f_ruleCount, f_ruleChars, a_buffer, a, a_part, a_urlPool, a_urlStart, a_urlLength, a_urlPath, a_urlHost, a_urlState, a_urlTime, a_names, a_nameLength, a_hostDelay, a_hostNext, a_rulePool, a_ruleStart, a_ruleLength, a_ruleHost)) : wpX_appendPort post (f_maxUrls, f_defaultDelay, f_clock, f_bufferLength, nI n, f_canonHost, f_canonHostLength, f_canonPath, f_schemePort, f_partLength, f_urlCount, f_urlChars, f_hostCount, f_ruleCount, f_ruleChars, a_buffer, a_canon, a_part, a_urlPool, a_urlStart, a_urlLength, a_urlPath, a_urlHost, a_urlState, a_urlTime, a_names, a_nameLength, a_hostDelay, a_hostNext, a_rulePool, a_ruleStart, a_ruleLength, a_ruleHost) (nI v) := by
  unfold wpX_appendPort
  dsimp only
  refine cx_app 58 rfl (by omega) hK (fun a hK' => ⟨7, cx_portLoop hv 4 (n + 1) (l ++ [58]) a 7 (by omega) hK' (by omega) (by omega) (fun a2 hK2 => ?_)⟩)
  have h' := h a2
  have e : n + (58 :: cf_dy 4 v).length = n + 1 + (cf_dy 4 v).length := by rw [List.length_cons]; omega
  rw [e] at h'
  rw [List.append_assoc] at hK2
  exact h' hK2
theorem cx_portDigits {post : Int32 → St2 → Prop} {fr p c n : Nat} {l : List Nat} (hb : ∀ j, a_buffer j = nI (t j)) (ht : ∀ j, t j ≤ 126) (hp : p ≤ 48) (h5 : p ≤ fr + 5) (hn : n ≤ 40) (hK : cf_K a_canon n l) (hN : ¬ ((∀ j, fr ≤ j → j < p → 48 ≤ t j ∧ t j ≤ 57) ∧ cf_pv t fr (p - fr) ≤ 65535) → post (-1) (f_maxUrls, f_defaultDelay, f_clock, f_bufferLength, nI n, f_canonHost, f_canonHostLength, f_canonPath, nI (cf_dp c), f_partLength, f_urlCount, f_urlChars, f_hostCount, f_ruleCount, f_ruleChars, a_buffer, a_canon, a_part, a_urlPool, a_urlStart, a_urlLength, a_urlPath, a_urlHost, a_urlState, a_urlTime, a_names, a_nameLength, a_hostDelay, a_hostNext, a_rulePool, a_ruleStart, a_ruleLength, a_ruleHost)) (hY : (∀ j, fr ≤ j → j < p → 48 ≤ t j ∧ t j ≤ 57) → cf_pv t fr (p - fr) ≤ 65535 → ∀ a, cf_K a (n + (cf_po c (cf_pv t fr (p - fr))).length) (l ++ cf_po c (cf_pv t fr (p - fr))) → post (nI p) (f_maxUrls, f_defaultDelay, f_clock, f_bufferLength, nI (n + (cf_po c (cf_pv t fr (p - fr))).length), f_canonHost, f_canonHostLength, f_canonPath, nI (cf_dp c), f_partLength, f_urlCount, f_urlChars, f_hostCount, f_ruleCount, f_ruleChars, a_buffer, a, a_part, a_urlPool, a_urlStart, a_urlLength, a_urlPath, a_urlHost, a_urlState, a_urlTime, a_names, a_nameLength, a_hostDelay, a_hostNext, a_rulePool, a_ruleStart, a_ruleLength, a_ruleHost)) : ∀ d k f, fr + k + d = p → d < f → (∀ j, fr ≤ j → j < fr + k → 48 ≤ t j ∧ t j ≤ 57) → wX_takePort_54 post (nI p) f_maxUrls f_defaultDelay f_clock f_bufferLength (nI n) f_canonHost f_canonHostLength f_canonPath (nI (cf_dp c)) f_partLength f_urlCount f_urlChars f_hostCount f_ruleCount f_ruleChars a_buffer a_canon a_part a_urlPool a_urlStart a_urlLength a_urlPath a_urlHost a_urlState a_urlTime a_names a_nameLength a_hostDelay a_hostNext a_rulePool a_ruleStart a_ruleLength a_ruleHost f (nI (cf_pv t fr k)) (nI (fr + k)) := by
  intro d
  induction d with
  | zero =>
    intro k f hk hf hj
    have e : p - fr = k := by omega
    cases f with
    | zero => omega
    | succ f =>
      have b1 : cf_pv t fr k < 10 ^ k := cf_pvB k (fun j h => (hj (fr + j) (by omega) (by omega)).2)
      have b2 : 10 ^ k ≤ 10 ^ 5 := Nat.pow_le_pow_right (by decide) (by omega)
      have b3 : cf_dp c ≤ 443 := by unfold cf_dp; split <;> omega
      rw [e] at hN hY
      have hj' : ∀ j, fr ≤ j → j < p → 48 ≤ t j ∧ t j ≤ 57 := fun j h1 h2 => hj j h1 (by omega)
      refine pk_le p (fr + k) (fun _ => pk_le (cf_pv t fr k) 65535 (fun z => pk_eq (cf_pv t fr k) (cf_dp c) (fun z2 => ?_) (fun z2 => ?_)) (fun z => hN (fun w => by omega))) (fun z => by omega)
      · have g := hY hj' z a_canon
        have e2 : cf_po c (cf_pv t fr k) = [] := by unfold cf_po; rw [if_pos z2]
        rw [e2, List.append_nil] at g
        exact g hK
      · have e2 : cf_po c (cf_pv t fr k) = 58 :: cf_dy 4 (cf_pv t fr k) := by unfold cf_po; rw [if_neg z2]
        refine cx_appendPort z hn hK (fun a hK' => ?_)
        have g := hY hj' z a
        rw [e2] at g
        exact g hK'
  | succ d ih =>
    intro k f hk hf hj
    cases f with
    | zero => omega
    | succ f =>
      refine pk_le p (fr + k) (fun z => by omega) (fun z => ⟨pk_in (fr + k) 48 (by omega), cx_isDigit (t (fr + k)) (cf_rd hb (fr + k)) (ht _) (fun c1 => br_f (by decide) ⟨pk_in (fr + k) 48 (by omega), ?_⟩) (fun c1 => br_t rfl (hN (fun w => c1 (w.1 (fr + k) (by omega) (by omega)))))⟩)
      have e : ((nI (cf_pv t fr k) * 10) + (a_buffer (nI (fr + k)).toNatClampNeg)) - 48 = nI (cf_pv t fr (k + 1)) := by
        rw [cf_rd hb (fr + k)]
        refine (congrArg (fun z => z + nI (t (fr + k)) - 48) (pk_mul (cf_pv t fr k) 10)).trans ?_
        show nI (cf_pv t fr k * 10) + nI (t (fr + k)) - nI 48 = _
        rw [nI_add, pk_sub (by omega)]
        refine congrArg nI ?_
        show _ = cf_pv t fr k * 10 + (t (fr + k) - 48)
        omega
      refine nm_r e (nm_r (nI_1 (fr + k)) (ih (k + 1) f (by omega) (by omega) (fun j h1 h2 => ?_)))
      rcases Nat.lt_or_ge j (fr + k) with y | y
      · exact hj j h1 y
      · have ej : j = fr + k := by omega
        rw [ej]
        exact c1
theorem cx_takePort {post : Int32 → St2 → Prop} {he c : Nat} {l : List Nat} (hL : L ≤ 48) (hhe : he ≤ L) (h8 : he ≤ 30) (hb : ∀ j, a_buffer j = nI (t j)) (ht : ∀ j, t j ≤ 126) (hK : cf_K a_canon he l) (hN : (∀ p po, ¬ cf_PO t L c he p po) → post (-1) (f_maxUrls, f_defaultDelay, f_clock, nI L, nI he, f_canonHost, f_canonHostLength, f_canonPath, nI (cf_dp c), f_partLength, f_urlCount, f_urlChars, f_hostCount, f_ruleCount, f_ruleChars, a_buffer, a_canon, a_part, a_urlPool, a_urlStart, a_urlLength, a_urlPath, a_urlHost, a_urlState, a_urlTime, a_names, a_nameLength, a_hostDelay, a_hostNext, a_rulePool, a_ruleStart, a_ruleLength, a_ruleHost)) (hY : ∀ p po, cf_PO t L c he p po → ∀ a, cf_K a (he + po.length) (l ++ po) → post (nI p) (f_maxUrls, f_defaultDelay, f_clock, nI L, nI (he + po.length), f_canonHost, f_canonHostLength, f_canonPath, nI (cf_dp c), f_partLength, f_urlCount, f_urlChars, f_hostCount, f_ruleCount, f_ruleChars, a_buffer, a, a_part, a_urlPool, a_urlStart, a_urlLength, a_urlPath, a_urlHost, a_urlState, a_urlTime, a_names, a_nameLength, a_hostDelay, a_hostNext, a_rulePool, a_ruleStart, a_ruleLength, a_ruleHost)) : wpX_takePort post (f_maxUrls, f_defaultDelay, f_clock, nI L, nI he, f_canonHost, f_canonHostLength, f_canonPath, nI (cf_dp c), f_partLength, f_urlCount, f_urlChars, f_hostCount, f_ruleCount, f_ruleChars, a_buffer, a_canon, a_part, a_urlPool, a_urlStart, a_urlLength, a_urlPath, a_urlHost, a_urlState, a_urlTime, a_names, a_nameLength, a_hostDelay, a_hostNext, a_rulePool, a_ruleStart, a_ruleLength, a_ruleHost) (nI he) := by
  have h0 : cf_PO t L c he he [] → post (nI he) (f_maxUrls, f_defaultDelay, f_clock, nI L, nI he, f_canonHost, f_canonHostLength, f_canonPath, nI (cf_dp c), f_partLength, f_urlCount, f_urlChars, f_hostCount, f_ruleCount, f_ruleChars, a_buffer, a_canon, a_part, a_urlPool, a_urlStart, a_urlLength, a_urlPath, a_urlHost, a_urlState, a_urlTime, a_names, a_nameLength, a_hostDelay, a_hostNext, a_rulePool, a_ruleStart, a_ruleLength, a_ruleHost) := fun h => hY he [] h a_canon (by rw [List.append_nil]; exact hK)
  refine pk_le L he (fun z => h0 (Or.inl ⟨fun w => absurd w.1 (by omega), rfl, rfl⟩)) (fun z => ⟨pk_in he 48 (by omega), cf_eqc (t he) 58 (cf_rd hb he) (by have := ht he; omega) (fun z1 => nm_r (nI_1 he) (cx_partEnd (r := 3) hb ht (by omega) hL (by omega) (fun p hE => ?_))) (fun z1 => h0 (Or.inl ⟨fun w => z1 w.2, rfl, rfl⟩))⟩)
  have hE1 := hE.1
  have hE2 := hE.2.1
  have no : ∀ p' po, cf_PO t L c he p' po → cf_Po t L (he + 1) p := by
    intro p' po h
    rcases h with ⟨w, -, -⟩ | ⟨-, w, -⟩
    · exact absurd ⟨z, z1⟩ w
    · have e := cf_IEu w.1 hE
      subst e
      exact w
  have es : nI p - nI (he + 1) = nI (p - (he + 1)) := pk_sub hE1
  refine pk_lt (p - (he + 1)) 1 (fun z2 => hN (fun p' po h => ?_)) (fun z2 => pk_le (p - (he + 1)) 5 (fun z3 => ⟨p - (he + 1) + 1, ?_⟩) (fun z3 => hN (fun p' po h => ?_)) es) es
  · have := (no p' po h).2.1; omega
  · refine cx_portDigits (fr := he + 1) (p := p) (c := c) (n := he) (l := l) hb ht (by omega) (by omega) (by omega) hK (fun w => hN (fun p' po h => w ⟨(no p' po h).2.2.2.1, (no p' po h).2.2.2.2⟩)) (fun w1 w2 a hK' => hY p _ (Or.inr ⟨⟨z, z1⟩, ⟨hE, by omega, by omega, w1, w2⟩, rfl⟩) a hK') (p - (he + 1)) 0 _ (by omega) (by omega) (fun j h1 h2 => by omega)
  · have := (no p' po h).2.2.1; omega
end
