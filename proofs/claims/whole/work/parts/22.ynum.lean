/-! the reference: the port's digits -/
section
variable {f_maxUrls f_defaultDelay f_clock f_bufferLength f_urlCount f_hostCount f_ruleCount f_cLen f_cHost f_cHostLen f_cPq f_decLen f_segN : Int32} {a_buffer a_urlPool a_urlStart a_urlLength a_urlState a_urlHost a_urlTime a_names a_nameLength a_hostDelay a_hostNext a_hostSent a_rulePool a_ruleStart a_ruleLength a_ruleHost a_ycanon a_dec a_segS a_segL : Nat → Int32}
variable {t : Nat → Nat} {L : Nat}
theorem cy_num0 {post : SY → Prop} {x : Int32} (h : post (f_maxUrls, f_defaultDelay, f_clock, f_bufferLength, f_urlCount, f_hostCount, f_ruleCount, f_cLen, f_cHost, f_cHostLen, f_cPq, f_decLen, f_segN, a_buffer, a_urlPool, a_urlStart, a_urlLength, a_urlState, a_urlHost, a_urlTime, a_names, a_nameLength, a_hostDelay, a_hostNext, a_hostSent, a_rulePool, a_ruleStart, a_ruleLength, a_ruleHost, a_ycanon, a_dec, a_segS, a_segL)) : ∀ r k f, k + r = 6 → r < f → wY_emitNumber_30 post x f 0 (nI k) f_maxUrls f_defaultDelay f_clock f_bufferLength f_urlCount f_hostCount f_ruleCount f_cLen f_cHost f_cHostLen f_cPq f_decLen f_segN a_buffer a_urlPool a_urlStart a_urlLength a_urlState a_urlHost a_urlTime a_names a_nameLength a_hostDelay a_hostNext a_hostSent a_rulePool a_ruleStart a_ruleLength a_ruleHost a_ycanon a_dec a_segS a_segL := by
  intro r
  induction r with
  | zero =>
    intro k f hk hf
    cases f with
    | zero => omega
    | succ f => exact pk_le 6 k (fun _ => h) (fun z => by omega)
  | succ r ih =>
    intro k f hk hf
    cases f with
    | zero => omega
    | succ f => exact pk_le 6 k (fun z => by omega) (fun _ => br_t (by decide) (nm_r (nI_1 k) (ih (k + 1) f (by omega) (by omega))))
theorem cy_num30 {post : SY → Prop} {v : Nat} (hv : v ≤ 65535) : ∀ m n l a k f, m ≤ 4 → m + k ≤ 5 → cf_K a n l → n + m + 1 ≤ 64 → 6 - k < f → (∀ a', cf_K a' (n + (cf_dg m v).length) (l ++ cf_dg m v) → post (f_maxUrls, f_defaultDelay, f_clock, f_bufferLength, f_urlCount, f_hostCount, f_ruleCount, nI (n + (cf_dg m v).length), f_cHost, f_cHostLen, f_cPq, f_decLen, f_segN, a_buffer, a_urlPool, a_urlStart, a_urlLength, a_urlState, a_urlHost, a_urlTime, a_names, a_nameLength, a_hostDelay, a_hostNext, a_hostSent, a_rulePool, a_ruleStart, a_ruleLength, a_ruleHost, a', a_dec, a_segS, a_segL)) → wY_emitNumber_30 post (nI v) f (nI (10 ^ m)) (nI k) f_maxUrls f_defaultDelay f_clock f_bufferLength f_urlCount f_hostCount f_ruleCount (nI n) f_cHost f_cHostLen f_cPq f_decLen f_segN a_buffer a_urlPool a_urlStart a_urlLength a_urlState a_urlHost a_urlTime a_names a_nameLength a_hostDelay a_hostNext a_hostSent a_rulePool a_ruleStart a_ruleLength a_ruleHost a a_dec a_segS a_segL := by
  intro m
  induction m with
  | zero =>
    intro n l a k f hm hk hK hn hf h
    obtain ⟨g, rfl⟩ : ∃ g, f = g + 1 := ⟨f - 1, by omega⟩
    have e : (48 : Int32) + ((nI v / nI 1) - (nI v / nI 1) / 10 * 10) = nI (48 + v % 10) := by
      rw [pk_div (by omega) (by omega) (by omega), Nat.div_one]
      exact (congrArg (fun z => nI 48 + z) (pk_rem (a := v) (d := 10) (by omega) (by decide) (by decide))).trans (nI_add 48 _)
    refine pk_le 6 k (fun z => by omega) (fun _ => br_f (by decide) ⟨by decide, by decide, cy_emit (48 + v % 10) e (by omega) hK (fun a' hK' => ⟨by decide, nm_r (e' := 0) (by decide) (nm_r (nI_1 k) (cy_num0 (h a' hK') (6 - (k + 1)) (k + 1) g (by omega) (by omega)))⟩)⟩)
  | succ m ih =>
    intro n l a k f hm hk hK hn hf h
    obtain ⟨g, rfl⟩ : ∃ g, f = g + 1 := ⟨f - 1, by omega⟩
    have p0 : 0 < 10 ^ m := Nat.pow_pos (by decide)
    have p4 : 10 ^ m ≤ 10 ^ 3 := Nat.pow_le_pow_right (by decide) (by omega)
    have ps : 10 ^ (m + 1) = 10 ^ m * 10 := Nat.pow_succ 10 m
    have pd : 10 ^ (m + 1) / 10 = 10 ^ m := by rw [ps]; exact Nat.mul_div_cancel _ (by decide)
    have p5 : 10 ^ (m + 1) ≤ 10000 := by omega
    have hq : v / 10 ^ (m + 1) ≤ v := Nat.div_le_self _ _
    have e : (48 : Int32) + ((nI v / nI (10 ^ (m + 1))) - (nI v / nI (10 ^ (m + 1))) / 10 * 10) = nI (48 + v / 10 ^ (m + 1) % 10) := by
      rw [pk_div (by omega) (by omega) (by omega)]
      exact (congrArg (fun z => nI 48 + z) (pk_rem (a := v / 10 ^ (m + 1)) (d := 10) (by omega) (by decide) (by decide))).trans (nI_add 48 _)
    refine pk_le 6 k (fun z => by omega) (fun _ => br_f (nI_nle (by omega) (by omega)) ⟨nI_ne0 (by omega) (by omega), by decide, cy_emit (48 + v / 10 ^ (m + 1) % 10) e (by omega) hK (fun a' hK' => ⟨by decide, nm_r (e' := nI (10 ^ m)) ((pk_div (a := 10 ^ (m + 1)) (d := 10) (by omega) (by decide) (by decide)).trans (by rw [pd])) (nm_r (nI_1 k) (ih (n + 1) _ a' (k + 1) g (by omega) (by omega) hK' (by omega) (by omega) (fun a2 hK2 => ?_)))⟩)⟩)
    have e2 : n + (cf_dg (m + 1) v).length = n + 1 + (cf_dg m v).length := by rw [cf_dgL, cf_dgL]; omega
    have h' := h a2
    rw [e2] at h'
    rw [List.append_assoc] at hK2
    exact h' hK2
theorem cy_num4 {post : SY → Prop} {v : Nat} (hv : v ≤ 65535) (h : ∀ j, j ≤ 4 → (j = 0 ∨ 10 ^ j ≤ v) → v < 10 ^ (j + 1) → ∃ f, wY_emitNumber_30 post (nI v) f (nI (10 ^ j)) 0 f_maxUrls f_defaultDelay f_clock f_bufferLength f_urlCount f_hostCount f_ruleCount f_cLen f_cHost f_cHostLen f_cPq f_decLen f_segN a_buffer a_urlPool a_urlStart a_urlLength a_urlState a_urlHost a_urlTime a_names a_nameLength a_hostDelay a_hostNext a_hostSent a_rulePool a_ruleStart a_ruleLength a_ruleHost a_ycanon a_dec a_segS a_segL) : ∀ r k j f, k + r = 5 → r < f → j ≤ k → (j = 0 ∨ 10 ^ j ≤ v) → (j < k → v < 10 ^ (j + 1)) → wY_emitNumber_4 post (nI v) f_maxUrls f_defaultDelay f_clock f_bufferLength f_urlCount f_hostCount f_ruleCount f_cLen f_cHost f_cHostLen f_cPq f_decLen f_segN a_buffer a_urlPool a_urlStart a_urlLength a_urlState a_urlHost a_urlTime a_names a_nameLength a_hostDelay a_hostNext a_hostSent a_rulePool a_ruleStart a_ruleLength a_ruleHost a_ycanon a_dec a_segS a_segL f (nI (10 ^ j)) (nI k) := by
  intro r
  induction r with
  | zero =>
    intro k j f hk hf hj h0 h1
    cases f with
    | zero => omega
    | succ f =>
      have j4 : j ≤ 4 := by
        rcases Nat.lt_or_ge 4 j with z | z
        · have e : j = 5 := by omega
          subst e
          omega
        · exact z
      exact pk_le 5 k (fun _ => h j j4 h0 (h1 (by omega))) (fun z => by omega)
  | succ r ih =>
    intro k j f hk hf hj h0 h1
    cases f with
    | zero => omega
    | succ f =>
      have p0 : 0 < 10 ^ j := Nat.pow_pos (by decide)
      have p4 : 10 ^ j ≤ 10 ^ 4 := Nat.pow_le_pow_right (by decide) (by omega)
      have ps : 10 ^ (j + 1) = 10 ^ j * 10 := Nat.pow_succ 10 j
      have hq : v / 10 ^ j ≤ v := Nat.div_le_self _ _
      refine pk_le 5 k (fun z => by omega) (fun _ => ⟨nI_ne0 p0 (by omega), pk_lt (v / 10 ^ j) 10 (fun z => nm_r (nI_1 k) (ih (k + 1) j f (by omega) (by omega) (by omega) h0 (fun _ => ?_))) (fun z => nm_r (e' := nI (10 ^ (j + 1))) ((pk_mul (10 ^ j) 10).trans (by rw [ps])) (nm_r (nI_1 k) (ih (k + 1) (j + 1) f (by omega) (by omega) (by omega) (Or.inr ?_) (fun y => ?_)))) (pk_div (by omega) p0 (by omega))⟩)
      · have q := (Nat.div_lt_iff_lt_mul p0).mp z
        omega
      · have q := (Nat.le_div_iff_mul_le p0).mp z
        omega
      · have q := (Nat.le_div_iff_mul_le p0).mp z
        have q2 := h1 (by omega)
        omega
theorem cy_num {post : SY → Prop} {v n : Nat} {l : List Nat} (hv : v ≤ 65535) (hn : n ≤ 50) (hK : cf_K a_ycanon n l) (h : ∀ a, cf_K a (n + (cf_dy 4 v).length) (l ++ cf_dy 4 v) → post (f_maxUrls, f_defaultDelay, f_clock, f_bufferLength, f_urlCount, f_hostCount, f_ruleCount, nI (n + (cf_dy 4 v).length), f_cHost, f_cHostLen, f_cPq, f_decLen, f_segN, a_buffer, a_urlPool, a_urlStart, a_urlLength, a_urlState, a_urlHost, a_urlTime, a_names, a_nameLength, a_hostDelay, a_hostNext, a_hostSent, a_rulePool, a_ruleStart, a_ruleLength, a_ruleHost, a, a_dec, a_segS, a_segL)) : wpY_emitNumber post (f_maxUrls, f_defaultDelay, f_clock, f_bufferLength, f_urlCount, f_hostCount, f_ruleCount, nI n, f_cHost, f_cHostLen, f_cPq, f_decLen, f_segN, a_buffer, a_urlPool, a_urlStart, a_urlLength, a_urlState, a_urlHost, a_urlTime, a_names, a_nameLength, a_hostDelay, a_hostNext, a_hostSent, a_rulePool, a_ruleStart, a_ruleLength, a_ruleHost, a_ycanon, a_dec, a_segS, a_segL) (nI v) := by
  refine ⟨6, cy_num4 hv (fun j h4 h0 h1 => ?_) 5 0 0 6 (by omega) (by omega) (by omega) (Or.inl rfl) (fun z => by omega)⟩
  have e : cf_dy 4 v = cf_dg j v := (cf_dyd 4 j v h4 h1).trans (cf_dyg j v h0)
  rw [e] at h
  exact ⟨7, cy_num30 hv j n l a_ycanon 0 7 h4 (by omega) hK (by omega) (by omega) h⟩
end
