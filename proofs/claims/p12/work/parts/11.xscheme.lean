/-! the class: scheme and host -/
theorem cf_ix {a : Nat → Int32} {x y : Int32} (i : Nat) (hx : x = nI i) (hi : i < 2 ^ 31) (h : a i = y) : a x.toNatClampNeg = y := by
  rw [pk_cl i hx hi]
  exact h
section
variable {f_maxUrls f_defaultDelay f_clock f_bufferLength f_canonLength f_canonHost f_canonHostLength f_canonPath f_schemePort f_partLength f_urlCount f_urlChars f_hostCount f_ruleCount f_ruleChars : Int32} {a_buffer a_canon a_part a_urlPool a_urlStart a_urlLength a_urlPath a_urlHost a_urlState a_urlTime a_names a_nameLength a_hostDelay a_hostNext a_rulePool a_ruleStart a_ruleLength a_ruleHost : Nat → Int32}
variable {t : Nat → Nat} {L : Nat}
theorem cx_s0 {post : Int32 → St2 → Prop} {e m : Nat} {s : Int32} (he : e ≤ 5) (h : post (-1) (f_maxUrls, f_defaultDelay, f_clock, f_bufferLength, f_canonLength, f_canonHost, f_canonHostLength, f_canonPath, f_schemePort, f_partLength, f_urlCount, f_urlChars, f_hostCount, f_ruleCount, f_ruleChars, a_buffer, a_canon, a_part, a_urlPool, a_urlStart, a_urlLength, a_urlPath, a_urlHost, a_urlState, a_urlTime, a_names, a_nameLength, a_hostDelay, a_hostNext, a_rulePool, a_ruleStart, a_ruleLength, a_ruleHost)) : wX_takeScheme_121 post (nI e) (nI m) 0 s f_maxUrls f_defaultDelay f_clock f_bufferLength f_canonLength f_canonHost f_canonHostLength f_canonPath f_schemePort f_partLength f_urlCount f_urlChars f_hostCount f_ruleCount f_ruleChars a_buffer a_canon a_part a_urlPool a_urlStart a_urlLength a_urlPath a_urlHost a_urlState a_urlTime a_names a_nameLength a_hostDelay a_hostNext a_rulePool a_ruleStart a_ruleLength a_ruleHost :=
  ⟨pk_in e 49 (by omega), br_c (fun _ => ⟨pk_in (e + 1) 49 (by omega) (nI_1 e), br_c (fun _ => ⟨pk_in (e + 2) 49 (by omega) (nI_add e 2), br_c (fun _ => br_t rfl h) (fun _ => br_t rfl h)⟩) (fun _ => br_t rfl h)⟩) (fun _ => br_t rfl h)⟩
theorem cx_s1 {post : Int32 → St2 → Prop} {e m : Nat} {s : Int32} (hs : (s = 0 ∧ e = 4) ∨ (s = 1 ∧ e = 5)) (hm : m = e + 3) (hL : m ≤ L) (ht : ∀ j, t j ≤ 126) (q : ∀ k, k < m → a_canon k = nI (cf_lo (t k))) (hH : cf_lo (t 0) = 104 ∧ cf_lo (t 1) = 116 ∧ cf_lo (t 2) = 116 ∧ cf_lo (t 3) = 112) (hN : ¬ cf_Sch t L e → post (-1) (f_maxUrls, f_defaultDelay, f_clock, f_bufferLength, f_canonLength, f_canonHost, f_canonHostLength, f_canonPath, f_schemePort, f_partLength, f_urlCount, f_urlChars, f_hostCount, f_ruleCount, f_ruleChars, a_buffer, a_canon, a_part, a_urlPool, a_urlStart, a_urlLength, a_urlPath, a_urlHost, a_urlState, a_urlTime, a_names, a_nameLength, a_hostDelay, a_hostNext, a_rulePool, a_ruleStart, a_ruleLength, a_ruleHost)) (hY : cf_Sch t L e → post (nI m) (f_maxUrls, f_defaultDelay, f_clock, f_bufferLength, f_canonLength, f_canonHost, f_canonHostLength, f_canonPath, nI (cf_dp e), f_partLength, f_urlCount, f_urlChars, f_hostCount, f_ruleCount, f_ruleChars, a_buffer, a_canon, a_part, a_urlPool, a_urlStart, a_urlLength, a_urlPath, a_urlHost, a_urlState, a_urlTime, a_names, a_nameLength, a_hostDelay, a_hostNext, a_rulePool, a_ruleStart, a_ruleLength, a_ruleHost)) : wX_takeScheme_121 post (nI e) (nI m) 1 s f_maxUrls f_defaultDelay f_clock f_bufferLength f_canonLength f_canonHost f_canonHostLength f_canonPath f_schemePort f_partLength f_urlCount f_urlChars f_hostCount f_ruleCount f_ruleChars a_buffer a_canon a_part a_urlPool a_urlStart a_urlLength a_urlPath a_urlHost a_urlState a_urlTime a_names a_nameLength a_hostDelay a_hostNext a_rulePool a_ruleStart a_ruleLength a_ruleHost := by
  have hl : ∀ k, cf_lo (t k) ≤ 70000 := fun k => Nat.le_trans (cf_loB (ht k)) (by decide)
  have he : e = 4 ∨ e = 5 := by rcases hs with ⟨-, h⟩ | ⟨-, h⟩ <;> omega
  refine ⟨pk_in e 49 (by omega), cf_eqc (cf_lo (t e)) 58 (cf_ix e rfl (by omega) (q e (by omega))) (hl e) (fun z1 => ⟨pk_in (e + 1) 49 (by omega) (nI_1 e), cf_eqc (cf_lo (t (e + 1))) 47 (cf_ix (e + 1) (nI_1 e) (by omega) (q (e + 1) (by omega))) (hl _) (fun z2 => ⟨pk_in (e + 2) 49 (by omega) (nI_add e 2), cf_eqc (cf_lo (t (e + 2))) 47 (cf_ix (e + 2) (nI_add e 2) (by omega) (q (e + 2) (by omega))) (hl _) (fun z3 => br_f (by decide) (br_f (by decide) ?_)) (fun z3 => br_f (by decide) (br_t rfl (hN (fun w => z3 (cf_lo47.mpr w.2.2.2.2.2.2.2.2.2)))))⟩) (fun z2 => br_f (by decide) (br_t rfl (hN (fun w => z2 (cf_lo47.mpr w.2.2.2.2.2.2.2.2.1)))))⟩) (fun z1 => br_f (by decide) (br_t rfl (hN (fun w => z1 (cf_lo58.mpr w.2.2.2.2.2.2.2.1)))))⟩
  rcases hs with ⟨rfl, rfl⟩ | ⟨rfl, rfl⟩
  · exact br_t rfl (br_t rfl (hY ⟨Or.inl rfl, by omega, hH.1, hH.2.1, hH.2.2.1, hH.2.2.2, fun z => by omega, cf_lo58.mp z1, cf_lo47.mp z2, cf_lo47.mp z3⟩))
  · exact br_f (by decide) (cf_eqc (cf_lo (t 4)) 115 (q 4 (by omega)) (hl 4) (fun z4 => br_f (by decide) (hY ⟨Or.inr rfl, by omega, hH.1, hH.2.1, hH.2.2.1, hH.2.2.2, fun _ => z4, cf_lo58.mp z1, cf_lo47.mp z2, cf_lo47.mp z3⟩)) (fun z4 => hN (fun w => z4 (w.2.2.2.2.2.2.1 rfl))))
theorem cx_schExit {post : Int32 → St2 → Prop} {e m : Nat} (he : e = 4 ∨ e = 5) (hm : m = e + 3) (hL : m ≤ L) (ht : ∀ j, t j ≤ 126) (q : ∀ k, k < m → a_canon k = nI (cf_lo (t k))) (hN : ¬ cf_Sch t L e → post (-1) (f_maxUrls, f_defaultDelay, f_clock, f_bufferLength, f_canonLength, f_canonHost, f_canonHostLength, f_canonPath, f_schemePort, f_partLength, f_urlCount, f_urlChars, f_hostCount, f_ruleCount, f_ruleChars, a_buffer, a_canon, a_part, a_urlPool, a_urlStart, a_urlLength, a_urlPath, a_urlHost, a_urlState, a_urlTime, a_names, a_nameLength, a_hostDelay, a_hostNext, a_rulePool, a_ruleStart, a_ruleLength, a_ruleHost)) (hY : cf_Sch t L e → post (nI m) (f_maxUrls, f_defaultDelay, f_clock, f_bufferLength, f_canonLength, f_canonHost, f_canonHostLength, f_canonPath, nI (cf_dp e), f_partLength, f_urlCount, f_urlChars, f_hostCount, f_ruleCount, f_ruleChars, a_buffer, a_canon, a_part, a_urlPool, a_urlStart, a_urlLength, a_urlPath, a_urlHost, a_urlState, a_urlTime, a_names, a_nameLength, a_hostDelay, a_hostNext, a_rulePool, a_ruleStart, a_ruleLength, a_ruleHost)) (f : Nat) : wX_takeScheme_33 post (nI e) (nI m) (f + 1) (nI m) f_maxUrls f_defaultDelay f_clock f_bufferLength f_canonLength f_canonHost f_canonHostLength f_canonPath f_schemePort f_partLength f_urlCount f_urlChars f_hostCount f_ruleCount f_ruleChars a_buffer a_canon a_part a_urlPool a_urlStart a_urlLength a_urlPath a_urlHost a_urlState a_urlTime a_names a_nameLength a_hostDelay a_hostNext a_rulePool a_ruleStart a_ruleLength a_ruleHost := by
  have hl : ∀ k, cf_lo (t k) ≤ 70000 := fun k => Nat.le_trans (cf_loB (ht k)) (by decide)
  have s0 : ¬ cf_Sch t L e → wX_takeScheme_109 post (nI e) (nI m) f_maxUrls f_defaultDelay f_clock f_bufferLength f_canonLength f_canonHost f_canonHostLength f_canonPath f_schemePort f_partLength f_urlCount f_urlChars f_hostCount f_ruleCount f_ruleChars a_buffer a_canon a_part a_urlPool a_urlStart a_urlLength a_urlPath a_urlHost a_urlState a_urlTime a_names a_nameLength a_hostDelay a_hostNext a_rulePool a_ruleStart a_ruleLength a_ruleHost := fun h => br_c (fun _ => cx_s0 (by omega) (hN h)) (fun _ => cx_s0 (by omega) (hN h))
  exact pk_le m m (fun _ => cf_eqc (cf_lo (t 0)) 104 (q 0 (by omega)) (hl 0) (fun y0 => cf_eqc (cf_lo (t 1)) 116 (q 1 (by omega)) (hl 1) (fun y1 => cf_eqc (cf_lo (t 2)) 116 (q 2 (by omega)) (hl 2) (fun y2 => cf_eqc (cf_lo (t 3)) 112 (q 3 (by omega)) (hl 3) (fun y3 => pk_eq e 5 (fun z => cx_s1 (Or.inr ⟨rfl, z⟩) hm hL ht q ⟨y0, y1, y2, y3⟩ hN hY) (fun z => cx_s1 (Or.inl ⟨rfl, by omega⟩) hm hL ht q ⟨y0, y1, y2, y3⟩ hN hY)) (fun y3 => s0 (fun w => y3 w.2.2.2.2.2.1))) (fun y2 => s0 (fun w => y2 w.2.2.2.2.1))) (fun y1 => s0 (fun w => y1 w.2.2.2.1))) (fun y0 => s0 (fun w => y0 w.2.2.1))) (fun z => by omega)
theorem cx_schLoop {post : Int32 → St2 → Prop} {e m : Nat} (he : e = 4 ∨ e = 5) (hm : m = e + 3) (hL1 : m ≤ L) (hb : ∀ j, a_buffer j = nI (t j)) (ht : ∀ j, t j ≤ 126) (hN : ¬ cf_Sch t L e → ∀ a n, post (-1) (f_maxUrls, f_defaultDelay, f_clock, f_bufferLength, n, f_canonHost, f_canonHostLength, f_canonPath, f_schemePort, f_partLength, f_urlCount, f_urlChars, f_hostCount, f_ruleCount, f_ruleChars, a_buffer, a, a_part, a_urlPool, a_urlStart, a_urlLength, a_urlPath, a_urlHost, a_urlState, a_urlTime, a_names, a_nameLength, a_hostDelay, a_hostNext, a_rulePool, a_ruleStart, a_ruleLength, a_ruleHost)) (hY : cf_Sch t L e → ∀ a, cf_K a m (cf_sb (fun j => cf_lo (t j)) 0 m) → post (nI m) (f_maxUrls, f_defaultDelay, f_clock, f_bufferLength, nI m, f_canonHost, f_canonHostLength, f_canonPath, nI (cf_dp e), f_partLength, f_urlCount, f_urlChars, f_hostCount, f_ruleCount, f_ruleChars, a_buffer, a, a_part, a_urlPool, a_urlStart, a_urlLength, a_urlPath, a_urlHost, a_urlState, a_urlTime, a_names, a_nameLength, a_hostDelay, a_hostNext, a_rulePool, a_ruleStart, a_ruleLength, a_ruleHost)) : ∀ d i f a, i + d = m → d < f → cf_K a i (cf_sb (fun j => cf_lo (t j)) 0 i) → wX_takeScheme_33 post (nI e) (nI m) f (nI i) f_maxUrls f_defaultDelay f_clock f_bufferLength (nI i) f_canonHost f_canonHostLength f_canonPath f_schemePort f_partLength f_urlCount f_urlChars f_hostCount f_ruleCount f_ruleChars a_buffer a a_part a_urlPool a_urlStart a_urlLength a_urlPath a_urlHost a_urlState a_urlTime a_names a_nameLength a_hostDelay a_hostNext a_rulePool a_ruleStart a_ruleLength a_ruleHost := by
  intro d
  induction d with
  | zero =>
    intro i f a hi hf hK
    have ei : i = m := by omega
    subst ei
    cases f with
    | zero => omega
    | succ f =>
      refine cx_schExit he hm hL1 ht (fun k hk => ?_) (fun h => hN h _ _) (fun h => hY h _ hK) f
      rw [cf_Kg hK hk, cf_sbG _ _ _ _ hk, Nat.zero_add]
  | succ d ih =>
    intro i f a hi hf hK
    cases f with
    | zero => omega
    | succ f =>
      refine pk_le m i (fun z => by omega) (fun z => ⟨pk_in i 48 (by omega), cx_lower (t i) (cf_rd hb i) (ht i) (cx_app (cf_lo (t i)) rfl (by omega) hK (fun a' hK' => nm_r (nI_1 i) (ih (i + 1) f a' (by omega) (by omega) ?_)))⟩)
      rw [cf_sb1, Nat.zero_add]
      exact hK'
theorem cx_takeScheme {post : Int32 → St2 → Prop} (hL : L ≤ 48) (hb : ∀ j, a_buffer j = nI (t j)) (ht : ∀ j, t j ≤ 126) (hN : (∀ c, ¬ cf_Sch t L c) → ∀ a n, post (-1) (f_maxUrls, f_defaultDelay, f_clock, nI L, n, f_canonHost, f_canonHostLength, f_canonPath, f_schemePort, f_partLength, f_urlCount, f_urlChars, f_hostCount, f_ruleCount, f_ruleChars, a_buffer, a, a_part, a_urlPool, a_urlStart, a_urlLength, a_urlPath, a_urlHost, a_urlState, a_urlTime, a_names, a_nameLength, a_hostDelay, a_hostNext, a_rulePool, a_ruleStart, a_ruleLength, a_ruleHost)) (hY : ∀ c, cf_Sch t L c → ∀ a, cf_K a (c + 3) (cf_sb (fun j => cf_lo (t j)) 0 (c + 3)) → post (nI (c + 3)) (f_maxUrls, f_defaultDelay, f_clock, nI L, nI (c + 3), f_canonHost, f_canonHostLength, f_canonPath, nI (cf_dp c), f_partLength, f_urlCount, f_urlChars, f_hostCount, f_ruleCount, f_ruleChars, a_buffer, a, a_part, a_urlPool, a_urlStart, a_urlLength, a_urlPath, a_urlHost, a_urlState, a_urlTime, a_names, a_nameLength, a_hostDelay, a_hostNext, a_rulePool, a_ruleStart, a_ruleLength, a_ruleHost)) : wpX_takeScheme post (f_maxUrls, f_defaultDelay, f_clock, nI L, 0, f_canonHost, f_canonHostLength, f_canonPath, f_schemePort, f_partLength, f_urlCount, f_urlChars, f_hostCount, f_ruleCount, f_ruleChars, a_buffer, a_canon, a_part, a_urlPool, a_urlStart, a_urlLength, a_urlPath, a_urlHost, a_urlState, a_urlTime, a_names, a_nameLength, a_hostDelay, a_hostNext, a_rulePool, a_ruleStart, a_ruleLength, a_ruleHost) := by
  refine cx_partEnd (i := 0) (r := 4) hb ht (Nat.zero_le _) hL (by omega) (fun e hE => ?_)
  have hE2 := hE.2.1
  have no : ∀ c, cf_Sch t L c → c = e ∧ (c = 4 ∨ c = 5) ∧ c + 2 < L := fun c h => ⟨cf_IEu (cf_SchE h) hE, h.1, h.2.1⟩
  refine nm_r (nI_add e 3) (pk_lt e 4 (fun z => hN (fun c h => ?_) _ _) (fun z1 => pk_lt 5 e (fun z => hN (fun c h => ?_) _ _) (fun z2 => pk_le (e + 3) L (fun z3 => ⟨e + 3 + 1, ?_⟩) (fun z3 => hN (fun c h => ?_) _ _))))
  · have := no c h; omega
  · have := no c h; omega
  · refine cx_schLoop (L := L) (by omega) rfl z3 hb ht (fun h a n => hN (fun c hc => ?_) a n) (fun h a hK => hY e h a hK) (e + 3) 0 _ a_canon (by omega) (by omega) (cf_K0 a_canon)
    have ec := (no c hc).1
    subst ec
    exact h hc
  · have := no c h; omega
theorem cx_hostLoop {post : Int32 → St2 → Prop} {he fr n0 : Nat} {l : List Nat} (hb : ∀ j, a_buffer j = nI (t j)) (ht : ∀ j, t j ≤ 126) (h48 : he ≤ 48) (hB : n0 + (he - fr) ≤ 49) (hN : ¬ (∀ j, fr ≤ j → j < he → cf_HC (t j)) → ∀ a n, post (-1) (f_maxUrls, f_defaultDelay, f_clock, f_bufferLength, n, f_canonHost, f_canonHostLength, f_canonPath, f_schemePort, f_partLength, f_urlCount, f_urlChars, f_hostCount, f_ruleCount, f_ruleChars, a_buffer, a, a_part, a_urlPool, a_urlStart, a_urlLength, a_urlPath, a_urlHost, a_urlState, a_urlTime, a_names, a_nameLength, a_hostDelay, a_hostNext, a_rulePool, a_ruleStart, a_ruleLength, a_ruleHost)) (hY : (∀ j, fr ≤ j → j < he → cf_HC (t j)) → ∀ a, cf_K a (n0 + (he - fr)) (l ++ cf_sb (fun j => cf_lo (t j)) fr (he - fr)) → post (nI he) (f_maxUrls, f_defaultDelay, f_clock, f_bufferLength, nI (n0 + (he - fr)), f_canonHost, f_canonHostLength, f_canonPath, f_schemePort, f_partLength, f_urlCount, f_urlChars, f_hostCount, f_ruleCount, f_ruleChars, a_buffer, a, a_part, a_urlPool, a_urlStart, a_urlLength, a_urlPath, a_urlHost, a_urlState, a_urlTime, a_names, a_nameLength, a_hostDelay, a_hostNext, a_rulePool, a_ruleStart, a_ruleLength, a_ruleHost)) : ∀ d k f a, fr + k + d = he → d < f → (∀ j, fr ≤ j → j < fr + k → cf_HC (t j)) → cf_K a (n0 + k) (l ++ cf_sb (fun j => cf_lo (t j)) fr k) → wX_takeHost_40 post (nI he) f (nI (fr + k)) f_maxUrls f_defaultDelay f_clock f_bufferLength (nI (n0 + k)) f_canonHost f_canonHostLength f_canonPath f_schemePort f_partLength f_urlCount f_urlChars f_hostCount f_ruleCount f_ruleChars a_buffer a a_part a_urlPool a_urlStart a_urlLength a_urlPath a_urlHost a_urlState a_urlTime a_names a_nameLength a_hostDelay a_hostNext a_rulePool a_ruleStart a_ruleLength a_ruleHost := by
  intro d
  induction d with
  | zero =>
    intro k f a hk hf hj hK
    have e : he - fr = k := by omega
    cases f with
    | zero => omega
    | succ f =>
      rw [e] at hY
      exact pk_le he (fr + k) (fun _ => hY (fun j h1 h2 => hj j h1 (by omega)) a hK) (fun z => by omega)
  | succ d ih =>
    intro k f a hk hf hj hK
    cases f with
    | zero => omega
    | succ f =>
      refine pk_le he (fr + k) (fun z => by omega) (fun z => ⟨pk_in (fr + k) 48 (by omega), cx_isHost (t (fr + k)) (cf_rd hb (fr + k)) (by have := ht (fr + k); omega) (fun c => br_f (by decide) ⟨pk_in (fr + k) 48 (by omega), cx_lower (t (fr + k)) (cf_rd hb (fr + k)) (ht _) (cx_app (cf_lo (t (fr + k))) rfl (by omega) hK (fun a' hK' => nm_r (nI_1 (fr + k)) (ih (k + 1) f a' (by omega) (by omega) (fun j h1 h2 => ?_) ?_)))⟩) (fun c => br_t rfl (hN (fun w => c (w (fr + k) (by omega) (by omega))) _ _))⟩)
      · rcases Nat.lt_or_ge j (fr + k) with y | y
        · exact hj j h1 y
        · have e : j = fr + k := by omega
          rw [e]
          exact c
      · rw [cf_sb1, ← List.append_assoc]
        exact hK'
theorem cx_takeHost {post : Int32 → St2 → Prop} {fr : Nat} {l : List Nat} (hL : L ≤ 48) (hfr : fr ≤ L) (h8 : fr ≤ 30) (hb : ∀ j, a_buffer j = nI (t j)) (ht : ∀ j, t j ≤ 126) (hK : cf_K a_canon fr l) (hN : (∀ he, cf_IE 4 t L fr he → ¬ cf_Ho t fr he) → ∀ a n h hl, post (-1) (f_maxUrls, f_defaultDelay, f_clock, nI L, n, h, hl, f_canonPath, f_schemePort, f_partLength, f_urlCount, f_urlChars, f_hostCount, f_ruleCount, f_ruleChars, a_buffer, a, a_part, a_urlPool, a_urlStart, a_urlLength, a_urlPath, a_urlHost, a_urlState, a_urlTime, a_names, a_nameLength, a_hostDelay, a_hostNext, a_rulePool, a_ruleStart, a_ruleLength, a_ruleHost)) (hY : ∀ he, cf_IE 4 t L fr he → cf_Ho t fr he → ∀ a, cf_K a he (l ++ cf_sb (fun j => cf_lo (t j)) fr (he - fr)) → post (nI he) (f_maxUrls, f_defaultDelay, f_clock, nI L, nI he, nI fr, nI (he - fr), f_canonPath, f_schemePort, f_partLength, f_urlCount, f_urlChars, f_hostCount, f_ruleCount, f_ruleChars, a_buffer, a, a_part, a_urlPool, a_urlStart, a_urlLength, a_urlPath, a_urlHost, a_urlState, a_urlTime, a_names, a_nameLength, a_hostDelay, a_hostNext, a_rulePool, a_ruleStart, a_ruleLength, a_ruleHost)) : wpX_takeHost post (f_maxUrls, f_defaultDelay, f_clock, nI L, nI fr, f_canonHost, f_canonHostLength, f_canonPath, f_schemePort, f_partLength, f_urlCount, f_urlChars, f_hostCount, f_ruleCount, f_ruleChars, a_buffer, a_canon, a_part, a_urlPool, a_urlStart, a_urlLength, a_urlPath, a_urlHost, a_urlState, a_urlTime, a_names, a_nameLength, a_hostDelay, a_hostNext, a_rulePool, a_ruleStart, a_ruleLength, a_ruleHost) (nI fr) := by
  refine cx_partEnd (r := 4) hb ht hfr hL (by omega) (fun he hE => ?_)
  have hE1 := hE.1
  have hE2 := hE.2.1
  have no : ∀ he', cf_IE 4 t L fr he' → he' = he := fun he' h' => cf_IEu h' hE
  refine nm_r (pk_sub hE.1) (pk_lt (he - fr) 1 (fun z => hN (fun he' h' w => ?_) _ _ _ _) (fun z1 => pk_le (he - fr) 16 (fun z2 => ⟨he - fr + 1, ?_⟩) (fun z2 => hN (fun he' h' w => ?_) _ _ _ _)))
  · have := no he' h'; have := w.1; omega
  · refine cx_hostLoop (n0 := fr) (fr := fr) (l := l) hb ht (by omega) (by omega) (fun h a n => hN (fun he' h' w => ?_) _ _ _ _) (fun h a hK' => ?_) (he - fr) 0 _ a_canon (by omega) (by omega) (fun j h1 h2 => by omega) ?_
    · have e := no he' h'
      subst e
      exact h w.2.2
    · have e : fr + (he - fr) = he := by omega
      rw [e] at hK'
      have g := hY he hE ⟨by omega, by omega, h⟩ a hK'
      rw [e]
      exact g
    · show cf_K a_canon (fr + 0) (l ++ [])
      rw [List.append_nil]
      exact hK
  · have := no he' h'; have := w.2.1; omega
end
