/-! the class: the path -/
theorem cf_Kl {a : Nat → Int32} {m n : Nat} {l w : List Nat} (hK : cf_K a n (l ++ w)) (hl : l.length = m) : cf_K a m l := ⟨hl, cf_Tl hK.2⟩
section
variable {f_maxUrls f_defaultDelay f_clock f_bufferLength f_canonLength f_canonHost f_canonHostLength f_canonPath f_schemePort f_partLength f_urlCount f_urlChars f_hostCount f_ruleCount f_ruleChars : Int32} {a_buffer a_canon a_part a_urlPool a_urlStart a_urlLength a_urlPath a_urlHost a_urlState a_urlTime a_names a_nameLength a_hostDelay a_hostNext a_rulePool a_ruleStart a_ruleLength a_ruleHost : Nat → Int32}
variable {t : Nat → Nat} {L : Nat}
theorem cx_drop1 {post : St2 → Prop} {m P : Nat} {l0 w : List Nat} (hP : P ≤ m) (hl : l0.length = m) (hK : cf_K a_canon (m + 1 + w.length) (l0 ++ (47 :: w))) (hw : ∀ k, k < w.length → w.getD k 0 ≠ 47 ∧ w.getD k 0 ≤ 126) (h49 : m + 1 + w.length ≤ 49) (h : post (f_maxUrls, f_defaultDelay, f_clock, f_bufferLength, nI m, f_canonHost, f_canonHostLength, nI P, f_schemePort, f_partLength, f_urlCount, f_urlChars, f_hostCount, f_ruleCount, f_ruleChars, a_buffer, a_canon, a_part, a_urlPool, a_urlStart, a_urlLength, a_urlPath, a_urlHost, a_urlState, a_urlTime, a_names, a_nameLength, a_hostDelay, a_hostNext, a_rulePool, a_ruleStart, a_ruleLength, a_ruleHost)) : ∀ k f, k ≤ w.length → k + 2 ≤ f → wX_dropSegment_2 post f_maxUrls f_defaultDelay f_clock f_bufferLength f_canonHost f_canonHostLength (nI P) f_schemePort f_partLength f_urlCount f_urlChars f_hostCount f_ruleCount f_ruleChars a_buffer a_canon a_part a_urlPool a_urlStart a_urlLength a_urlPath a_urlHost a_urlState a_urlTime a_names a_nameLength a_hostDelay a_hostNext a_rulePool a_ruleStart a_ruleLength a_ruleHost f 0 (nI (m + 1 + k)) := by
  intro k
  induction k with
  | zero =>
    intro f hk hf
    obtain ⟨g, rfl⟩ : ∃ g, f = g + 1 + 1 := ⟨f - 2, by omega⟩
    have e : a_canon m = nI 47 := by
      rw [cf_Kg hK (by omega), cf_gdr (by omega), hl, Nat.sub_self]
      rfl
    exact pk_le (m + 1) P (fun z => by omega) (fun _ => br_t rfl (nm_r (e' := nI m) (nI_pred m) ⟨pk_in m 49 (by omega), br_t (cf_ix m rfl (by omega) e) (pk_le m P (fun _ => h) (fun _ => br_f (by decide) h))⟩))
  | succ k ih =>
    intro f hk hf
    obtain ⟨g, rfl⟩ : ∃ g, f = g + 1 := ⟨f - 1, by omega⟩
    have e : a_canon (m + 1 + k) = nI (w.getD k 0) := by
      rw [cf_Kg hK (by omega), cf_gdr (by omega), hl, show m + 1 + k - m = k + 1 by omega, List.getD_cons_succ]
    have q := hw k (by omega)
    exact pk_le (m + 1 + (k + 1)) P (fun z => by omega) (fun _ => br_t rfl (nm_r (e' := nI (m + 1 + k)) (nI_pred (m + 1 + k)) ⟨pk_in (m + 1 + k) 49 (by omega), cf_eqc (w.getD k 0) 47 (cf_ix (m + 1 + k) rfl (by omega) e) (by omega) (fun z => absurd z q.1) (fun _ => ih g (by omega) (by omega))⟩))
theorem cx_drop {post : St2 → Prop} {dd : Nat → Nat} {n N s : Nat} {g : List (Nat × Nat)} {l : List Nat} (hl : l.length = n) (hG : cf_G dd N s g) (hB : ∀ j, dd j ≤ 126) (h49 : n + (cf_fl dd g).length ≤ 49) (hK : cf_K a_canon (n + (cf_fl dd g).length) (l ++ cf_fl dd g)) (h : cf_K a_canon (n + (cf_fl dd (g.take (g.length - 1))).length) (l ++ cf_fl dd (g.take (g.length - 1))) → post (f_maxUrls, f_defaultDelay, f_clock, f_bufferLength, nI (n + (cf_fl dd (g.take (g.length - 1))).length), f_canonHost, f_canonHostLength, nI n, f_schemePort, f_partLength, f_urlCount, f_urlChars, f_hostCount, f_ruleCount, f_ruleChars, a_buffer, a_canon, a_part, a_urlPool, a_urlStart, a_urlLength, a_urlPath, a_urlHost, a_urlState, a_urlTime, a_names, a_nameLength, a_hostDelay, a_hostNext, a_rulePool, a_ruleStart, a_ruleLength, a_ruleHost)) : wpX_dropSegment post (f_maxUrls, f_defaultDelay, f_clock, f_bufferLength, nI (n + (cf_fl dd g).length), f_canonHost, f_canonHostLength, nI n, f_schemePort, f_partLength, f_urlCount, f_urlChars, f_hostCount, f_ruleCount, f_ruleChars, a_buffer, a_canon, a_part, a_urlPool, a_urlStart, a_urlLength, a_urlPath, a_urlHost, a_urlState, a_urlTime, a_names, a_nameLength, a_hostDelay, a_hostNext, a_rulePool, a_ruleStart, a_ruleLength, a_ruleHost) := by
  by_cases hg : g = []
  · subst hg
    exact ⟨1, pk_le n n (fun _ => h hK) (fun z => by omega)⟩
  · obtain ⟨p, hp, eg⟩ := cf_tkL hg
    have ef : cf_fl dd g = cf_fl dd (g.take (g.length - 1)) ++ (47 :: cf_sb dd p.1 p.2) := (congrArg (cf_fl dd) eg).trans (cf_fla dd _ p)
    have en : n + (cf_fl dd g).length = n + (cf_fl dd (g.take (g.length - 1))).length + 1 + (cf_sb dd p.1 p.2).length := by
      rw [ef, List.length_append, List.length_cons]
      omega
    rw [en] at hK h49 ⊢
    rw [ef, ← List.append_assoc] at hK
    have hl2 : (l ++ cf_fl dd (g.take (g.length - 1))).length = n + (cf_fl dd (g.take (g.length - 1))).length := by rw [List.length_append, hl]
    refine ⟨(cf_sb dd p.1 p.2).length + 2, cx_drop1 (by omega) hl2 hK (fun k hk => ?_) h49 (h (cf_Kl hK hl2)) _ _ (Nat.le_refl _) (Nat.le_refl _)⟩
    rw [cf_sbL] at hk
    rw [cf_sbG _ _ _ _ hk]
    exact ⟨(hG.2 p hp).2 k hk, hB _⟩
theorem cx_seg111 {post : St2 → Prop} {dd : Nat → Nat} {n N i s : Nat} {g : List (Nat × Nat)} {l : List Nat} (hi : i ≤ N) (hN : N ≤ 48) (h49 : n + (cf_fl dd g).length < 49) (hK : cf_K a_canon (n + (cf_fl dd g).length) (l ++ cf_fl dd g)) (hT : i = N → ∀ a, cf_K a (n + (cf_fl dd (g ++ [(s, 0)])).length) (l ++ cf_fl dd (g ++ [(s, 0)])) → post (f_maxUrls, f_defaultDelay, f_clock, f_bufferLength, nI (n + (cf_fl dd (g ++ [(s, 0)])).length), f_canonHost, f_canonHostLength, f_canonPath, f_schemePort, nI N, f_urlCount, f_urlChars, f_hostCount, f_ruleCount, f_ruleChars, a_buffer, a, a_part, a_urlPool, a_urlStart, a_urlLength, a_urlPath, a_urlHost, a_urlState, a_urlTime, a_names, a_nameLength, a_hostDelay, a_hostNext, a_rulePool, a_ruleStart, a_ruleLength, a_ruleHost)) (hF : i ≠ N → post (f_maxUrls, f_defaultDelay, f_clock, f_bufferLength, nI (n + (cf_fl dd g).length), f_canonHost, f_canonHostLength, f_canonPath, f_schemePort, nI N, f_urlCount, f_urlChars, f_hostCount, f_ruleCount, f_ruleChars, a_buffer, a_canon, a_part, a_urlPool, a_urlStart, a_urlLength, a_urlPath, a_urlHost, a_urlState, a_urlTime, a_names, a_nameLength, a_hostDelay, a_hostNext, a_rulePool, a_ruleStart, a_ruleLength, a_ruleHost)) : wX_appendSegment_111 post (nI i) f_maxUrls f_defaultDelay f_clock f_bufferLength (nI (n + (cf_fl dd g).length)) f_canonHost f_canonHostLength f_canonPath f_schemePort (nI N) f_urlCount f_urlChars f_hostCount f_ruleCount f_ruleChars a_buffer a_canon a_part a_urlPool a_urlStart a_urlLength a_urlPath a_urlHost a_urlState a_urlTime a_names a_nameLength a_hostDelay a_hostNext a_rulePool a_ruleStart a_ruleLength a_ruleHost := by
  refine pk_eq i N (fun z => cx_app 47 rfl h49 hK (fun a hK' => ?_)) (fun z => hF z)
  have g1 := hT z a
  have e : cf_fl dd (g ++ [(s, 0)]) = cf_fl dd g ++ [47] := cf_fla dd g (s, 0)
  have en : n + (cf_fl dd (g ++ [(s, 0)])).length = n + (cf_fl dd g).length + 1 := by
    rw [e, List.length_append]
    exact (Nat.add_assoc _ _ _).symm
  rw [en, e, ← List.append_assoc] at g1
  exact g1 hK'
theorem cx_seg85 {post : St2 → Prop} {D l : List Nat} {n s i : Nat} (hP : cf_K a_part D.length D) (hi : i ≤ D.length) (hD : D.length ≤ 48) (hn : n + (i - s) ≤ 49) (h : ∀ a, cf_K a (n + (i - s)) (l ++ cf_sb (cf_dD D) s (i - s)) → post (f_maxUrls, f_defaultDelay, f_clock, f_bufferLength, nI (n + (i - s)), f_canonHost, f_canonHostLength, f_canonPath, f_schemePort, f_partLength, f_urlCount, f_urlChars, f_hostCount, f_ruleCount, f_ruleChars, a_buffer, a, a_part, a_urlPool, a_urlStart, a_urlLength, a_urlPath, a_urlHost, a_urlState, a_urlTime, a_names, a_nameLength, a_hostDelay, a_hostNext, a_rulePool, a_ruleStart, a_ruleLength, a_ruleHost)) : ∀ d k f a, s + k + d = i → d < f → cf_K a (n + k) (l ++ cf_sb (cf_dD D) s k) → wX_appendSegment_85 post (nI i) f (nI (s + k)) f_maxUrls f_defaultDelay f_clock f_bufferLength (nI (n + k)) f_canonHost f_canonHostLength f_canonPath f_schemePort f_partLength f_urlCount f_urlChars f_hostCount f_ruleCount f_ruleChars a_buffer a a_part a_urlPool a_urlStart a_urlLength a_urlPath a_urlHost a_urlState a_urlTime a_names a_nameLength a_hostDelay a_hostNext a_rulePool a_ruleStart a_ruleLength a_ruleHost := by
  intro d
  induction d with
  | zero =>
    intro k f a hk hf hK
    have e : i - s = k := by omega
    rw [e] at h
    cases f with
    | zero => omega
    | succ f => exact pk_le i (s + k) (fun _ => h a hK) (fun z => by omega)
  | succ d ih =>
    intro k f a hk hf hK
    cases f with
    | zero => omega
    | succ f =>
      refine pk_le i (s + k) (fun z => by omega) (fun z => ⟨pk_in (s + k) 48 (by omega), cx_app (cf_dD D (s + k)) (cf_rK hP (s + k) (by omega)) (by omega) hK (fun a' hK' => nm_r (nI_1 (s + k)) (ih (k + 1) f a' (by omega) (by omega) ?_))⟩)
      rw [cf_sb1, ← List.append_assoc]
      exact hK'
theorem cx_seg {post : St2 → Prop} {D l : List Nat} {n s i : Nat} {g : List (Nat × Nat)} (hP : cf_K a_part D.length D) (hD : D.length ≤ 48) (hB : ∀ j, cf_dD D j ≤ 126) (hs1 : 1 ≤ s) (hsi : s ≤ i) (hi : i ≤ D.length) (h47 : cf_dD D (s - 1) = 47) (hG : cf_G (cf_dD D) D.length s g) (hl : l.length = n) (hn : n + D.length ≤ 49) (hK : cf_K a_canon (n + (cf_fl (cf_dD D) g).length) (l ++ cf_fl (cf_dD D) g)) (h : ∀ a, cf_K a (n + (cf_fl (cf_dD D) (cf_st (cf_dD D) D.length i s g)).length) (l ++ cf_fl (cf_dD D) (cf_st (cf_dD D) D.length i s g)) → post (f_maxUrls, f_defaultDelay, f_clock, f_bufferLength, nI (n + (cf_fl (cf_dD D) (cf_st (cf_dD D) D.length i s g)).length), f_canonHost, f_canonHostLength, nI n, f_schemePort, nI D.length, f_urlCount, f_urlChars, f_hostCount, f_ruleCount, f_ruleChars, a_buffer, a, a_part, a_urlPool, a_urlStart, a_urlLength, a_urlPath, a_urlHost, a_urlState, a_urlTime, a_names, a_nameLength, a_hostDelay, a_hostNext, a_rulePool, a_ruleStart, a_ruleLength, a_ruleHost)) : wpX_appendSegment post (f_maxUrls, f_defaultDelay, f_clock, f_bufferLength, nI (n + (cf_fl (cf_dD D) g).length), f_canonHost, f_canonHostLength, nI n, f_schemePort, nI D.length, f_urlCount, f_urlChars, f_hostCount, f_ruleCount, f_ruleChars, a_buffer, a_canon, a_part, a_urlPool, a_urlStart, a_urlLength, a_urlPath, a_urlHost, a_urlState, a_urlTime, a_names, a_nameLength, a_hostDelay, a_hostNext, a_rulePool, a_ruleStart, a_ruleLength, a_ruleHost) (nI s) (nI i) := by
  have hg1 := hG.1
  have es : nI i - nI s = nI (i - s) := pk_sub hsi
  have rd : ∀ j, j < D.length → a_part j = nI (cf_dD D j) := fun j hj => cf_Kg hP hj
  by_cases cA : i - s = 1 ∧ cf_dD D s = 46
  · have est : cf_st (cf_dD D) D.length i s g = if i = D.length then g ++ [(s, 0)] else g := by unfold cf_st; rw [if_pos cA]
    have fin : wX_appendSegment_111 post (nI i) f_maxUrls f_defaultDelay f_clock f_bufferLength (nI (n + (cf_fl (cf_dD D) g).length)) f_canonHost f_canonHostLength (nI n) f_schemePort (nI D.length) f_urlCount f_urlChars f_hostCount f_ruleCount f_ruleChars a_buffer a_canon a_part a_urlPool a_urlStart a_urlLength a_urlPath a_urlHost a_urlState a_urlTime a_names a_nameLength a_hostDelay a_hostNext a_rulePool a_ruleStart a_ruleLength a_ruleHost := by
      refine cx_seg111 (s := s) hi hD (by omega) hK (fun z a hK' => ?_) (fun z => ?_)
      · rw [if_pos z] at est
        rw [est] at h
        exact h a hK'
      · rw [if_neg z] at est
        rw [est] at h
        exact h a_canon hK
    exact pk_eq (i - s) 1 (fun _ => ⟨pk_in s 48 (by omega), br_t (cf_ix s rfl (by omega) ((rd s (by omega)).trans (congrArg nI cA.2))) (pk_eq (i - s) 2 (fun z => by omega) (fun _ => br_t rfl (br_f (by decide) fin)) es)⟩) (fun z => absurd cA.1 z) es
  · by_cases cB : i - s = 2 ∧ cf_dD D s = 46 ∧ cf_dD D (s + 1) = 46
    · have est : cf_st (cf_dD D) D.length i s g = if i = D.length then g.take (g.length - 1) ++ [(s, 0)] else g.take (g.length - 1) := by unfold cf_st; rw [if_neg cA, if_pos cB]
      have tl := cf_flT (cf_dD D) g (g.length - 1)
      refine pk_eq (i - s) 1 (fun z => by omega) (fun _ => pk_eq (i - s) 2 (fun _ => ⟨pk_in s 48 (by omega), br_t (cf_ix s rfl (by omega) ((rd s (by omega)).trans (congrArg nI cB.2.1))) ⟨pk_in (s + 1) 48 (by omega) (nI_1 s), br_t (cf_ix (s + 1) (nI_1 s) (by omega) ((rd (s + 1) (by omega)).trans (congrArg nI cB.2.2))) (br_f (by decide) (cx_drop hl hG hB (by omega) hK (fun hK2 => br_t rfl (br_f (by decide) ?_))))⟩⟩) (fun z => absurd cB.1 z) es) es
      refine cx_seg111 (s := s) hi hD (by omega) hK2 (fun z a hK' => ?_) (fun z => ?_)
      · rw [if_pos z] at est
        rw [est] at h
        exact h a hK'
      · rw [if_neg z] at est
        rw [est] at h
        exact h a_canon hK2
    · have est : cf_st (cf_dD D) D.length i s g = g ++ [(s, i - s)] := by unfold cf_st; rw [if_neg cA, if_neg cB]
      rw [est] at h
      have ef : cf_fl (cf_dD D) (g ++ [(s, i - s)]) = cf_fl (cf_dD D) g ++ cf_sb (cf_dD D) (s - 1) (i - (s - 1)) := by
        rw [cf_fla, show i - (s - 1) = 1 + (i - s) by omega, cf_sbA, show s - 1 + 1 = s by omega]
        show _ = cf_fl (cf_dD D) g ++ ([cf_dD D (s - 1 + 0)] ++ _)
        rw [Nat.add_zero, h47]
        rfl
      have en : n + (cf_fl (cf_dD D) (g ++ [(s, i - s)])).length = n + (cf_fl (cf_dD D) g).length + (i - (s - 1)) := by
        rw [ef, List.length_append, cf_sbL]
        omega
      have fin : wX_appendSegment_71 post (nI s) (nI i) 0 0 f_maxUrls f_defaultDelay f_clock f_bufferLength (nI (n + (cf_fl (cf_dD D) g).length)) f_canonHost f_canonHostLength (nI n) f_schemePort (nI D.length) f_urlCount f_urlChars f_hostCount f_ruleCount f_ruleChars a_buffer a_canon a_part a_urlPool a_urlStart a_urlLength a_urlPath a_urlHost a_urlState a_urlTime a_names a_nameLength a_hostDelay a_hostNext a_rulePool a_ruleStart a_ruleLength a_ruleHost := by
        refine br_t rfl (br_t rfl (nm_r (e' := nI (s - 1)) (pk_sub (b := 1) hs1) ⟨i - (s - 1) + 1, cx_seg85 (s := s - 1) (n := n + (cf_fl (cf_dD D) g).length) (l := l ++ cf_fl (cf_dD D) g) hP hi hD (by omega) (fun a hK' => ?_) (i - (s - 1)) 0 _ a_canon (by omega) (by omega) ?_⟩))
        · have h' := h a
          rw [en, ef, ← List.append_assoc] at h'
          exact h' hK'
        · show cf_K a_canon _ (_ ++ [])
          rw [List.append_nil]
          exact hK
      have f60 : wX_appendSegment_59 post (nI s) (nI i) 0 f_maxUrls f_defaultDelay f_clock f_bufferLength (nI (n + (cf_fl (cf_dD D) g).length)) f_canonHost f_canonHostLength (nI n) f_schemePort (nI D.length) f_urlCount f_urlChars f_hostCount f_ruleCount f_ruleChars a_buffer a_canon a_part a_urlPool a_urlStart a_urlLength a_urlPath a_urlHost a_urlState a_urlTime a_names a_nameLength a_hostDelay a_hostNext a_rulePool a_ruleStart a_ruleLength a_ruleHost := br_t rfl fin
      have f22 : wX_appendSegment_22 post (nI s) (nI i) f_maxUrls f_defaultDelay f_clock f_bufferLength (nI (n + (cf_fl (cf_dD D) g).length)) f_canonHost f_canonHostLength (nI n) f_schemePort (nI D.length) f_urlCount f_urlChars f_hostCount f_ruleCount f_ruleChars a_buffer a_canon a_part a_urlPool a_urlStart a_urlLength a_urlPath a_urlHost a_urlState a_urlTime a_names a_nameLength a_hostDelay a_hostNext a_rulePool a_ruleStart a_ruleLength a_ruleHost := by
        refine pk_eq (i - s) 2 (fun z => ⟨pk_in s 48 (by omega), cf_eqc (cf_dD D s) 46 (cf_ix s rfl (by omega) (rd s (by omega))) (by have := hB s; omega) (fun z1 => ⟨pk_in (s + 1) 48 (by omega) (nI_1 s), cf_eqc (cf_dD D (s + 1)) 46 (cf_ix (s + 1) (nI_1 s) (by omega) (rd (s + 1) (by omega))) (by have := hB (s + 1); omega) (fun z2 => absurd ⟨z, z1, z2⟩ cB) (fun z2 => f60)⟩) (fun z1 => f60)⟩) (fun z => f60) es
      exact pk_eq (i - s) 1 (fun z => ⟨pk_in s 48 (by omega), cf_eqc (cf_dD D s) 46 (cf_ix s rfl (by omega) (rd s (by omega))) (by have := hB s; omega) (fun z1 => absurd ⟨z, z1⟩ cA) (fun z1 => f22)⟩) (fun z => f22) es
theorem cx_pathLoop {post : St2 → Prop} {D l : List Nat} {n : Nat} (hP : cf_K a_part D.length D) (hD : D.length ≤ 48) (hB : ∀ j, cf_dD D j ≤ 126) (hl : l.length = n) (hn : n + D.length ≤ 49) : ∀ d i s g f a, i + d = D.length + 1 → d < f → 1 ≤ s → s ≤ i → cf_dD D (s - 1) = 47 → (∀ j, s ≤ j → j < i → cf_dD D j ≠ 47) → cf_G (cf_dD D) D.length s g → cf_K a (n + (cf_fl (cf_dD D) g).length) (l ++ cf_fl (cf_dD D) g) → (∀ a', cf_K a' (n + (cf_fl (cf_dD D) (cf_sg (cf_dD D) D.length d i s g)).length) (l ++ cf_fl (cf_dD D) (cf_sg (cf_dD D) D.length d i s g)) → post (f_maxUrls, f_defaultDelay, f_clock, f_bufferLength, nI (n + (cf_fl (cf_dD D) (cf_sg (cf_dD D) D.length d i s g)).length), f_canonHost, f_canonHostLength, nI n, f_schemePort, nI D.length, f_urlCount, f_urlChars, f_hostCount, f_ruleCount, f_ruleChars, a_buffer, a', a_part, a_urlPool, a_urlStart, a_urlLength, a_urlPath, a_urlHost, a_urlState, a_urlTime, a_names, a_nameLength, a_hostDelay, a_hostNext, a_rulePool, a_ruleStart, a_ruleLength, a_ruleHost)) → wX_appendPath_25 post f (nI s) (nI i) f_maxUrls f_defaultDelay f_clock f_bufferLength (nI (n + (cf_fl (cf_dD D) g).length)) f_canonHost f_canonHostLength (nI n) f_schemePort (nI D.length) f_urlCount f_urlChars f_hostCount f_ruleCount f_ruleChars a_buffer a a_part a_urlPool a_urlStart a_urlLength a_urlPath a_urlHost a_urlState a_urlTime a_names a_nameLength a_hostDelay a_hostNext a_rulePool a_ruleStart a_ruleLength a_ruleHost := by
  intro d
  induction d with
  | zero =>
    intro i s g f a hi hf hs1 hsi h47 hj hG hK h
    cases f with
    | zero => omega
    | succ f => exact pk_lt D.length i (fun _ => h a hK) (fun z => by omega)
  | succ d ih =>
    intro i s g f a hi hf hs1 hsi h47 hj hG hK h
    cases f with
    | zero => omega
    | succ f =>
      have seg : ¬ (i < D.length ∧ cf_dD D i ≠ 47) → (i < D.length → cf_dD D i = 47) → wX_appendPath_52 post (wX_appendPath_25 post f) (nI s) (nI i) f_maxUrls f_defaultDelay f_clock f_bufferLength (nI (n + (cf_fl (cf_dD D) g).length)) f_canonHost f_canonHostLength (nI n) f_schemePort (nI D.length) f_urlCount f_urlChars f_hostCount f_ruleCount f_ruleChars a_buffer a a_part a_urlPool a_urlStart a_urlLength a_urlPath a_urlHost a_urlState a_urlTime a_names a_nameLength a_hostDelay a_hostNext a_rulePool a_ruleStart a_ruleLength a_ruleHost := by
        intro c c2
        rw [cf_sgS c] at h
        refine cx_seg hP hD hB hs1 hsi (by omega) h47 hG hl hn hK (fun a' hK' => nm_r (nI_1 i) (nm_r (nI_1 i) ?_))
        rcases Nat.lt_or_ge i D.length with z | z
        · refine ih (i + 1) (i + 1) _ f a' (by omega) (by omega) (by omega) (Nat.le_refl _) ?_ (fun j h1 h2 => by omega) (cf_Gs hG hsi (by omega) hj) hK' h
          rw [Nat.add_sub_cancel]
          exact c2 z
        · have d0 : d = 0 := by omega
          subst d0
          cases f with
          | zero => omega
          | succ f => exact pk_lt D.length (i + 1) (fun _ => h a' hK') (fun z => by omega)
      refine pk_lt D.length i (fun z => by omega) (fun _ => pk_eq i D.length (fun z => seg (fun w => by omega) (fun w => by omega)) (fun z => ⟨pk_in i 48 (by omega), cf_eqc (cf_dD D i) 47 (cf_rK hP i (by omega)) (by have := hB i; omega) (fun z1 => seg (fun w => w.2 z1) (fun _ => z1)) (fun z1 => nm_r (nI_1 i) ?_)⟩))
      rw [cf_sgC ⟨by omega, z1⟩] at h
      refine ih (i + 1) s g f a (by omega) (by omega) hs1 (by omega) h47 (fun j h1 h2 => ?_) hG hK h
      rcases Nat.lt_or_ge j i with y | y
      · exact hj j h1 y
      · have ej : j = i := by omega
        rw [ej]
        exact z1
theorem cx_appendPath {post : St2 → Prop} {D l : List Nat} {n : Nat} (hP : cf_K a_part D.length D) (hD : D.length ≤ 48) (hB : ∀ j, cf_dD D j ≤ 126) (h47 : 0 < D.length → cf_dD D 0 = 47) (hn : n + D.length ≤ 49) (hn1 : n + 1 ≤ 49) (hK : cf_K a_canon n l) (h : ∀ a, cf_K a (n + (cf_pa D).length) (l ++ cf_pa D) → post (f_maxUrls, f_defaultDelay, f_clock, f_bufferLength, nI (n + (cf_pa D).length), f_canonHost, f_canonHostLength, nI n, f_schemePort, nI D.length, f_urlCount, f_urlChars, f_hostCount, f_ruleCount, f_ruleChars, a_buffer, a, a_part, a_urlPool, a_urlStart, a_urlLength, a_urlPath, a_urlHost, a_urlState, a_urlTime, a_names, a_nameLength, a_hostDelay, a_hostNext, a_rulePool, a_ruleStart, a_ruleLength, a_ruleHost)) : wpX_appendPath post (f_maxUrls, f_defaultDelay, f_clock, f_bufferLength, nI n, f_canonHost, f_canonHostLength, f_canonPath, f_schemePort, nI D.length, f_urlCount, f_urlChars, f_hostCount, f_ruleCount, f_ruleChars, a_buffer, a_canon, a_part, a_urlPool, a_urlStart, a_urlLength, a_urlPath, a_urlHost, a_urlState, a_urlTime, a_names, a_nameLength, a_hostDelay, a_hostNext, a_rulePool, a_ruleStart, a_ruleLength, a_ruleHost) := by
  refine pk_eq D.length 0 (fun z => cx_app 47 rfl (by omega) hK (fun a hK' => ⟨1, ?_⟩)) (fun z => ⟨D.length + 1, ?_⟩)
  · have e : D = [] := List.eq_nil_of_length_eq_zero z
    subst e
    exact pk_lt 0 1 (fun _ => h a hK') (fun z => by omega)
  · have e : cf_pa D = cf_fl (cf_dD D) (cf_gs D) := cf_ptN (cf_gsN (by omega))
    rw [e] at h
    refine cx_pathLoop hP hD hB hK.1 hn D.length 1 1 [] _ a_canon (by omega) (by omega) (Nat.le_refl _) (Nat.le_refl _) (h47 (by omega)) (fun j h1 h2 => by omega) (cf_G0 _ _) ?_ h
    show cf_K a_canon (n + 0) (l ++ [])
    rw [List.append_nil]
    exact hK
end
