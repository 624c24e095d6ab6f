/-! the reference: the path -/
theorem cf_pgl {g h : List (Nat × Nat)} {j : Nat} (hj : j < g.length) : (g ++ h).getD j (0, 0) = g.getD j (0, 0) := by
  rw [List.getD_eq_getElem?_getD, List.getD_eq_getElem?_getD, List.getElem?_append_left hj]
theorem cf_pgr {g : List (Nat × Nat)} {p : Nat × Nat} : (g ++ [p]).getD g.length (0, 0) = p := by
  rw [List.getD_eq_getElem?_getD, List.getElem?_append_right (Nat.le_refl _), Nat.sub_self]
  rfl
theorem cf_pgt {g : List (Nat × Nat)} {k j : Nat} (hj : j < k) : (g.take k).getD j (0, 0) = g.getD j (0, 0) := by
  rw [List.getD_eq_getElem?_getD, List.getD_eq_getElem?_getD, List.getElem?_take_of_lt hj]
theorem cf_pgm {g : List (Nat × Nat)} {j : Nat} (h : j < g.length) : g.getD j (0, 0) ∈ g := by
  rw [List.getD_eq_getElem?_getD, List.getElem?_eq_getElem h]
  exact List.getElem_mem h
theorem cf_tks {g : List (Nat × Nat)} {j : Nat} (h : j < g.length) : g.take (j + 1) = g.take j ++ [g.getD j (0, 0)] := by
  rw [List.take_succ, List.getD_eq_getElem?_getD, List.getElem?_eq_getElem h]
  rfl
def cf_Sg (ss sl : Nat → Int32) (g : List (Nat × Nat)) : Prop := ∀ j, j < g.length → ss j = nI (g.getD j (0, 0)).1 ∧ sl j = nI (g.getD j (0, 0)).2
theorem cf_SgP {ss sl : Nat → Int32} {g : List (Nat × Nat)} (p q : Nat) (h : cf_Sg ss sl g) : cf_Sg (upd ss g.length (nI p)) (upd sl g.length (nI q)) (g ++ [(p, q)]) := by
  intro j hj
  rw [List.length_append, List.length_singleton] at hj
  rcases Nat.lt_or_ge j g.length with z | z
  · rw [pk_un (by omega), pk_un (by omega), cf_pgl z]
    exact h j z
  · have e : j = g.length := by omega
    subst e
    rw [pk_us, pk_us, cf_pgr]
    exact ⟨rfl, rfl⟩
theorem cf_SgT {ss sl : Nat → Int32} {g : List (Nat × Nat)} (k : Nat) (h : cf_Sg ss sl g) : cf_Sg ss sl (g.take k) := by
  intro j hj
  rw [List.length_take] at hj
  rw [cf_pgt (by omega)]
  exact h j (by omega)
section
variable {f_maxUrls f_defaultDelay f_clock f_bufferLength f_urlCount f_hostCount f_ruleCount f_cLen f_cHost f_cHostLen f_cPq f_decLen f_segN : Int32} {a_buffer a_urlPool a_urlStart a_urlLength a_urlState a_urlHost a_urlTime a_names a_nameLength a_hostDelay a_hostNext a_hostSent a_rulePool a_ruleStart a_ruleLength a_ruleHost a_ycanon a_dec a_segS a_segL : Nat → Int32}
variable {dd : Nat → Nat} {N : Nat}
theorem cy_push {post : SY → Prop} {g : List (Nat × Nat)} {p q : Nat} (hg : g.length < 64) (hS : cf_Sg a_segS a_segL g) (h : ∀ s1 s2, cf_Sg s1 s2 (g ++ [(p, q)]) → post (f_maxUrls, f_defaultDelay, f_clock, f_bufferLength, f_urlCount, f_hostCount, f_ruleCount, f_cLen, f_cHost, f_cHostLen, f_cPq, f_decLen, nI (g ++ [(p, q)]).length, a_buffer, a_urlPool, a_urlStart, a_urlLength, a_urlState, a_urlHost, a_urlTime, a_names, a_nameLength, a_hostDelay, a_hostNext, a_hostSent, a_rulePool, a_ruleStart, a_ruleLength, a_ruleHost, a_ycanon, a_dec, s1, s2)) : wpY_pushSeg post (f_maxUrls, f_defaultDelay, f_clock, f_bufferLength, f_urlCount, f_hostCount, f_ruleCount, f_cLen, f_cHost, f_cHostLen, f_cPq, f_decLen, nI g.length, a_buffer, a_urlPool, a_urlStart, a_urlLength, a_urlState, a_urlHost, a_urlTime, a_names, a_nameLength, a_hostDelay, a_hostNext, a_hostSent, a_rulePool, a_ruleStart, a_ruleLength, a_ruleHost, a_ycanon, a_dec, a_segS, a_segL) (nI p) (nI q) := by
  have e : (g ++ [(p, q)]).length = g.length + 1 := by rw [List.length_append]; rfl
  rw [e] at h
  exact pk_le 64 g.length (fun z => by omega) (fun _ => ⟨pk_in g.length 64 hg, nm_r (e' := upd a_segS g.length (nI p)) (by rw [pk_cl g.length]) ⟨pk_in g.length 64 hg, nm_r (e' := upd a_segL g.length (nI q)) (by rw [pk_cl g.length]) (nm_r (nI_1 g.length) (h _ _ (cf_SgP p q hS)))⟩⟩)
theorem cy_141 {post : SY → Prop} {J : Int32 → Int32 → Int32 → Int32 → Int32 → Int32 → Int32 → Int32 → Int32 → Int32 → Int32 → Int32 → Int32 → Int32 → Int32 → (Nat → Int32) → (Nat → Int32) → (Nat → Int32) → (Nat → Int32) → (Nat → Int32) → (Nat → Int32) → (Nat → Int32) → (Nat → Int32) → (Nat → Int32) → (Nat → Int32) → (Nat → Int32) → (Nat → Int32) → (Nat → Int32) → (Nat → Int32) → (Nat → Int32) → (Nat → Int32) → (Nat → Int32) → (Nat → Int32) → (Nat → Int32) → (Nat → Int32) → Prop} {g : List (Nat × Nat)} {i s : Nat} (hi : i ≤ N) (hN : N ≤ 48) (hg : g.length < 64) (hS : cf_Sg a_segS a_segL g) (hT : i = N → ∀ s1 s2, cf_Sg s1 s2 (g ++ [(s, 0)]) → J (nI (i + 1)) (nI (i + 1)) f_maxUrls f_defaultDelay f_clock f_bufferLength f_urlCount f_hostCount f_ruleCount f_cLen f_cHost f_cHostLen f_cPq f_decLen (nI (g ++ [(s, 0)]).length) a_buffer a_urlPool a_urlStart a_urlLength a_urlState a_urlHost a_urlTime a_names a_nameLength a_hostDelay a_hostNext a_hostSent a_rulePool a_ruleStart a_ruleLength a_ruleHost a_ycanon a_dec s1 s2) (hF : i ≠ N → J (nI (i + 1)) (nI (i + 1)) f_maxUrls f_defaultDelay f_clock f_bufferLength f_urlCount f_hostCount f_ruleCount f_cLen f_cHost f_cHostLen f_cPq f_decLen (nI g.length) a_buffer a_urlPool a_urlStart a_urlLength a_urlState a_urlHost a_urlTime a_names a_nameLength a_hostDelay a_hostNext a_hostSent a_rulePool a_ruleStart a_ruleLength a_ruleHost a_ycanon a_dec a_segS a_segL) : wY_emitPath_141 post J (nI N) (nI s) (nI i) f_maxUrls f_defaultDelay f_clock f_bufferLength f_urlCount f_hostCount f_ruleCount f_cLen f_cHost f_cHostLen f_cPq f_decLen (nI g.length) a_buffer a_urlPool a_urlStart a_urlLength a_urlState a_urlHost a_urlTime a_names a_nameLength a_hostDelay a_hostNext a_hostSent a_rulePool a_ruleStart a_ruleLength a_ruleHost a_ycanon a_dec a_segS a_segL :=
  pk_eq i N (fun z => cy_push (q := 0) hg hS (fun s1 s2 hS' => nm_r (nI_1 i) (nm_r (nI_1 i) (hT z s1 s2 hS')))) (fun z => nm_r (nI_1 i) (nm_r (nI_1 i) (hF z)))
theorem cy_33 {post : SY → Prop} {J : Int32 → Int32 → Int32 → Int32 → Int32 → Int32 → Int32 → Int32 → Int32 → Int32 → Int32 → Int32 → Int32 → Int32 → Int32 → (Nat → Int32) → (Nat → Int32) → (Nat → Int32) → (Nat → Int32) → (Nat → Int32) → (Nat → Int32) → (Nat → Int32) → (Nat → Int32) → (Nat → Int32) → (Nat → Int32) → (Nat → Int32) → (Nat → Int32) → (Nat → Int32) → (Nat → Int32) → (Nat → Int32) → (Nat → Int32) → (Nat → Int32) → (Nat → Int32) → (Nat → Int32) → (Nat → Int32) → Prop} {g : List (Nat × Nat)} {i s : Nat} (hd : ∀ j, j < N → a_dec j = nI (dd j)) (hB : ∀ j, dd j ≤ 126) (hsi : s ≤ i) (hi : i ≤ N) (hN : N ≤ 48) (hg : g.length < 64) (hS : cf_Sg a_segS a_segL g) (h : ∀ s1 s2, cf_Sg s1 s2 (cf_st dd N i s g) → J (nI (i + 1)) (nI (i + 1)) f_maxUrls f_defaultDelay f_clock f_bufferLength f_urlCount f_hostCount f_ruleCount f_cLen f_cHost f_cHostLen f_cPq f_decLen (nI (cf_st dd N i s g).length) a_buffer a_urlPool a_urlStart a_urlLength a_urlState a_urlHost a_urlTime a_names a_nameLength a_hostDelay a_hostNext a_hostSent a_rulePool a_ruleStart a_ruleLength a_ruleHost a_ycanon a_dec s1 s2) : wY_emitPath_33 post J (nI N) (nI s) (nI i) f_maxUrls f_defaultDelay f_clock f_bufferLength f_urlCount f_hostCount f_ruleCount f_cLen f_cHost f_cHostLen f_cPq f_decLen (nI g.length) a_buffer a_urlPool a_urlStart a_urlLength a_urlState a_urlHost a_urlTime a_names a_nameLength a_hostDelay a_hostNext a_hostSent a_rulePool a_ruleStart a_ruleLength a_ruleHost a_ycanon a_dec a_segS a_segL := by
  refine nm_r (pk_sub hsi) ?_
  by_cases cA : i - s = 1 ∧ dd s = 46
  · have est : cf_st dd N i s g = if i = N then g ++ [(s, 0)] else g := by unfold cf_st; rw [if_pos cA]
    have fin : wY_emitPath_141 post J (nI N) (nI s) (nI i) f_maxUrls f_defaultDelay f_clock f_bufferLength f_urlCount f_hostCount f_ruleCount f_cLen f_cHost f_cHostLen f_cPq f_decLen (nI g.length) a_buffer a_urlPool a_urlStart a_urlLength a_urlState a_urlHost a_urlTime a_names a_nameLength a_hostDelay a_hostNext a_hostSent a_rulePool a_ruleStart a_ruleLength a_ruleHost a_ycanon a_dec a_segS a_segL := by
      refine cy_141 hi hN hg hS (fun z s1 s2 hS' => ?_) (fun z => ?_)
      · rw [if_pos z] at est
        rw [est] at h
        exact h s1 s2 hS'
      · rw [if_neg z] at est
        rw [est] at h
        exact h _ _ hS
    exact pk_eq (i - s) 1 (fun _ => ⟨pk_in s 64 (by omega), br_t (cf_ix s rfl (by omega) ((hd s (by omega)).trans (congrArg nI cA.2))) (pk_eq (i - s) 2 (fun z => by omega) (fun _ => br_t rfl (br_f (by decide) fin)))⟩) (fun z => absurd cA.1 z)
  · by_cases cB : i - s = 2 ∧ dd s = 46 ∧ dd (s + 1) = 46
    · have est : cf_st dd N i s g = if i = N then g.take (g.length - 1) ++ [(s, 0)] else g.take (g.length - 1) := by unfold cf_st; rw [if_neg cA, if_pos cB]
      have fin : wY_emitPath_141 post J (nI N) (nI s) (nI i) f_maxUrls f_defaultDelay f_clock f_bufferLength f_urlCount f_hostCount f_ruleCount f_cLen f_cHost f_cHostLen f_cPq f_decLen (nI (g.take (g.length - 1)).length) a_buffer a_urlPool a_urlStart a_urlLength a_urlState a_urlHost a_urlTime a_names a_nameLength a_hostDelay a_hostNext a_hostSent a_rulePool a_ruleStart a_ruleLength a_ruleHost a_ycanon a_dec a_segS a_segL := by
        refine cy_141 hi hN (by rw [List.length_take]; omega) (cf_SgT _ hS) (fun z s1 s2 hS' => ?_) (fun z => ?_)
        · rw [if_pos z] at est
          rw [est] at h
          exact h s1 s2 hS'
        · rw [if_neg z] at est
          rw [est] at h
          exact h _ _ (cf_SgT _ hS)
      have el : (g.take (g.length - 1)).length = g.length - 1 := by rw [List.length_take]; omega
      rw [el] at fin
      refine pk_eq (i - s) 1 (fun z => by omega) (fun _ => pk_eq (i - s) 2 (fun _ => ⟨pk_in s 64 (by omega), br_t (cf_ix s rfl (by omega) ((hd s (by omega)).trans (congrArg nI cB.2.1))) ⟨pk_in (s + 1) 64 (by omega) (nI_1 s), br_t (cf_ix (s + 1) (nI_1 s) (by omega) ((hd (s + 1) (by omega)).trans (congrArg nI cB.2.2))) (br_f (by decide) (pk_le g.length 0 (fun z => ?_) (fun z => nm_r (e' := nI (g.length - 1)) (pk_sub (b := 1) z) (br_t rfl (br_f (by decide) fin)))))⟩⟩) (fun z => absurd cB.1 z))
      have e0 : g.length - 1 = g.length := by omega
      rw [e0] at fin
      exact br_t rfl (br_f (by decide) fin)
    · have est : cf_st dd N i s g = g ++ [(s, i - s)] := by unfold cf_st; rw [if_neg cA, if_neg cB]
      rw [est] at h
      have fin : wY_emitPath_121 post J (nI N) (nI s) (nI i) (nI (i - s)) 0 0 f_maxUrls f_defaultDelay f_clock f_bufferLength f_urlCount f_hostCount f_ruleCount f_cLen f_cHost f_cHostLen f_cPq f_decLen (nI g.length) a_buffer a_urlPool a_urlStart a_urlLength a_urlState a_urlHost a_urlTime a_names a_nameLength a_hostDelay a_hostNext a_hostSent a_rulePool a_ruleStart a_ruleLength a_ruleHost a_ycanon a_dec a_segS a_segL :=
        br_t rfl (br_t rfl (cy_push hg hS (fun s1 s2 hS' => nm_r (nI_1 i) (nm_r (nI_1 i) (h s1 s2 hS')))))
      have f96 : wY_emitPath_96 post J (nI N) (nI s) (nI i) (nI (i - s)) 0 f_maxUrls f_defaultDelay f_clock f_bufferLength f_urlCount f_hostCount f_ruleCount f_cLen f_cHost f_cHostLen f_cPq f_decLen (nI g.length) a_buffer a_urlPool a_urlStart a_urlLength a_urlState a_urlHost a_urlTime a_names a_nameLength a_hostDelay a_hostNext a_hostSent a_rulePool a_ruleStart a_ruleLength a_ruleHost a_ycanon a_dec a_segS a_segL := br_t rfl fin
      have f59 : wY_emitPath_59 post J (nI N) (nI s) (nI i) (nI (i - s)) f_maxUrls f_defaultDelay f_clock f_bufferLength f_urlCount f_hostCount f_ruleCount f_cLen f_cHost f_cHostLen f_cPq f_decLen (nI g.length) a_buffer a_urlPool a_urlStart a_urlLength a_urlState a_urlHost a_urlTime a_names a_nameLength a_hostDelay a_hostNext a_hostSent a_rulePool a_ruleStart a_ruleLength a_ruleHost a_ycanon a_dec a_segS a_segL :=
        pk_eq (i - s) 2 (fun z => ⟨pk_in s 64 (by omega), cf_eqc (dd s) 46 (cf_ix s rfl (by omega) (hd s (by omega))) (by have := hB s; omega) (fun z1 => ⟨pk_in (s + 1) 64 (by omega) (nI_1 s), cf_eqc (dd (s + 1)) 46 (cf_ix (s + 1) (nI_1 s) (by omega) (hd (s + 1) (by omega))) (by have := hB (s + 1); omega) (fun z2 => absurd ⟨z, z1, z2⟩ cB) (fun z2 => f96)⟩) (fun z1 => f96)⟩) (fun z => f96)
      exact pk_eq (i - s) 1 (fun z => ⟨pk_in s 64 (by omega), cf_eqc (dd s) 46 (cf_ix s rfl (by omega) (hd s (by omega))) (by have := hB s; omega) (fun z1 => absurd ⟨z, z1⟩ cA) (fun z1 => f59)⟩) (fun z => f59)
theorem cy_path9 {post : SY → Prop} (hd : ∀ j, j < N → a_dec j = nI (dd j)) (hB : ∀ j, dd j ≤ 126) (hN : N ≤ 48) : ∀ d i s g f ss sl, i + d = N + 1 → d < f → 1 ≤ s → s ≤ i → (∀ j, s ≤ j → j < i → dd j ≠ 47) → cf_G dd N s g → cf_Sg ss sl g → (∀ ss sl f s', cf_Sg ss sl (cf_sg dd N d i s g) → wY_emitPath_9 post (nI N) (f + 1) s' (nI (N + 1)) f_maxUrls f_defaultDelay f_clock f_bufferLength f_urlCount f_hostCount f_ruleCount f_cLen f_cHost f_cHostLen f_cPq f_decLen (nI (cf_sg dd N d i s g).length) a_buffer a_urlPool a_urlStart a_urlLength a_urlState a_urlHost a_urlTime a_names a_nameLength a_hostDelay a_hostNext a_hostSent a_rulePool a_ruleStart a_ruleLength a_ruleHost a_ycanon a_dec ss sl) → wY_emitPath_9 post (nI N) f (nI s) (nI i) f_maxUrls f_defaultDelay f_clock f_bufferLength f_urlCount f_hostCount f_ruleCount f_cLen f_cHost f_cHostLen f_cPq f_decLen (nI g.length) a_buffer a_urlPool a_urlStart a_urlLength a_urlState a_urlHost a_urlTime a_names a_nameLength a_hostDelay a_hostNext a_hostSent a_rulePool a_ruleStart a_ruleLength a_ruleHost a_ycanon a_dec ss sl := by
  intro d
  induction d with
  | zero =>
    intro i s g f ss sl hi hf hs1 hsi hj hG hS h
    have e : i = N + 1 := by omega
    subst e
    cases f with
    | zero => omega
    | succ f => exact h ss sl f _ hS
  | succ d ih =>
    intro i s g f ss sl hi hf hs1 hsi hj hG hS h
    cases f with
    | zero => omega
    | succ f =>
      have gl := cf_flG dd g
      have g1 := hG.1
      have seg : ¬ (i < N ∧ dd i ≠ 47) → wY_emitPath_33 post (wY_emitPath_9 post (nI N) f) (nI N) (nI s) (nI i) f_maxUrls f_defaultDelay f_clock f_bufferLength f_urlCount f_hostCount f_ruleCount f_cLen f_cHost f_cHostLen f_cPq f_decLen (nI g.length) a_buffer a_urlPool a_urlStart a_urlLength a_urlState a_urlHost a_urlTime a_names a_nameLength a_hostDelay a_hostNext a_hostSent a_rulePool a_ruleStart a_ruleLength a_ruleHost a_ycanon a_dec ss sl := by
        intro c
        rw [cf_sgS c] at h
        refine cy_33 hd hB hsi (by omega) hN (by omega) hS (fun s1 s2 hS' => ?_)
        exact ih (i + 1) (i + 1) _ f s1 s2 (by omega) (by omega) (by omega) (Nat.le_refl _) (fun j h1 h2 => by omega) (cf_Gs hG hsi (by omega) hj) hS' h
      refine pk_lt N i (fun z => by omega) (fun _ => pk_le N i (fun z => seg (fun w => by omega)) (fun z => ⟨pk_in i 64 (by omega), cf_eqc (dd i) 47 (cf_ix i rfl (by omega) (hd i (by omega))) (by have := hB i; omega) (fun z1 => seg (fun w => w.2 z1)) (fun z1 => nm_r (nI_1 i) ?_)⟩))
      rw [cf_sgC ⟨z, z1⟩] at h
      refine ih (i + 1) s g f ss sl (by omega) (by omega) hs1 (by omega) (fun j h1 h2 => ?_) hG hS h
      rcases Nat.lt_or_ge j i with y | y
      · exact hj j h1 y
      · have ej : j = i := by omega
        rw [ej]
        exact z1
theorem cy_191 {post : SY → Prop} {J : Int32 → Int32 → Int32 → Int32 → Int32 → Int32 → Int32 → Int32 → Int32 → Int32 → Int32 → Int32 → Int32 → Int32 → (Nat → Int32) → (Nat → Int32) → (Nat → Int32) → (Nat → Int32) → (Nat → Int32) → (Nat → Int32) → (Nat → Int32) → (Nat → Int32) → (Nat → Int32) → (Nat → Int32) → (Nat → Int32) → (Nat → Int32) → (Nat → Int32) → (Nat → Int32) → (Nat → Int32) → (Nat → Int32) → (Nat → Int32) → (Nat → Int32) → (Nat → Int32) → (Nat → Int32) → Prop} {l : List Nat} {n j p q : Nat} (hd : ∀ j, j < N → a_dec j = nI (dd j)) (hN : N ≤ 48) (hj : j < 64) (e1 : a_segS j = nI p) (e2 : a_segL j = nI q) (hpq : p + q ≤ N) (hn : n + q ≤ 64) (h : ∀ a, cf_K a (n + q) (l ++ cf_sb dd p q) → J (nI (j + 1)) f_maxUrls f_defaultDelay f_clock f_bufferLength f_urlCount f_hostCount f_ruleCount (nI (n + q)) f_cHost f_cHostLen f_cPq f_decLen f_segN a_buffer a_urlPool a_urlStart a_urlLength a_urlState a_urlHost a_urlTime a_names a_nameLength a_hostDelay a_hostNext a_hostSent a_rulePool a_ruleStart a_ruleLength a_ruleHost a a_dec a_segS a_segL) : ∀ d k f a, k + d = q → d < f → cf_K a (n + k) (l ++ cf_sb dd p k) → wY_emitPath_191 post J (nI j) f (nI k) f_maxUrls f_defaultDelay f_clock f_bufferLength f_urlCount f_hostCount f_ruleCount (nI (n + k)) f_cHost f_cHostLen f_cPq f_decLen f_segN a_buffer a_urlPool a_urlStart a_urlLength a_urlState a_urlHost a_urlTime a_names a_nameLength a_hostDelay a_hostNext a_hostSent a_rulePool a_ruleStart a_ruleLength a_ruleHost a a_dec a_segS a_segL := by
  have c1 : a_segS (nI j).toNatClampNeg = nI p := cf_ix j rfl (by omega) e1
  have c2 : a_segL (nI j).toNatClampNeg = nI q := cf_ix j rfl (by omega) e2
  intro d
  induction d with
  | zero =>
    intro k f a hk hf hK
    have e : k = q := by omega
    subst e
    cases f with
    | zero => omega
    | succ f => exact ⟨pk_in j 64 hj, pk_le k k (fun _ => nm_r (nI_1 j) (h a hK)) (fun z => by omega) c2⟩
  | succ d ih =>
    intro k f a hk hf hK
    cases f with
    | zero => omega
    | succ f =>
      have c3 : a_segS (nI j).toNatClampNeg + nI k = nI (p + k) := by rw [c1, nI_add]
      refine ⟨pk_in j 64 hj, pk_le q k (fun z => by omega) (fun _ => ⟨pk_in j 64 hj, pk_in (p + k) 64 (by omega) c3, cy_emit (dd (p + k)) (cf_ix (p + k) c3 (by omega) (hd (p + k) (by omega))) (by omega) hK (fun a' hK' => nm_r (nI_1 k) (ih (k + 1) f a' (by omega) (by omega) ?_))⟩) c2⟩
      rw [cf_sb1, ← List.append_assoc]
      exact hK'
theorem cy_170 {post : SY → Prop} {l : List Nat} {n : Nat} {G : List (Nat × Nat)} (hd : ∀ j, j < N → a_dec j = nI (dd j)) (hN : N ≤ 48) (hG : cf_G dd N (N + 1) G) (hS : cf_Sg a_segS a_segL G) (hn : n + N ≤ 49) (h : ∀ a, cf_K a (n + (cf_pt dd G).length) (l ++ cf_pt dd G) → post (f_maxUrls, f_defaultDelay, f_clock, f_bufferLength, f_urlCount, f_hostCount, f_ruleCount, nI (n + (cf_pt dd G).length), f_cHost, f_cHostLen, f_cPq, f_decLen, nI G.length, a_buffer, a_urlPool, a_urlStart, a_urlLength, a_urlState, a_urlHost, a_urlTime, a_names, a_nameLength, a_hostDelay, a_hostNext, a_hostSent, a_rulePool, a_ruleStart, a_ruleLength, a_ruleHost, a, a_dec, a_segS, a_segL)) : ∀ r j f a, j + r = G.length → r < f → cf_K a (n + (cf_pt dd (G.take j)).length) (l ++ cf_pt dd (G.take j)) → wY_emitPath_170 post f (nI j) f_maxUrls f_defaultDelay f_clock f_bufferLength f_urlCount f_hostCount f_ruleCount (nI (n + (cf_pt dd (G.take j)).length)) f_cHost f_cHostLen f_cPq f_decLen (nI G.length) a_buffer a_urlPool a_urlStart a_urlLength a_urlState a_urlHost a_urlTime a_names a_nameLength a_hostDelay a_hostNext a_hostSent a_rulePool a_ruleStart a_ruleLength a_ruleHost a a_dec a_segS a_segL := by
  have gl := cf_flG dd G
  have g1 := hG.1
  intro r
  induction r with
  | zero =>
    intro j f a hj hf hK
    have e : j = G.length := by omega
    subst e
    rw [List.take_length] at hK ⊢
    cases f with
    | zero => omega
    | succ f => exact pk_le G.length G.length (fun _ => h a hK) (fun z => by omega)
  | succ r ih =>
    intro j f a hj hf hK
    cases f with
    | zero => omega
    | succ f =>
      have tk := cf_tks (g := G) (j := j) (by omega)
      have sj := hS j (by omega)
      have pj := (hG.2 _ (cf_pgm (g := G) (j := j) (by omega))).1
      have tl := cf_flT dd G (j + 1)
      rw [tk, cf_fla, List.length_append, List.length_cons, cf_sbL] at tl
      refine pk_le G.length j (fun z => by omega) (fun _ => pk_le j 0 (fun z => ?_) (fun z => ?_))
      · have e0 : j = 0 := by omega
        subst e0
        have en : cf_pt dd (G.take (0 + 1)) = cf_pt dd (G.take 0) ++ cf_sb dd (G.getD 0 (0, 0)).1 (G.getD 0 (0, 0)).2 := by
          rw [tk]
          show cf_fl dd [G.getD 0 (0, 0)] = _
          rw [cf_fl1]
          rfl
        have k0 : (cf_pt dd (G.take 0)).length = 1 := rfl
        refine ⟨(G.getD 0 (0, 0)).2 + 1, cy_191 (n := n + (cf_pt dd (G.take 0)).length) (l := l ++ cf_pt dd (G.take 0)) hd hN (by omega) sj.1 sj.2 pj (by omega) (fun a' hK' => ?_) _ 0 _ a (Nat.zero_add _) (by omega) ?_⟩
        · have e3 : n + (cf_pt dd (G.take (0 + 1))).length = n + (cf_pt dd (G.take 0)).length + (G.getD 0 (0, 0)).2 := by
            rw [en, List.length_append, cf_sbL]
            omega
          have i1 := ih (0 + 1) f a' (by omega) (by omega)
          rw [e3, en, ← List.append_assoc] at i1
          exact i1 hK'
        · show cf_K a _ (_ ++ [])
          rw [List.append_nil]
          exact hK
      · have ne : G.take j ≠ [] := by
          intro w
          have := congrArg List.length w
          rw [List.length_take] at this
          have w0 : ([] : List (Nat × Nat)).length = 0 := rfl
          omega
        have ne2 : G.take (j + 1) ≠ [] := by
          rw [tk]
          simp
        have ep : cf_pt dd (G.take j) = cf_fl dd (G.take j) := cf_ptN ne
        have en : cf_pt dd (G.take (j + 1)) = cf_fl dd (G.take j) ++ [47] ++ cf_sb dd (G.getD j (0, 0)).1 (G.getD j (0, 0)).2 := by
          rw [cf_ptN ne2, tk, cf_fla, List.append_assoc]
          rfl
        rw [ep] at hK ⊢
        refine cy_emit 47 rfl (by omega) hK (fun a1 hK1 => ⟨(G.getD j (0, 0)).2 + 1, cy_191 (l := l ++ cf_fl dd (G.take j) ++ [47]) hd hN (by omega) sj.1 sj.2 pj (by omega) (fun a' hK' => ?_) _ 0 _ a1 (Nat.zero_add _) (by omega) ?_⟩)
        · have e3 : n + (cf_pt dd (G.take (j + 1))).length = n + (cf_fl dd (G.take j)).length + 1 + (G.getD j (0, 0)).2 := by
            rw [en, List.length_append, List.length_append, cf_sbL]
            show n + ((cf_fl dd (G.take j)).length + 1 + _) = _
            omega
          have i1 := ih (j + 1) f a' (by omega) (by omega)
          rw [e3, en, ← List.append_assoc, ← List.append_assoc] at i1
          exact i1 hK'
        · show cf_K a1 _ (_ ++ [])
          rw [List.append_nil]
          exact hK1
theorem cy_emitPath {post : SY → Prop} {D l : List Nat} {n : Nat} (hd : ∀ j, j < D.length → a_dec j = nI (cf_dD D j)) (hB : ∀ j, cf_dD D j ≤ 126) (hD : D.length ≤ 48) (hn : n + D.length ≤ 49) (hK : cf_K a_ycanon n l) (h : ∀ a ss sl m, cf_K a (n + (cf_pa D).length) (l ++ cf_pa D) → post (f_maxUrls, f_defaultDelay, f_clock, f_bufferLength, f_urlCount, f_hostCount, f_ruleCount, nI (n + (cf_pa D).length), f_cHost, f_cHostLen, f_cPq, f_decLen, m, a_buffer, a_urlPool, a_urlStart, a_urlLength, a_urlState, a_urlHost, a_urlTime, a_names, a_nameLength, a_hostDelay, a_hostNext, a_hostSent, a_rulePool, a_ruleStart, a_ruleLength, a_ruleHost, a, a_dec, ss, sl)) : wpY_emitPath post (f_maxUrls, f_defaultDelay, f_clock, f_bufferLength, f_urlCount, f_hostCount, f_ruleCount, nI n, f_cHost, f_cHostLen, f_cPq, f_decLen, f_segN, a_buffer, a_urlPool, a_urlStart, a_urlLength, a_urlState, a_urlHost, a_urlTime, a_names, a_nameLength, a_hostDelay, a_hostNext, a_hostSent, a_rulePool, a_ruleStart, a_ruleLength, a_ruleHost, a_ycanon, a_dec, a_segS, a_segL) (nI D.length) := by
  refine ⟨D.length + 1, cy_path9 hd hB hD D.length 1 1 [] _ a_segS a_segL (by omega) (by omega) (Nat.le_refl _) (Nat.le_refl _) (fun j h1 h2 => by omega) (cf_G0 _ _) (fun j hj => absurd hj (Nat.not_lt_zero j)) (fun ss sl f s' hS => ?_)⟩
  refine pk_lt D.length (D.length + 1) (fun _ => cy_emit 47 rfl (by omega) hK (fun a hK' => ⟨(cf_gs D).length + 1, ?_⟩)) (fun z => by omega)
  exact cy_170 (l := l) (n := n) hd hD (cf_gsG D) hS hn (fun a2 hK2 => h a2 _ _ _ hK2) (cf_gs D).length 0 _ a (by omega) (by omega) hK'
end
