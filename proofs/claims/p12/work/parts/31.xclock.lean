/-! the class: clock and counts -/
def cf_Rd (ck : Int32) (nx uh us : Nat → Int32) (uc h : Nat) : Prop := ¬ ck < nx h ∧ ∃ u, u < uc ∧ uh u = nI h ∧ us u = 1
theorem cf_bl {a : Nat → Int32} {x y : Int32} {A B : Prop} (u : Nat) (hu : u < 2 ^ 31) (f : y < a u → A) (g : ¬ y < a u → B) (hx : x = nI u := by rfl) : (y < a x.toNatClampNeg → A) ∧ (¬ y < a x.toNatClampNeg → B) := by
  rw [pk_cl u hx hu]
  exact ⟨f, g⟩
theorem cf_b2 {a : Nat → Int32} {x y : Int32} {A B : Prop} (u v : Nat) (hu : u < 2 ^ 31) (hv : v < 2 ^ 31) (f : a u ≤ a v → A) (g : ¬ a u ≤ a v → B) (hx : x = nI u := by rfl) (hy : y = nI v := by rfl) : (a x.toNatClampNeg ≤ a y.toNatClampNeg → A) ∧ (¬ a x.toNatClampNeg ≤ a y.toNatClampNeg → B) := by
  rw [pk_cl u hx hu, pk_cl v hy hv]
  exact ⟨f, g⟩
section
variable {f_maxUrls f_defaultDelay f_clock f_bufferLength f_canonLength f_canonHost f_canonHostLength f_canonPath f_schemePort f_partLength f_urlCount f_urlChars f_hostCount f_ruleCount f_ruleChars : Int32} {a_buffer a_canon a_part a_urlPool a_urlStart a_urlLength a_urlPath a_urlHost a_urlState a_urlTime a_names a_nameLength a_hostDelay a_hostNext a_rulePool a_ruleStart a_ruleLength a_ruleHost : Nat → Int32}
theorem cx_firstQueued {post : Int32 → Prop} {x : Int32} {uc : Nat} (huc : uc ≤ 32) (h : ∀ r, cf_FF (fun u => a_urlHost u = x ∧ a_urlState u = 1) uc r → post r) : wpX_firstQueued post (f_maxUrls, f_defaultDelay, f_clock, f_bufferLength, f_canonLength, f_canonHost, f_canonHostLength, f_canonPath, f_schemePort, f_partLength, nI uc, f_urlChars, f_hostCount, f_ruleCount, f_ruleChars, a_buffer, a_canon, a_part, a_urlPool, a_urlStart, a_urlLength, a_urlPath, a_urlHost, a_urlState, a_urlTime, a_names, a_nameLength, a_hostDelay, a_hostNext, a_rulePool, a_ruleStart, a_ruleLength, a_ruleHost) x := by
  refine cf_scan0 (fun f i => wX_firstQueued_2 post x f_maxUrls f_defaultDelay f_clock f_bufferLength f_canonLength f_canonHost f_canonHostLength f_canonPath f_schemePort f_partLength (nI uc) f_urlChars f_hostCount f_ruleCount f_ruleChars a_buffer a_canon a_part a_urlPool a_urlStart a_urlLength a_urlPath a_urlHost a_urlState a_urlTime a_names a_nameLength a_hostDelay a_hostNext a_rulePool a_ruleStart a_ruleLength a_ruleHost f (nI i)) (fun u => a_urlHost u = x ∧ a_urlState u = 1) uc
    (fun f hall => pk_le uc uc (fun _ => h _ (Or.inr ⟨hall, rfl⟩)) (fun z => by omega)) (fun f i hi hP hl => ?_) (fun f i hi hP W => ?_)
  · exact pk_le uc i (fun z => by omega) (fun _ => ⟨pk_in i 32 (by omega), br_t (cf_ix i rfl (by omega) hP.1) ⟨pk_in i 32 (by omega), br_t (cf_ix i rfl (by omega) hP.2) (h _ (Or.inl ⟨i, hi, hP, hl, rfl⟩))⟩⟩)
  · exact pk_le uc i (fun z => by omega) (fun _ => ⟨pk_in i 32 (by omega), cf_bi i (by omega) (fun e => ⟨pk_in i 32 (by omega), cf_bi i (by omega) (fun e2 => absurd ⟨e, e2⟩ hP) (fun e2 => nm_r (nI_1 i) W)⟩) (fun e => nm_r (nI_1 i) W)⟩)
theorem cx_isReady {post : Int32 → Prop} {uc h : Nat} (huc : uc ≤ 32) (h8 : h < 8) (h1 : cf_Rd f_clock a_hostNext a_urlHost a_urlState uc h → post 1) (h0 : ¬ cf_Rd f_clock a_hostNext a_urlHost a_urlState uc h → post 0) : wpX_isReady post (f_maxUrls, f_defaultDelay, f_clock, f_bufferLength, f_canonLength, f_canonHost, f_canonHostLength, f_canonPath, f_schemePort, f_partLength, nI uc, f_urlChars, f_hostCount, f_ruleCount, f_ruleChars, a_buffer, a_canon, a_part, a_urlPool, a_urlStart, a_urlLength, a_urlPath, a_urlHost, a_urlState, a_urlTime, a_names, a_nameLength, a_hostDelay, a_hostNext, a_rulePool, a_ruleStart, a_ruleLength, a_ruleHost) (nI h) := by
  refine ⟨pk_in h 8 h8, cf_bl h (by omega) (fun e => h0 (fun w => w.1 e)) (fun e => cx_firstQueued huc (fun r hr => ?_))⟩
  rcases hr with ⟨j, hj, pj, -, rfl⟩ | ⟨nj, rfl⟩
  · exact br_f (cf_m1 (by omega)) (h1 ⟨e, j, hj, pj⟩)
  · exact br_t rfl (h0 (fun w => by obtain ⟨-, j, hj, pj⟩ := w; exact nj j hj pj))
theorem cx_chooseHost {post : Int32 → Prop} {hc uc : Nat} (h8 : hc ≤ 8) (huc : uc ≤ 32) (h : post (cf_ch (cf_Rd f_clock a_hostNext a_urlHost a_urlState uc) a_hostNext hc)) : wpX_chooseHost post (f_maxUrls, f_defaultDelay, f_clock, f_bufferLength, f_canonLength, f_canonHost, f_canonHostLength, f_canonPath, f_schemePort, f_partLength, nI uc, f_urlChars, nI hc, f_ruleCount, f_ruleChars, a_buffer, a_canon, a_part, a_urlPool, a_urlStart, a_urlLength, a_urlPath, a_urlHost, a_urlState, a_urlTime, a_names, a_nameLength, a_hostDelay, a_hostNext, a_rulePool, a_ruleStart, a_ruleLength, a_ruleHost) := by
  refine cf_fold0 (fun f i s => wX_chooseHost_4 post f_maxUrls f_defaultDelay f_clock f_bufferLength f_canonLength f_canonHost f_canonHostLength f_canonPath f_schemePort f_partLength (nI uc) f_urlChars (nI hc) f_ruleCount f_ruleChars a_buffer a_canon a_part a_urlPool a_urlStart a_urlLength a_urlPath a_urlHost a_urlState a_urlTime a_names a_nameLength a_hostDelay a_hostNext a_rulePool a_ruleStart a_ruleLength a_ruleHost f s (nI i)) (fun i => cf_ch (cf_Rd f_clock a_hostNext a_urlHost a_urlState uc) a_hostNext i) hc (fun f => pk_le hc hc (fun _ => h) (fun z => by omega)) (fun f i hi W => ?_)
  refine pk_le hc i (fun z => by omega) (fun _ => cx_isReady huc (by omega) (fun R => br_f (by decide) (br_c (fun e => nm_r (nI_1 i) ?_) (fun e => ?_))) (fun R => br_t rfl (nm_r (nI_1 i) ?_)))
  · rw [cf_chT ⟨R, Or.inl e⟩] at W
    exact W
  · rcases cf_chI (cf_Rd f_clock a_hostNext a_urlHost a_urlState uc) a_hostNext i with y | ⟨j, hj, rj, ej⟩
    · exact absurd y e
    · have ej' : (cf_ch (cf_Rd f_clock a_hostNext a_urlHost a_urlState uc) a_hostNext i).toNatClampNeg = j := by rw [ej]; exact pk_cl j
      refine ⟨pk_in i 8 (by omega), pk_in j 8 (by omega) ej, cf_b2 j i (by omega) (by omega) (fun z => nm_r (nI_1 i) ?_) (fun z => nm_r (nI_1 i) ?_) ej⟩
      · rw [cf_chF (fun w => by
          rcases w.2 with q | q
          · exact e q
          · rw [ej'] at q
            exact absurd z (Int32.not_le.mpr q))] at W
        exact W
      · rw [cf_chT ⟨R, Or.inr (by rw [ej']; exact Int32.not_le.mp z)⟩] at W
        exact W
  · rw [cf_chF (fun w => R w.1)] at W
    exact W
theorem cx_dispatch {post : St2 → Prop} {uc a b : Nat} (huc : uc ≤ 32) (hb : b < 8) (ha : a < uc) (hp : a_urlHost a = nI b ∧ a_urlState a = 1) (hl : ∀ i, i < a → ¬ (a_urlHost i = nI b ∧ a_urlState i = 1)) (h : post (f_maxUrls, f_defaultDelay, f_clock, f_bufferLength, f_canonLength, f_canonHost, f_canonHostLength, f_canonPath, f_schemePort, f_partLength, nI uc, f_urlChars, f_hostCount, f_ruleCount, f_ruleChars, a_buffer, a_canon, a_part, a_urlPool, a_urlStart, a_urlLength, a_urlPath, a_urlHost, upd a_urlState a 2, upd a_urlTime a f_clock, a_names, a_nameLength, a_hostDelay, upd a_hostNext b (f_clock + a_hostDelay b), a_rulePool, a_ruleStart, a_ruleLength, a_ruleHost)) : wpX_dispatchFrom post (f_maxUrls, f_defaultDelay, f_clock, f_bufferLength, f_canonLength, f_canonHost, f_canonHostLength, f_canonPath, f_schemePort, f_partLength, nI uc, f_urlChars, f_hostCount, f_ruleCount, f_ruleChars, a_buffer, a_canon, a_part, a_urlPool, a_urlStart, a_urlLength, a_urlPath, a_urlHost, a_urlState, a_urlTime, a_names, a_nameLength, a_hostDelay, a_hostNext, a_rulePool, a_ruleStart, a_ruleLength, a_ruleHost) (nI b) := by
  unfold wpX_dispatchFrom
  dsimp only
  refine cx_firstQueued huc (fun r hr => ?_)
  have e : r = nI a := cf_FFu (fun _ _ => Iff.rfl) hr (Or.inl ⟨a, ha, hp, hl, rfl⟩)
  subst e
  have va : vp_in (nI a) 32 := pk_in a 32 (by omega)
  have vb : vp_in (nI b) 8 := pk_in b 8 hb
  have ca : (nI a).toNatClampNeg = a := pk_cl a
  have cb : (nI b).toNatClampNeg = b := pk_cl b
  exact br_f (cf_m1 (by omega)) ⟨va, nm_r (e' := upd a_urlState a 2) (by rw [ca]) ⟨va, nm_r (e' := upd a_urlTime a f_clock) (by rw [ca]) ⟨vb, vb, nm_r (e' := upd a_hostNext b (f_clock + a_hostDelay b)) (by rw [cb]) h⟩⟩⟩
theorem cx_urlsIn {post : Int32 → Prop} {x : Int32} {uc : Nat} (huc : uc ≤ 32) (h : post (nI (cf_ct (fun u => a_urlState u = x) uc))) : wpX_urlsIn post (f_maxUrls, f_defaultDelay, f_clock, f_bufferLength, f_canonLength, f_canonHost, f_canonHostLength, f_canonPath, f_schemePort, f_partLength, nI uc, f_urlChars, f_hostCount, f_ruleCount, f_ruleChars, a_buffer, a_canon, a_part, a_urlPool, a_urlStart, a_urlLength, a_urlPath, a_urlHost, a_urlState, a_urlTime, a_names, a_nameLength, a_hostDelay, a_hostNext, a_rulePool, a_ruleStart, a_ruleLength, a_ruleHost) x := by
  refine cf_fold0 (fun f i s => wX_urlsIn_4 post x f_maxUrls f_defaultDelay f_clock f_bufferLength f_canonLength f_canonHost f_canonHostLength f_canonPath f_schemePort f_partLength (nI uc) f_urlChars f_hostCount f_ruleCount f_ruleChars a_buffer a_canon a_part a_urlPool a_urlStart a_urlLength a_urlPath a_urlHost a_urlState a_urlTime a_names a_nameLength a_hostDelay a_hostNext a_rulePool a_ruleStart a_ruleLength a_ruleHost f (nI s) (nI i)) (fun i => cf_ct (fun u => a_urlState u = x) i) uc (fun f => pk_le uc uc (fun _ => h) (fun z => by omega)) (fun f i hi W => ?_)
  refine pk_le uc i (fun z => by omega) (fun _ => ⟨pk_in i 32 (by omega), cf_bi i (by omega) (fun e => nm_r (nI_1 _) (nm_r (nI_1 i) ?_)) (fun e => nm_r (nI_1 i) ?_)⟩)
  · rw [cf_ctT (P := fun u => a_urlState u = x) e] at W
    exact W
  · rw [cf_ctF (P := fun u => a_urlState u = x) e] at W
    exact W
theorem cx_urlsOf {post : Int32 → Prop} {x y : Int32} {uc : Nat} (huc : uc ≤ 32) (h : post (nI (cf_ct (fun u => a_urlHost u = x ∧ a_urlState u = y) uc))) : wpX_urlsOfHostIn post (f_maxUrls, f_defaultDelay, f_clock, f_bufferLength, f_canonLength, f_canonHost, f_canonHostLength, f_canonPath, f_schemePort, f_partLength, nI uc, f_urlChars, f_hostCount, f_ruleCount, f_ruleChars, a_buffer, a_canon, a_part, a_urlPool, a_urlStart, a_urlLength, a_urlPath, a_urlHost, a_urlState, a_urlTime, a_names, a_nameLength, a_hostDelay, a_hostNext, a_rulePool, a_ruleStart, a_ruleLength, a_ruleHost) x y := by
  refine cf_fold0 (fun f i s => wX_urlsOfHostIn_5 post x y f_maxUrls f_defaultDelay f_clock f_bufferLength f_canonLength f_canonHost f_canonHostLength f_canonPath f_schemePort f_partLength (nI uc) f_urlChars f_hostCount f_ruleCount f_ruleChars a_buffer a_canon a_part a_urlPool a_urlStart a_urlLength a_urlPath a_urlHost a_urlState a_urlTime a_names a_nameLength a_hostDelay a_hostNext a_rulePool a_ruleStart a_ruleLength a_ruleHost f (nI s) (nI i)) (fun i => cf_ct (fun u => a_urlHost u = x ∧ a_urlState u = y) i) uc (fun f => pk_le uc uc (fun _ => h) (fun z => by omega)) (fun f i hi W => ?_)
  refine pk_le uc i (fun z => by omega) (fun _ => ⟨pk_in i 32 (by omega), cf_bi i (by omega) (fun e => ⟨pk_in i 32 (by omega), cf_bi i (by omega) (fun e2 => nm_r (nI_1 _) (nm_r (nI_1 i) ?_)) (fun e2 => nm_r (nI_1 i) ?_)⟩) (fun e => nm_r (nI_1 i) ?_)⟩)
  · rw [cf_ctT (P := fun u => a_urlHost u = x ∧ a_urlState u = y) ⟨e, e2⟩] at W
    exact W
  · rw [cf_ctF (P := fun u => a_urlHost u = x ∧ a_urlState u = y) (fun w => e2 w.2)] at W
    exact W
  · rw [cf_ctF (P := fun u => a_urlHost u = x ∧ a_urlState u = y) (fun w => e w.1)] at W
    exact W
end
