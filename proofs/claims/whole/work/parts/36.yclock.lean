/-! the reference: clock and counts; then one run of tick on both sides -/
theorem cf_least {P : Nat → Prop} : ∀ n, P n → ∃ k, k ≤ n ∧ P k ∧ ∀ j, j < k → ¬ P j := by
  intro n
  induction n using Nat.strongRecOn with
  | ind n ih =>
    intro hn
    by_cases h : ∃ j, j < n ∧ P j
    · obtain ⟨j, hj, pj⟩ := h
      obtain ⟨k, hk, pk, lk⟩ := ih j hj pj
      exact ⟨k, by omega, pk, lk⟩
    · exact ⟨n, Nat.le_refl _, hn, fun j hj pj => h ⟨j, hj, pj⟩⟩
section
variable {f_maxUrls f_defaultDelay f_clock f_bufferLength f_urlCount f_hostCount f_ruleCount f_cLen f_cHost f_cHostLen f_cPq f_decLen f_segN : Int32} {a_buffer a_urlPool a_urlStart a_urlLength a_urlState a_urlHost a_urlTime a_names a_nameLength a_hostDelay a_hostNext a_hostSent a_rulePool a_ruleStart a_ruleLength a_ruleHost a_ycanon a_dec a_segS a_segL : Nat → Int32}
theorem cy_firstQueued {post : Int32 → Prop} {x : Int32} {uc : Nat} (huc : uc ≤ 32) (h : ∀ r, cf_FF (fun u => a_urlHost u = x ∧ a_urlState u = 1) uc r → post r) : wpY_firstQueued post (f_maxUrls, f_defaultDelay, f_clock, f_bufferLength, nI uc, f_hostCount, f_ruleCount, f_cLen, f_cHost, f_cHostLen, f_cPq, f_decLen, f_segN, a_buffer, a_urlPool, a_urlStart, a_urlLength, a_urlState, a_urlHost, a_urlTime, a_names, a_nameLength, a_hostDelay, a_hostNext, a_hostSent, a_rulePool, a_ruleStart, a_ruleLength, a_ruleHost, a_ycanon, a_dec, a_segS, a_segL) x := by
  refine cf_scan0 (fun f i => wY_firstQueued_2 post x f_maxUrls f_defaultDelay f_clock f_bufferLength (nI uc) f_hostCount f_ruleCount f_cLen f_cHost f_cHostLen f_cPq f_decLen f_segN a_buffer a_urlPool a_urlStart a_urlLength a_urlState a_urlHost a_urlTime a_names a_nameLength a_hostDelay a_hostNext a_hostSent a_rulePool a_ruleStart a_ruleLength a_ruleHost a_ycanon a_dec a_segS a_segL f (nI i)) (fun u => a_urlHost u = x ∧ a_urlState u = 1) uc
    (fun f hall => pk_le uc uc (fun _ => h _ (Or.inr ⟨hall, rfl⟩)) (fun z => by omega)) (fun f i hi hP hl => ?_) (fun f i hi hP W => ?_)
  · exact pk_le uc i (fun z => by omega) (fun _ => ⟨pk_in i 32 (by omega), br_t (cf_ix i rfl (by omega) hP.1) ⟨pk_in i 32 (by omega), br_t (cf_ix i rfl (by omega) hP.2) (h _ (Or.inl ⟨i, hi, hP, hl, rfl⟩))⟩⟩)
  · exact pk_le uc i (fun z => by omega) (fun _ => ⟨pk_in i 32 (by omega), cf_bi i (by omega) (fun e => ⟨pk_in i 32 (by omega), cf_bi i (by omega) (fun e2 => absurd ⟨e, e2⟩ hP) (fun e2 => nm_r (nI_1 i) W)⟩) (fun e => nm_r (nI_1 i) W)⟩)
theorem cy_queuedOf {post : Int32 → Prop} {x : Int32} {uc : Nat} (huc : uc ≤ 32) (h : post (nI (cf_ct (fun u => a_urlHost u = x ∧ a_urlState u = 1) uc))) : wpY_queuedOf post (f_maxUrls, f_defaultDelay, f_clock, f_bufferLength, nI uc, f_hostCount, f_ruleCount, f_cLen, f_cHost, f_cHostLen, f_cPq, f_decLen, f_segN, a_buffer, a_urlPool, a_urlStart, a_urlLength, a_urlState, a_urlHost, a_urlTime, a_names, a_nameLength, a_hostDelay, a_hostNext, a_hostSent, a_rulePool, a_ruleStart, a_ruleLength, a_ruleHost, a_ycanon, a_dec, a_segS, a_segL) x := by
  refine cf_fold0 (fun f i s => wY_queuedOf_4 post x f_maxUrls f_defaultDelay f_clock f_bufferLength (nI uc) f_hostCount f_ruleCount f_cLen f_cHost f_cHostLen f_cPq f_decLen f_segN a_buffer a_urlPool a_urlStart a_urlLength a_urlState a_urlHost a_urlTime a_names a_nameLength a_hostDelay a_hostNext a_hostSent a_rulePool a_ruleStart a_ruleLength a_ruleHost a_ycanon a_dec a_segS a_segL f (nI s) (nI i)) (fun i => cf_ct (fun u => a_urlHost u = x ∧ a_urlState u = 1) i) uc (fun f => pk_le uc uc (fun _ => h) (fun z => by omega)) (fun f i hi W => ?_)
  refine pk_le uc i (fun z => by omega) (fun _ => ⟨pk_in i 32 (by omega), cf_bi i (by omega) (fun e => ⟨pk_in i 32 (by omega), cf_bi i (by omega) (fun e2 => nm_r (nI_1 _) (nm_r (nI_1 i) ?_)) (fun e2 => nm_r (nI_1 i) ?_)⟩) (fun e => nm_r (nI_1 i) ?_)⟩)
  · rw [cf_ctT (P := fun u => a_urlHost u = x ∧ a_urlState u = 1) ⟨e, e2⟩] at W
    exact W
  · rw [cf_ctF (P := fun u => a_urlHost u = x ∧ a_urlState u = 1) (fun w => e2 w.2)] at W
    exact W
  · rw [cf_ctF (P := fun u => a_urlHost u = x ∧ a_urlState u = 1) (fun w => e w.1)] at W
    exact W
theorem cy_stateCount {post : Int32 → Prop} {x : Int32} {uc : Nat} (huc : uc ≤ 32) (h : post (nI (cf_ct (fun u => a_urlState u = x) uc))) : wpY_stateCount post (f_maxUrls, f_defaultDelay, f_clock, f_bufferLength, nI uc, f_hostCount, f_ruleCount, f_cLen, f_cHost, f_cHostLen, f_cPq, f_decLen, f_segN, a_buffer, a_urlPool, a_urlStart, a_urlLength, a_urlState, a_urlHost, a_urlTime, a_names, a_nameLength, a_hostDelay, a_hostNext, a_hostSent, a_rulePool, a_ruleStart, a_ruleLength, a_ruleHost, a_ycanon, a_dec, a_segS, a_segL) x := by
  refine cf_fold0 (fun f i s => wY_stateCount_4 post x f_maxUrls f_defaultDelay f_clock f_bufferLength (nI uc) f_hostCount f_ruleCount f_cLen f_cHost f_cHostLen f_cPq f_decLen f_segN a_buffer a_urlPool a_urlStart a_urlLength a_urlState a_urlHost a_urlTime a_names a_nameLength a_hostDelay a_hostNext a_hostSent a_rulePool a_ruleStart a_ruleLength a_ruleHost a_ycanon a_dec a_segS a_segL f (nI s) (nI i)) (fun i => cf_ct (fun u => a_urlState u = x) i) uc (fun f => pk_le uc uc (fun _ => h) (fun z => by omega)) (fun f i hi W => ?_)
  refine pk_le uc i (fun z => by omega) (fun _ => ⟨pk_in i 32 (by omega), cf_bi i (by omega) (fun e => nm_r (nI_1 _) (nm_r (nI_1 i) ?_)) (fun e => nm_r (nI_1 i) ?_)⟩)
  · rw [cf_ctT (P := fun u => a_urlState u = x) e] at W
    exact W
  · rw [cf_ctF (P := fun u => a_urlState u = x) e] at W
    exact W
theorem cy_t39 {post : Int32 → SY → Prop} {J : Int32 → Int32 → Int32 → (Nat → Int32) → (Nat → Int32) → (Nat → Int32) → (Nat → Int32) → (Nat → Int32) → (Nat → Int32) → (Nat → Int32) → (Nat → Int32) → (Nat → Int32) → (Nat → Int32) → (Nat → Int32) → (Nat → Int32) → (Nat → Int32) → (Nat → Int32) → (Nat → Int32) → (Nat → Int32) → (Nat → Int32) → (Nat → Int32) → (Nat → Int32) → (Nat → Int32) → Prop} {x2 x3 x4 : Int32} {hc uc : Nat} (h8 : hc ≤ 8) (huc : uc ≤ 32) (hx : ∀ f, wY_tick_39 post J x2 x3 x4 f_maxUrls f_defaultDelay f_clock f_bufferLength (nI uc) (nI hc) f_ruleCount f_cLen f_cHost f_cHostLen f_cPq f_decLen f_segN a_buffer a_urlPool a_urlStart a_urlLength a_urlState a_urlHost a_urlTime a_names a_nameLength a_hostDelay a_hostNext a_hostSent a_rulePool a_ruleStart a_ruleLength a_ruleHost a_ycanon a_dec a_segS a_segL (f + 1) (cf_ch (cf_Rd f_clock a_hostNext a_urlHost a_urlState uc) a_hostNext hc) (nI hc)) : ∃ f, wY_tick_39 post J x2 x3 x4 f_maxUrls f_defaultDelay f_clock f_bufferLength (nI uc) (nI hc) f_ruleCount f_cLen f_cHost f_cHostLen f_cPq f_decLen f_segN a_buffer a_urlPool a_urlStart a_urlLength a_urlState a_urlHost a_urlTime a_names a_nameLength a_hostDelay a_hostNext a_hostSent a_rulePool a_ruleStart a_ruleLength a_ruleHost a_ycanon a_dec a_segS a_segL f (-1) 0 := by
  refine cf_fold0 (fun f i s => wY_tick_39 post J x2 x3 x4 f_maxUrls f_defaultDelay f_clock f_bufferLength (nI uc) (nI hc) f_ruleCount f_cLen f_cHost f_cHostLen f_cPq f_decLen f_segN a_buffer a_urlPool a_urlStart a_urlLength a_urlState a_urlHost a_urlTime a_names a_nameLength a_hostDelay a_hostNext a_hostSent a_rulePool a_ruleStart a_ruleLength a_ruleHost a_ycanon a_dec a_segS a_segL f s (nI i)) (fun i => cf_ch (cf_Rd f_clock a_hostNext a_urlHost a_urlState uc) a_hostNext i) hc hx (fun f i hi W => ?_)
  have pos := cf_ctP (P := fun u => a_urlHost u = nI i ∧ a_urlState u = 1) uc
  have cb := cf_ctB (fun u => a_urlHost u = nI i ∧ a_urlState u = 1) uc
  refine pk_le hc i (fun z => by omega) (fun _ => ⟨pk_in i 8 (by omega), cf_bl i (by omega) (fun e => nm_r (nI_1 i) ?_) (fun e => cy_queuedOf huc (pk_le (cf_ct (fun u => a_urlHost u = nI i ∧ a_urlState u = 1) uc) 0 (fun z => nm_r (nI_1 i) ?_) (fun z => ?_)))⟩)
  · rw [cf_chF (fun w => w.1.1 e)] at W
    exact W
  · rw [cf_chF (fun w => by have := pos.mpr w.1.2; omega)] at W
    exact W
  · have R : cf_Rd f_clock a_hostNext a_urlHost a_urlState uc i := ⟨e, pos.mp z⟩
    rcases cf_chI (cf_Rd f_clock a_hostNext a_urlHost a_urlState uc) a_hostNext i with y | ⟨j, hj, rj, ej⟩
    · rw [cf_chT ⟨R, Or.inl y⟩] at W
      exact br_t (by rw [y]; exact cf_m0) (nm_r (nI_1 i) W)
    · have ej' : (cf_ch (cf_Rd f_clock a_hostNext a_urlHost a_urlState uc) a_hostNext i).toNatClampNeg = j := by rw [ej]; exact pk_cl j
      refine br_f (by rw [ej]; exact nI_pos (by omega)) ⟨pk_in i 8 (by omega), pk_in j 8 (by omega) ej, cf_b2 j i (by omega) (by omega) (fun z => nm_r (nI_1 i) ?_) (fun z => nm_r (nI_1 i) ?_) ej⟩
      · rw [cf_chF (fun w => by
          rcases w.2 with q | q
          · rw [ej] at q
            exact cf_m1 (by omega) q
          · rw [ej'] at q
            exact absurd z (Int32.not_le.mpr q))] at W
        exact W
      · rw [cf_chT ⟨R, Or.inr (by rw [ej']; exact Int32.not_le.mp z)⟩] at W
        exact W
end
section
variable {f_maxUrls f_defaultDelay f_clock f_bufferLength f_canonLength f_canonHost f_canonHostLength f_canonPath f_schemePort f_partLength f_urlCount f_urlChars f_hostCount f_ruleCount f_ruleChars f_cLen f_cHost f_cHostLen f_cPq f_decLen f_segN : Int32} {a_buffer a_canon a_part a_urlPool a_urlStart a_urlLength a_urlPath a_urlHost a_urlState a_urlTime a_names a_nameLength a_hostDelay a_hostNext a_rulePool a_ruleStart a_ruleLength a_ruleHost a_hostSent a_ycanon a_dec a_segS a_segL : Nat → Int32}
theorem cb_tick {m hc uc : Nat} (hm : m ≤ 64) (h8 : hc ≤ 8) (huc : uc ≤ 32) : ∀ d i k ck us ut nx sent, i + d = m → cf_IH hc uc a_nameLength sent a_urlHost us → ∃ r ck' us' ut' nx' sent', cf_IH hc uc a_nameLength sent' a_urlHost us' ∧
    (∀ (post : Int32 → SX → Prop) f, d < f → post r (f_maxUrls, f_defaultDelay, ck', f_bufferLength, f_canonLength, f_canonHost, f_canonHostLength, f_canonPath, f_schemePort, f_partLength, nI uc, f_urlChars, nI hc, f_ruleCount, f_ruleChars, a_buffer, a_canon, a_part, a_urlPool, a_urlStart, a_urlLength, a_urlPath, a_urlHost, us', ut', a_names, a_nameLength, a_hostDelay, nx', a_rulePool, a_ruleStart, a_ruleLength, a_ruleHost) → wX_tick_13 post (nI m) f k (nI i) f_maxUrls f_defaultDelay ck f_bufferLength f_canonLength f_canonHost f_canonHostLength f_canonPath f_schemePort f_partLength (nI uc) f_urlChars (nI hc) f_ruleCount f_ruleChars a_buffer a_canon a_part a_urlPool a_urlStart a_urlLength a_urlPath a_urlHost us ut a_names a_nameLength a_hostDelay nx a_rulePool a_ruleStart a_ruleLength a_ruleHost) ∧
    (∀ (post : Int32 → SY → Prop) f, d < f → post r (f_maxUrls, f_defaultDelay, ck', f_bufferLength, nI uc, nI hc, f_ruleCount, f_cLen, f_cHost, f_cHostLen, f_cPq, f_decLen, f_segN, a_buffer, a_urlPool, a_urlStart, a_urlLength, us', a_urlHost, ut', a_names, a_nameLength, a_hostDelay, nx', sent', a_rulePool, a_ruleStart, a_ruleLength, a_ruleHost, a_ycanon, a_dec, a_segS, a_segL) → wY_tick_27 post (nI m) f_maxUrls f_defaultDelay f_bufferLength (nI uc) (nI hc) f_ruleCount f_cLen f_cHost f_cHostLen f_cPq f_decLen f_segN f k (nI i) ck a_buffer a_urlPool a_urlStart a_urlLength us a_urlHost ut a_names a_nameLength a_hostDelay nx sent a_rulePool a_ruleStart a_ruleLength a_ruleHost a_ycanon a_dec a_segS a_segL) := by
  intro d
  induction d with
  | zero =>
    intro i k ck us ut nx sent hi I
    refine ⟨k, ck, us, ut, nx, sent, I, fun post f hf h => ?_, fun post f hf h => ?_⟩
    · cases f with
      | zero => omega
      | succ f => exact pk_le m i (fun _ => h) (fun z => by omega)
    · cases f with
      | zero => omega
      | succ f => exact pk_le m i (fun _ => h) (fun z => by omega)
  | succ d ih =>
    intro i k ck us ut nx sent hi I
    rcases cf_chI (cf_Rd ck nx a_urlHost us uc) nx hc with eb | ⟨b, hb, rb, eb⟩
    · obtain ⟨r, ck', us', ut', nx', sent', I', hX, hY⟩ := ih (i + 1) k (ck + 1) us ut nx sent (by omega) I
      refine ⟨r, ck', us', ut', nx', sent', I', fun post f hf h => ?_, fun post f hf h => ?_⟩
      · cases f with
        | zero => omega
        | succ f =>
          refine pk_le m i (fun z => by omega) (fun _ => cx_chooseHost h8 huc ?_)
          rw [eb]
          exact br_t rfl (nm_e (nm_r (nI_1 i) (hX post f (by omega) h)))
      · cases f with
        | zero => omega
        | succ f =>
          refine pk_le m i (fun z => by omega) (fun _ => cy_t39 h8 huc (fun g => ?_))
          rw [eb]
          exact pk_le hc hc (fun _ => br_t cf_m0 (nm_e (nm_r (nI_1 i) (hY post f (by omega) h)))) (fun z => by omega)
    · obtain ⟨u0, hu0, pu0⟩ := rb.2
      obtain ⟨a, ha0, pa, la⟩ := cf_least (P := fun u => a_urlHost u = nI b ∧ us u = 1) u0 pu0
      have ha : a < uc := by omega
      obtain ⟨r, ck', us', ut', nx', sent', I', hX, hY⟩ := ih (i + 1) (k + 1) (ck + 1) (upd us a 2) (upd ut a ck) (upd nx b (ck + a_hostDelay b)) (upd sent b (sent b + 1)) (by omega) (cf_IHd I ha pa.2 pa.1 hb)
      refine ⟨r, ck', us', ut', nx', sent', I', fun post f hf h => ?_, fun post f hf h => ?_⟩
      · cases f with
        | zero => omega
        | succ f =>
          refine pk_le m i (fun z => by omega) (fun _ => cx_chooseHost h8 huc ?_)
          rw [eb]
          exact br_f (cf_m1 (by omega)) (cx_dispatch huc (by omega) ha pa la (nm_e (nm_e (nm_r (nI_1 i) (hX post f (by omega) h)))))
      · cases f with
        | zero => omega
        | succ f =>
          refine pk_le m i (fun z => by omega) (fun _ => cy_t39 h8 huc (fun g => ?_))
          rw [eb]
          refine pk_le hc hc (fun _ => br_f (nI_pos (by omega)) (cy_firstQueued huc (fun r2 hr2 => ?_))) (fun z => by omega)
          have e : r2 = nI a := cf_FFu (fun _ _ => Iff.rfl) hr2 (Or.inl ⟨a, ha, pa, la, rfl⟩)
          subst e
          have va : vp_in (nI a) 32 := pk_in a 32 (by omega)
          have vb : vp_in (nI b) 8 := pk_in b 8 (by omega)
          have ca : (nI a).toNatClampNeg = a := pk_cl a
          have cb : (nI b).toNatClampNeg = b := pk_cl b
          exact br_f (nI_pos (by omega)) ⟨va, nm_r (e' := upd us a 2) (by rw [ca]) ⟨va, nm_r (e' := upd ut a ck) (by rw [ca]) ⟨vb, vb, nm_r (e' := upd sent b (sent b + 1)) (by rw [cb]) ⟨vb, vb, nm_r (e' := upd nx b (ck + a_hostDelay b)) (by rw [cb]) (nm_e (nm_e (nm_r (nI_1 i) (hY post f (by omega) h))))⟩⟩⟩⟩
end
