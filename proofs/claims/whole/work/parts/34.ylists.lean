/-! the reference: the lists -/
def cf_Pp (rp rs rl c : Nat → Int32) (P n r : Nat) : Prop := (rl r).toNatClampNeg ≤ n - P ∧ cf_EQ rp (rs r).toNatClampNeg c P (rl r).toNatClampNeg
section
variable {f_maxUrls f_defaultDelay f_clock f_bufferLength f_urlCount f_hostCount f_ruleCount f_cLen f_cHost f_cHostLen f_cPq f_decLen f_segN : Int32} {a_buffer a_urlPool a_urlStart a_urlLength a_urlState a_urlHost a_urlTime a_names a_nameLength a_hostDelay a_hostNext a_hostSent a_rulePool a_ruleStart a_ruleLength a_ruleHost a_ycanon a_dec a_segS a_segL : Nat → Int32}
theorem cy_sameAs {post : Int32 → Prop} {uc n u s m : Nat} (e1 : a_urlStart u = nI s) (e2 : a_urlLength u = nI m) (e3 : s + m ≤ 256) (hu : u < 32) (hn : n ≤ 49) (h1 : cf_Dup a_urlPool a_urlStart a_urlLength a_ycanon n u → post 1) (h0 : ¬ cf_Dup a_urlPool a_urlStart a_urlLength a_ycanon n u → post 0) : wpY_sameAsUrl post (f_maxUrls, f_defaultDelay, f_clock, f_bufferLength, f_urlCount, f_hostCount, f_ruleCount, nI n, f_cHost, f_cHostLen, f_cPq, f_decLen, f_segN, a_buffer, a_urlPool, a_urlStart, a_urlLength, a_urlState, a_urlHost, a_urlTime, a_names, a_nameLength, a_hostDelay, a_hostNext, a_hostSent, a_rulePool, a_ruleStart, a_ruleLength, a_ruleHost, a_ycanon, a_dec, a_segS, a_segL) (nI u) := by
  have vi : vp_in (nI u) 32 := pk_in u 32 hu
  have es : (a_urlStart u).toNatClampNeg = s := by rw [e1]; exact pk_cl s
  unfold cf_Dup at h1 h0
  rw [es] at h1 h0
  refine ⟨vi, cf_bi u (by omega) (fun e => ?_) (fun e => h0 (fun w => e w.1))⟩
  have em : m = n := by
    have q := e
    rw [e2, nI_eq (by omega) (by omega)] at q
    exact q
  have d1 : ∀ i, a_urlStart (nI u).toNatClampNeg + nI i = nI (s + i) := fun i => by rw [cf_ix u rfl (by omega) e1, nI_add]
  have cv : ∀ i, i < n → ((a_urlPool (a_urlStart (nI u).toNatClampNeg + nI i).toNatClampNeg = a_ycanon (nI i).toNatClampNeg) = (a_urlPool (s + i) = a_ycanon i)) := by
    intro i hi
    rw [pk_cl (s + i) (d1 i), pk_cl i]
  exact cf_scan0 (fun f i => wY_sameAsUrl_17 post (nI u) f_maxUrls f_defaultDelay f_clock f_bufferLength f_urlCount f_hostCount f_ruleCount (nI n) f_cHost f_cHostLen f_cPq f_decLen f_segN a_buffer a_urlPool a_urlStart a_urlLength a_urlState a_urlHost a_urlTime a_names a_nameLength a_hostDelay a_hostNext a_hostSent a_rulePool a_ruleStart a_ruleLength a_ruleHost a_ycanon a_dec a_segS a_segL f (nI i)) (fun i => ¬ a_urlPool (s + i) = a_ycanon i) n
    (fun f hall => pk_le n n (fun _ => h1 ⟨e, fun i hi => by rw [Nat.zero_add]; exact Classical.not_not.mp (hall i hi)⟩) (fun z => by omega))
    (fun f i hi hP _ => pk_le n i (fun z => by omega) (fun _ => ⟨vi, pk_in (s + i) 256 (by omega) (d1 i), pk_in i 64 (by omega), br_f (by rw [cv i hi]; exact hP) (h0 (fun w => hP (by have q := w.2 i hi; rw [Nat.zero_add] at q; exact q)))⟩))
    (fun f i hi hP W => pk_le n i (fun z => by omega) (fun _ => ⟨vi, pk_in (s + i) 256 (by omega) (d1 i), pk_in i 64 (by omega), br_t (by rw [cv i hi]; exact Classical.not_not.mp hP) (nm_r (nI_1 i) W)⟩))
theorem cy_prefix {post : Int32 → Prop} {n P r s m : Nat} (e1 : a_ruleStart r = nI s) (e2 : a_ruleLength r = nI m) (e3 : s + m ≤ 128) (hr : r < 8) (hn : n ≤ 49) (hP0 : P ≤ n) (h1 : cf_Pp a_rulePool a_ruleStart a_ruleLength a_ycanon P n r → post 1) (h0 : ¬ cf_Pp a_rulePool a_ruleStart a_ruleLength a_ycanon P n r → post 0) : wpY_prefixOfCanon post (f_maxUrls, f_defaultDelay, f_clock, f_bufferLength, f_urlCount, f_hostCount, f_ruleCount, nI n, f_cHost, f_cHostLen, nI P, f_decLen, f_segN, a_buffer, a_urlPool, a_urlStart, a_urlLength, a_urlState, a_urlHost, a_urlTime, a_names, a_nameLength, a_hostDelay, a_hostNext, a_hostSent, a_rulePool, a_ruleStart, a_ruleLength, a_ruleHost, a_ycanon, a_dec, a_segS, a_segL) (nI r) := by
  have vi : vp_in (nI r) 8 := pk_in r 8 hr
  have c1 : (a_ruleStart r).toNatClampNeg = s := by rw [e1]; exact pk_cl s
  have c2 : (a_ruleLength r).toNatClampNeg = m := by rw [e2]; exact pk_cl m
  unfold cf_Pp at h1 h0
  rw [c1, c2] at h1 h0
  have d2 : a_ruleLength (nI r).toNatClampNeg = nI m := cf_ix r rfl (by omega) e2
  have d1 : ∀ i, a_ruleStart (nI r).toNatClampNeg + nI i = nI (s + i) := fun i => by rw [cf_ix r rfl (by omega) e1, nI_add]
  refine ⟨vi, pk_le m (n - P) (fun z => ?_) (fun z => h0 (fun w => by have := w.1; omega)) d2 (pk_sub hP0)⟩
  have cv : ∀ i, i < m → ((a_rulePool (a_ruleStart (nI r).toNatClampNeg + nI i).toNatClampNeg = a_ycanon (nI P + nI i).toNatClampNeg) = (a_rulePool (s + i) = a_ycanon (P + i))) := by
    intro i hi
    rw [pk_cl (s + i) (d1 i), pk_cl (P + i) (nI_add P i)]
  exact cf_scan0 (fun f i => wY_prefixOfCanon_22 post (nI r) f_maxUrls f_defaultDelay f_clock f_bufferLength f_urlCount f_hostCount f_ruleCount (nI n) f_cHost f_cHostLen (nI P) f_decLen f_segN a_buffer a_urlPool a_urlStart a_urlLength a_urlState a_urlHost a_urlTime a_names a_nameLength a_hostDelay a_hostNext a_hostSent a_rulePool a_ruleStart a_ruleLength a_ruleHost a_ycanon a_dec a_segS a_segL f (nI i)) (fun i => ¬ a_rulePool (s + i) = a_ycanon (P + i)) m
    (fun f hall => ⟨vi, pk_le m m (fun _ => h1 ⟨z, fun i hi => Classical.not_not.mp (hall i hi)⟩) (fun z => by omega) d2⟩)
    (fun f i hi hP _ => ⟨vi, pk_le m i (fun z => by omega) (fun _ => ⟨vi, pk_in (s + i) 128 (by omega) (d1 i), pk_in (P + i) 64 (by omega) (nI_add P i), br_f (by rw [cv i hi]; exact hP) (h0 (fun w => hP (w.2 i hi)))⟩) d2⟩)
    (fun f i hi hP W => ⟨vi, pk_le m i (fun z => by omega) (fun _ => ⟨vi, pk_in (s + i) 128 (by omega) (d1 i), pk_in (P + i) 64 (by omega) (nI_add P i), br_t (by rw [cv i hi]; exact Classical.not_not.mp hP) (nm_r (nI_1 i) W)⟩) d2⟩)
theorem cy_fh31 {post J : Int32 → Prop} {h H HL : Nat} (h8 : h < 8) (h16 : HL ≤ 16) (hH : H + HL ≤ 49) (h1 : cf_EQ a_names (h * 16) a_ycanon H HL → post (nI h)) (h0 : ¬ cf_EQ a_names (h * 16) a_ycanon H HL → J (nI (h + 1))) : ∃ f, wY_findHost_31 post J (nI h) f_maxUrls f_defaultDelay f_clock f_bufferLength f_urlCount f_hostCount f_ruleCount f_cLen (nI H) (nI HL) f_cPq f_decLen f_segN a_buffer a_urlPool a_urlStart a_urlLength a_urlState a_urlHost a_urlTime a_names a_nameLength a_hostDelay a_hostNext a_hostSent a_rulePool a_ruleStart a_ruleLength a_ruleHost a_ycanon a_dec a_segS a_segL f 1 0 := by
  have d1 : ∀ i, nI h * 16 + nI i = nI (h * 16 + i) := fun i => (congrArg (fun z => z + nI i) (pk_mul h 16)).trans (nI_add _ _)
  have cv : ∀ i, i < HL → ((a_names (nI h * 16 + nI i).toNatClampNeg = a_ycanon (nI H + nI i).toNatClampNeg) = (a_names (h * 16 + i) = a_ycanon (H + i))) := by
    intro i hi
    rw [pk_cl (h * 16 + i) (d1 i), pk_cl (H + i) (nI_add H i)]
  have key := cf_scan0 (fun f i => wY_findHost_31 post J (nI h) f_maxUrls f_defaultDelay f_clock f_bufferLength f_urlCount f_hostCount f_ruleCount f_cLen (nI H) (nI HL) f_cPq f_decLen f_segN a_buffer a_urlPool a_urlStart a_urlLength a_urlState a_urlHost a_urlTime a_names a_nameLength a_hostDelay a_hostNext a_hostSent a_rulePool a_ruleStart a_ruleLength a_ruleHost a_ycanon a_dec a_segS a_segL (f + 1) 1 (nI i)) (fun i => ¬ a_names (h * 16 + i) = a_ycanon (H + i)) HL
    (fun f hall => br_f (by decide) (pk_le HL HL (fun _ => br_f (by decide) (h1 (fun i hi => Classical.not_not.mp (hall i hi)))) (fun z => by omega)))
    (fun f i hi hP _ => br_f (by decide) (pk_le HL i (fun z => by omega) (fun _ => ⟨pk_in (h * 16 + i) 128 (by omega) (d1 i), pk_in (H + i) 64 (by omega) (nI_add H i), br_f (by rw [cv i hi]; exact hP) (nm_r (nI_1 i) (br_t rfl (br_t rfl (nm_r (nI_1 h) (h0 (fun w => hP (w i hi)))))))⟩)))
    (fun f i hi hP W => br_f (by decide) (pk_le HL i (fun z => by omega) (fun _ => ⟨pk_in (h * 16 + i) 128 (by omega) (d1 i), pk_in (H + i) 64 (by omega) (nI_add H i), br_t (by rw [cv i hi]; exact Classical.not_not.mp hP) (nm_r (nI_1 i) W)⟩)))
  obtain ⟨f, W⟩ := key
  exact ⟨f + 1, W⟩
theorem cy_findHost {post : Int32 → Prop} {hc H HL : Nat} (h8 : hc ≤ 8) (h16 : HL ≤ 16) (hH : H + HL ≤ 49) (h : ∀ r, cf_FF (cf_Ph a_names a_nameLength a_ycanon H HL) hc r → post r) : wpY_findHost post (f_maxUrls, f_defaultDelay, f_clock, f_bufferLength, f_urlCount, nI hc, f_ruleCount, f_cLen, nI H, nI HL, f_cPq, f_decLen, f_segN, a_buffer, a_urlPool, a_urlStart, a_urlLength, a_urlState, a_urlHost, a_urlTime, a_names, a_nameLength, a_hostDelay, a_hostNext, a_hostSent, a_rulePool, a_ruleStart, a_ruleLength, a_ruleHost, a_ycanon, a_dec, a_segS, a_segL) := by
  refine cf_scan0 (fun f i => wY_findHost_2 post f_maxUrls f_defaultDelay f_clock f_bufferLength f_urlCount (nI hc) f_ruleCount f_cLen (nI H) (nI HL) f_cPq f_decLen f_segN a_buffer a_urlPool a_urlStart a_urlLength a_urlState a_urlHost a_urlTime a_names a_nameLength a_hostDelay a_hostNext a_hostSent a_rulePool a_ruleStart a_ruleLength a_ruleHost a_ycanon a_dec a_segS a_segL f (nI i)) (cf_Ph a_names a_nameLength a_ycanon H HL) hc
    (fun f hall => pk_le hc hc (fun _ => h _ (Or.inr ⟨hall, rfl⟩)) (fun z => by omega)) (fun f i hi hP hl => ?_) (fun f i hi hP W => ?_)
  · exact pk_le hc i (fun z => by omega) (fun _ => ⟨pk_in i 8 (by omega), br_t (cf_ix i rfl (by omega) hP.1) (cy_fh31 (by omega) h16 hH (fun _ => h _ (Or.inl ⟨i, hi, hP, hl, rfl⟩)) (fun w => absurd hP.2 w))⟩)
  · exact pk_le hc i (fun z => by omega) (fun _ => ⟨pk_in i 8 (by omega), cf_bi i (by omega) (fun e => cy_fh31 (by omega) h16 hH (fun w => absurd ⟨e, w⟩ hP) (fun _ => W)) (fun e => ⟨1, br_t rfl (br_t rfl (nm_r (nI_1 i) W))⟩)⟩)
theorem cy_addHost {post : Int32 → SY → Prop} {hc H HL : Nat} (h8 : hc < 8) (h16 : HL ≤ 16) (hH : H + HL ≤ 49) (h : post (nI hc) (f_maxUrls, f_defaultDelay, f_clock, f_bufferLength, f_urlCount, nI (hc + 1), f_ruleCount, f_cLen, nI H, nI HL, f_cPq, f_decLen, f_segN, a_buffer, a_urlPool, a_urlStart, a_urlLength, a_urlState, a_urlHost, a_urlTime, cf_cp a_names (hc * 16) a_ycanon H HL, upd a_nameLength hc (nI HL), upd a_hostDelay hc f_defaultDelay, upd a_hostNext hc 0, upd a_hostSent hc 0, a_rulePool, a_ruleStart, a_ruleLength, a_ruleHost, a_ycanon, a_dec, a_segS, a_segL)) : wpY_addHost post (f_maxUrls, f_defaultDelay, f_clock, f_bufferLength, f_urlCount, nI hc, f_ruleCount, f_cLen, nI H, nI HL, f_cPq, f_decLen, f_segN, a_buffer, a_urlPool, a_urlStart, a_urlLength, a_urlState, a_urlHost, a_urlTime, a_names, a_nameLength, a_hostDelay, a_hostNext, a_hostSent, a_rulePool, a_ruleStart, a_ruleLength, a_ruleHost, a_ycanon, a_dec, a_segS, a_segL) := by
  have vi : vp_in (nI hc) 8 := pk_in hc 8 h8
  have ec : (nI hc).toNatClampNeg = hc := pk_cl hc
  have d1 : ∀ i, nI hc * 16 + nI i = nI (hc * 16 + i) := fun i => (congrArg (fun z => z + nI i) (pk_mul hc 16)).trans (nI_add _ _)
  exact cf_fold0 (fun f i s => wY_addHost_7 post (nI hc) f_maxUrls f_defaultDelay f_clock f_bufferLength f_urlCount (nI hc) f_ruleCount f_cLen (nI H) (nI HL) f_cPq f_decLen f_segN f (nI i) a_buffer a_urlPool a_urlStart a_urlLength a_urlState a_urlHost a_urlTime s a_nameLength a_hostDelay a_hostNext a_hostSent a_rulePool a_ruleStart a_ruleLength a_ruleHost a_ycanon a_dec a_segS a_segL) (fun i => cf_cp a_names (hc * 16) a_ycanon H i) HL
    (fun f => pk_le HL HL (fun _ => ⟨vi, nm_r (e' := upd a_nameLength hc (nI HL)) (by rw [ec]) ⟨vi, nm_r (e' := upd a_hostDelay hc f_defaultDelay) (by rw [ec]) ⟨vi, nm_r (e' := upd a_hostNext hc 0) (by rw [ec]) ⟨vi, nm_r (e' := upd a_hostSent hc 0) (by rw [ec]) (nm_r (nI_1 hc) h)⟩⟩⟩⟩) (fun z => by omega))
    (fun f i hi W => pk_le HL i (fun z => by omega) (fun _ => pk_le 16 i (fun z => by omega) (fun _ => ⟨pk_in (H + i) 64 (by omega) (nI_add H i), pk_in (hc * 16 + i) 128 (by omega) (d1 i), nm_r (e' := cf_cp a_names (hc * 16) a_ycanon H (i + 1)) (by rw [pk_cl (hc * 16 + i) (d1 i), pk_cl (H + i) (nI_add H i)]; rfl) (nm_r (nI_1 i) W)⟩)))
theorem cy_urlChars {post : Int32 → Prop} {uc : Nat} (huc : uc ≤ 32) (h : post (cf_sm a_urlLength uc)) : wpY_urlChars post (f_maxUrls, f_defaultDelay, f_clock, f_bufferLength, nI uc, f_hostCount, f_ruleCount, f_cLen, f_cHost, f_cHostLen, f_cPq, f_decLen, f_segN, a_buffer, a_urlPool, a_urlStart, a_urlLength, a_urlState, a_urlHost, a_urlTime, a_names, a_nameLength, a_hostDelay, a_hostNext, a_hostSent, a_rulePool, a_ruleStart, a_ruleLength, a_ruleHost, a_ycanon, a_dec, a_segS, a_segL) := by
  exact cf_fold0 (fun f i s => wY_urlChars_4 post f_maxUrls f_defaultDelay f_clock f_bufferLength (nI uc) f_hostCount f_ruleCount f_cLen f_cHost f_cHostLen f_cPq f_decLen f_segN a_buffer a_urlPool a_urlStart a_urlLength a_urlState a_urlHost a_urlTime a_names a_nameLength a_hostDelay a_hostNext a_hostSent a_rulePool a_ruleStart a_ruleLength a_ruleHost a_ycanon a_dec a_segS a_segL f s (nI i)) (fun i => cf_sm a_urlLength i) uc (fun f => pk_le uc uc (fun _ => h) (fun z => by omega)) (fun f i hi W => pk_le uc i (fun z => by omega) (fun _ => ⟨pk_in i 32 (by omega), nm_r (e' := cf_sm a_urlLength (i + 1)) (by rw [pk_cl i]; rfl) (nm_r (nI_1 i) W)⟩))
theorem cy_ruleChars {post : Int32 → Prop} {rc : Nat} (hrc : rc ≤ 8) (h : post (cf_sm a_ruleLength rc)) : wpY_ruleChars post (f_maxUrls, f_defaultDelay, f_clock, f_bufferLength, f_urlCount, f_hostCount, nI rc, f_cLen, f_cHost, f_cHostLen, f_cPq, f_decLen, f_segN, a_buffer, a_urlPool, a_urlStart, a_urlLength, a_urlState, a_urlHost, a_urlTime, a_names, a_nameLength, a_hostDelay, a_hostNext, a_hostSent, a_rulePool, a_ruleStart, a_ruleLength, a_ruleHost, a_ycanon, a_dec, a_segS, a_segL) := by
  exact cf_fold0 (fun f i s => wY_ruleChars_4 post f_maxUrls f_defaultDelay f_clock f_bufferLength f_urlCount f_hostCount (nI rc) f_cLen f_cHost f_cHostLen f_cPq f_decLen f_segN a_buffer a_urlPool a_urlStart a_urlLength a_urlState a_urlHost a_urlTime a_names a_nameLength a_hostDelay a_hostNext a_hostSent a_rulePool a_ruleStart a_ruleLength a_ruleHost a_ycanon a_dec a_segS a_segL f s (nI i)) (fun i => cf_sm a_ruleLength i) rc (fun f => pk_le rc rc (fun _ => h) (fun z => by omega)) (fun f i hi W => pk_le rc i (fun z => by omega) (fun _ => ⟨pk_in i 8 (by omega), nm_r (e' := cf_sm a_ruleLength (i + 1)) (by rw [pk_cl i]; rfl) (nm_r (nI_1 i) W)⟩))
theorem cy_m80 {post : Int32 → Prop} {a_pt : Nat → Int32} {u r s n p rs0 rl0 : Nat} (hu : u < 32) (hr : r < 8) (e1 : a_urlStart u = nI s) (e2 : a_urlLength u = nI n) (e3 : a_pt u = nI p) (hp : p ≤ n) (hs : s + n ≤ 256) (e4 : a_ruleStart r = nI rs0) (e5 : a_ruleLength r = nI rl0) (h128 : rs0 + rl0 ≤ 128) (eh : a_urlHost u = a_ruleHost r) (h1 : cf_M a_urlPool a_urlStart a_urlLength a_pt a_urlHost a_rulePool a_ruleStart a_ruleLength a_ruleHost r u → post 1) (h0 : ¬ cf_M a_urlPool a_urlStart a_urlLength a_pt a_urlHost a_rulePool a_ruleStart a_ruleLength a_ruleHost r u → post 0) : wY_urlMatchesRule_80 post (nI u) (nI r) (nI s) (nI p) f_maxUrls f_defaultDelay f_clock f_bufferLength f_urlCount f_hostCount f_ruleCount f_cLen f_cHost f_cHostLen f_cPq f_decLen f_segN a_buffer a_urlPool a_urlStart a_urlLength a_urlState a_urlHost a_urlTime a_names a_nameLength a_hostDelay a_hostNext a_hostSent a_rulePool a_ruleStart a_ruleLength a_ruleHost a_ycanon a_dec a_segS a_segL := by
  have vi : vp_in (nI u) 32 := pk_in u 32 hu
  have vr : vp_in (nI r) 8 := pk_in r 8 hr
  have d2 : a_urlLength (nI u).toNatClampNeg = nI n := cf_ix u rfl (by omega) e2
  have d5 : a_ruleLength (nI r).toNatClampNeg = nI rl0 := cf_ix r rfl (by omega) e5
  have c1 : (a_urlStart u).toNatClampNeg = s := by rw [e1]; exact pk_cl s
  have c2 : (a_urlLength u).toNatClampNeg = n := by rw [e2]; exact pk_cl n
  have c3 : (a_pt u).toNatClampNeg = p := by rw [e3]; exact pk_cl p
  have c4 : (a_ruleStart r).toNatClampNeg = rs0 := by rw [e4]; exact pk_cl rs0
  have c5 : (a_ruleLength r).toNatClampNeg = rl0 := by rw [e5]; exact pk_cl rl0
  unfold cf_M at h1 h0
  rw [c1, c2, c3, c4, c5] at h1 h0
  have d4 : ∀ i, a_ruleStart (nI r).toNatClampNeg + nI i = nI (rs0 + i) := fun i => by rw [cf_ix r rfl (by omega) e4, nI_add]
  have d6 : ∀ i, (nI s + nI p) + nI i = nI (s + p + i) := fun i => by rw [nI_add, nI_add]
  have cv : ∀ i, i < rl0 → rl0 ≤ n - p → ((a_rulePool (a_ruleStart (nI r).toNatClampNeg + nI i).toNatClampNeg = a_urlPool ((nI s + nI p) + nI i).toNatClampNeg) = (a_rulePool (rs0 + i) = a_urlPool (s + p + i))) := by
    intro i hi hq
    rw [pk_cl (rs0 + i) (d4 i), pk_cl (s + p + i) (d6 i)]
  have es : a_urlLength (nI u).toNatClampNeg - nI p = nI (n - p) := by rw [d2, pk_sub hp]
  refine br_f (nI_pos (by omega)) ⟨vr, vi, pk_le rl0 (n - p) (fun z => ?_) (fun z => h0 (fun w => by have := w.2.1; omega)) d5 es⟩
  exact cf_scan0 (fun f i => wY_urlMatchesRule_108 post (nI r) (nI s) (nI p) f_maxUrls f_defaultDelay f_clock f_bufferLength f_urlCount f_hostCount f_ruleCount f_cLen f_cHost f_cHostLen f_cPq f_decLen f_segN a_buffer a_urlPool a_urlStart a_urlLength a_urlState a_urlHost a_urlTime a_names a_nameLength a_hostDelay a_hostNext a_hostSent a_rulePool a_ruleStart a_ruleLength a_ruleHost a_ycanon a_dec a_segS a_segL f (nI i)) (fun i => ¬ a_rulePool (rs0 + i) = a_urlPool (s + p + i)) rl0
    (fun f hall => ⟨vr, pk_le rl0 rl0 (fun _ => h1 ⟨eh, z, fun i hi => Classical.not_not.mp (hall i hi)⟩) (fun z => by omega) d5⟩)
    (fun f i hi hP _ => ⟨vr, pk_le rl0 i (fun z => by omega) (fun _ => ⟨vr, pk_in (rs0 + i) 128 (by omega) (d4 i), pk_in (s + p + i) 256 (by omega) (d6 i), br_f (by rw [cv i hi z]; exact hP) (h0 (fun w => hP (w.2.2 i hi)))⟩) d5⟩)
    (fun f i hi hP W => ⟨vr, pk_le rl0 i (fun z => by omega) (fun _ => ⟨vr, pk_in (rs0 + i) 128 (by omega) (d4 i), pk_in (s + p + i) 256 (by omega) (d6 i), br_t (by rw [cv i hi z]; exact Classical.not_not.mp hP) (nm_r (nI_1 i) W)⟩) d5⟩)
theorem cy_m33 {post : Int32 → Prop} {u r s n p a : Nat} {x5 : Int32} (hu : u < 32) (e2 : a_urlLength u = nI n) (hs : s + n ≤ 256) (ha : a + 2 ≤ p) (hp : p < n) (q1 : a_urlPool (s + a) = 47) (q2 : a_urlPool (s + (a + 1)) = 47) (q3 : a_urlPool (s + p) = 47) (q4 : ∀ j, j < p → j ≠ a → j ≠ a + 1 → a_urlPool (s + j) ≠ 47) (h : wY_urlMatchesRule_80 post (nI u) (nI r) (nI s) (nI p) f_maxUrls f_defaultDelay f_clock f_bufferLength f_urlCount f_hostCount f_ruleCount f_cLen f_cHost f_cHostLen f_cPq f_decLen f_segN a_buffer a_urlPool a_urlStart a_urlLength a_urlState a_urlHost a_urlTime a_names a_nameLength a_hostDelay a_hostNext a_hostSent a_rulePool a_ruleStart a_ruleLength a_ruleHost a_ycanon a_dec a_segS a_segL) : ∀ d i f, i + d = p → d < f → wY_urlMatchesRule_33 post (nI u) (nI r) (nI s) x5 f_maxUrls f_defaultDelay f_clock f_bufferLength f_urlCount f_hostCount f_ruleCount f_cLen f_cHost f_cHostLen f_cPq f_decLen f_segN a_buffer a_urlPool a_urlStart a_urlLength a_urlState a_urlHost a_urlTime a_names a_nameLength a_hostDelay a_hostNext a_hostSent a_rulePool a_ruleStart a_ruleLength a_ruleHost a_ycanon a_dec a_segS a_segL f (nI (if i ≤ a then 0 else if i ≤ a + 1 then 1 else 2)) (nI i) := by
  have vi : vp_in (nI u) 32 := pk_in u 32 hu
  have d2 : a_urlLength (nI u).toNatClampNeg = nI n := cf_ix u rfl (by omega) e2
  intro d
  induction d with
  | zero =>
    intro i f hi hf
    have e : i = p := by omega
    subst e
    cases f with
    | zero => omega
    | succ f =>
      rw [if_neg (by omega), if_neg (by omega)]
      exact ⟨vi, pk_le n i (fun z => by omega) (fun _ => ⟨pk_in (s + i) 256 (by omega) (nI_add s i), br_t (cf_ix (s + i) (nI_add s i) (by omega) q3) (nm_r (e' := 3) (by decide) (br_t rfl h))⟩) d2⟩
  | succ d ih =>
    intro i f hi hf
    cases f with
    | zero => omega
    | succ f =>
      have W := ih (i + 1) f (by omega) (by omega)
      by_cases c1 : i = a
      · subst c1
        rw [if_neg (by omega), if_pos (by omega)] at W
        rw [if_pos (by omega)]
        exact ⟨vi, pk_le n i (fun z => by omega) (fun _ => ⟨pk_in (s + i) 256 (by omega) (nI_add s i), br_t (cf_ix (s + i) (nI_add s i) (by omega) q1) (nm_r (e' := 1) (by decide) (br_f (by decide) (nm_r (nI_1 i) W)))⟩) d2⟩
      · by_cases c2 : i = a + 1
        · subst c2
          rw [if_neg (by omega), if_neg (by omega)] at W
          rw [if_neg (by omega), if_pos (by omega)]
          exact ⟨vi, pk_le n (a + 1) (fun z => by omega) (fun _ => ⟨pk_in (s + (a + 1)) 256 (by omega) (nI_add s (a + 1)), br_t (cf_ix (s + (a + 1)) (nI_add s (a + 1)) (by omega) q2) (nm_r (e' := 2) (by decide) (br_f (by decide) (nm_r (nI_1 (a + 1)) W)))⟩) d2⟩
        · have eif : (if i + 1 ≤ a then 0 else if i + 1 ≤ a + 1 then 1 else 2) = (if i ≤ a then 0 else if i ≤ a + 1 then 1 else 2) := by
            rcases Nat.lt_or_ge i a with z | z
            · rw [if_pos (by omega), if_pos (by omega)]
            · rw [if_neg (by omega), if_neg (by omega), if_neg (by omega), if_neg (by omega)]
          rw [eif] at W
          exact ⟨vi, pk_le n i (fun z => by omega) (fun _ => ⟨pk_in (s + i) 256 (by omega) (nI_add s i), cf_bi (s + i) (by omega) (fun w => absurd w (q4 i (by omega) c1 c2)) (fun _ => nm_r (nI_1 i) W) (nI_add s i)⟩) d2⟩
theorem cy_matches {post : Int32 → Prop} {a_pt : Nat → Int32} {u r s n p a rs0 rl0 : Nat} (hu : u < 32) (hr : r < 8) (e1 : a_urlStart u = nI s) (e2 : a_urlLength u = nI n) (e3 : a_pt u = nI p) (hs : s + n ≤ 256) (ha : a + 2 ≤ p) (hp : p < n) (q1 : a_urlPool (s + a) = 47) (q2 : a_urlPool (s + (a + 1)) = 47) (q3 : a_urlPool (s + p) = 47) (q4 : ∀ j, j < p → j ≠ a → j ≠ a + 1 → a_urlPool (s + j) ≠ 47) (e4 : a_ruleStart r = nI rs0) (e5 : a_ruleLength r = nI rl0) (h128 : rs0 + rl0 ≤ 128) (h1 : cf_M a_urlPool a_urlStart a_urlLength a_pt a_urlHost a_rulePool a_ruleStart a_ruleLength a_ruleHost r u → post 1) (h0 : ¬ cf_M a_urlPool a_urlStart a_urlLength a_pt a_urlHost a_rulePool a_ruleStart a_ruleLength a_ruleHost r u → post 0) : wpY_urlMatchesRule post (f_maxUrls, f_defaultDelay, f_clock, f_bufferLength, f_urlCount, f_hostCount, f_ruleCount, f_cLen, f_cHost, f_cHostLen, f_cPq, f_decLen, f_segN, a_buffer, a_urlPool, a_urlStart, a_urlLength, a_urlState, a_urlHost, a_urlTime, a_names, a_nameLength, a_hostDelay, a_hostNext, a_hostSent, a_rulePool, a_ruleStart, a_ruleLength, a_ruleHost, a_ycanon, a_dec, a_segS, a_segL) (nI u) (nI r) := by
  have vi : vp_in (nI u) 32 := pk_in u 32 hu
  have vr : vp_in (nI r) 8 := pk_in r 8 hr
  have cu : (nI u).toNatClampNeg = u := pk_cl u
  have cr : (nI r).toNatClampNeg = r := pk_cl r
  have eq0 : (a_urlHost (nI u).toNatClampNeg = a_ruleHost (nI r).toNatClampNeg) = (a_urlHost u = a_ruleHost r) := by rw [cu, cr]
  refine ⟨vi, vr, ?_⟩
  rw [eq0]
  refine br_c (fun e => ⟨vi, nm_r (cf_ix u rfl (by omega) e1) ⟨p + 1, ?_⟩⟩) (fun e => h0 (fun w => e w.1))
  have g : wY_urlMatchesRule_33 post (nI u) (nI r) (nI s) (-1) f_maxUrls f_defaultDelay f_clock f_bufferLength f_urlCount f_hostCount f_ruleCount f_cLen f_cHost f_cHostLen f_cPq f_decLen f_segN a_buffer a_urlPool a_urlStart a_urlLength a_urlState a_urlHost a_urlTime a_names a_nameLength a_hostDelay a_hostNext a_hostSent a_rulePool a_ruleStart a_ruleLength a_ruleHost a_ycanon a_dec a_segS a_segL (p + 1) (nI (if 0 ≤ a then 0 else if 0 ≤ a + 1 then 1 else 2)) (nI 0) := cy_m33 hu e2 hs ha hp q1 q2 q3 q4 (cy_m80 (a_pt := a_pt) hu hr e1 e2 e3 (by omega) hs e4 e5 h128 e h1 h0) p 0 (p + 1) (by omega) (by omega)
  rw [if_pos (Nat.zero_le _)] at g
  exact g
end
