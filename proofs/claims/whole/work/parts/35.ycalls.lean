/-! the reference: submit, disallow, setDelay (made by mk35.py) -/
section
variable {f_maxUrls f_defaultDelay f_clock f_bufferLength f_urlCount f_hostCount f_ruleCount f_cLen f_cHost f_cHostLen f_cPq f_decLen f_segN : Int32} {a_buffer a_urlPool a_urlStart a_urlLength a_urlState a_urlHost a_urlTime a_names a_nameLength a_hostDelay a_hostNext a_hostSent a_rulePool a_ruleStart a_ruleLength a_ruleHost a_ycanon a_dec a_segS a_segL : Nat → Int32}
variable {t : Nat → Nat} {L : Nat}
theorem cy_s141 {post : Int32 → SY → Prop} {uc uch n h : Nat} (hu : uc < 32) (hn : n ≤ 49) (h256 : uch + n ≤ 256) (g : post (nI uc) (f_maxUrls, f_defaultDelay, f_clock, f_bufferLength, nI (uc + 1), f_hostCount, f_ruleCount, nI n, f_cHost, f_cHostLen, f_cPq, f_decLen, f_segN, a_buffer, cf_cp a_urlPool uch a_ycanon 0 n, upd a_urlStart uc (nI uch), upd a_urlLength uc (nI n), upd a_urlState uc 1, upd a_urlHost uc (nI h), upd a_urlTime uc (-1), a_names, a_nameLength, a_hostDelay, a_hostNext, a_hostSent, a_rulePool, a_ruleStart, a_ruleLength, a_ruleHost, a_ycanon, a_dec, a_segS, a_segL)) : wY_submit_141 post (nI h) (nI uch) f_maxUrls f_defaultDelay f_clock f_bufferLength (nI uc) f_hostCount f_ruleCount (nI n) f_cHost f_cHostLen f_cPq f_decLen f_segN a_buffer a_urlPool a_urlStart a_urlLength a_urlState a_urlHost a_urlTime a_names a_nameLength a_hostDelay a_hostNext a_hostSent a_rulePool a_ruleStart a_ruleLength a_ruleHost a_ycanon a_dec a_segS a_segL := by
  have vi : vp_in (nI uc) 32 := pk_in uc 32 hu
  have ec : (nI uc).toNatClampNeg = uc := pk_cl uc
  refine ⟨vi, nm_r (e' := upd a_urlStart uc (nI uch)) (by rw [ec]) ⟨vi, nm_r (e' := upd a_urlLength uc (nI n)) (by rw [ec]) ?_⟩⟩
  exact cf_fold0 (fun f i s => wY_submit_169 post (nI h) (nI uch) (nI uc) f_maxUrls f_defaultDelay f_clock f_bufferLength (nI uc) f_hostCount f_ruleCount (nI n) f_cHost f_cHostLen f_cPq f_decLen f_segN f (nI i) a_buffer s (upd a_urlStart uc (nI uch)) (upd a_urlLength uc (nI n)) a_urlState a_urlHost a_urlTime a_names a_nameLength a_hostDelay a_hostNext a_hostSent a_rulePool a_ruleStart a_ruleLength a_ruleHost a_ycanon a_dec a_segS a_segL) (fun i => cf_cp a_urlPool uch a_ycanon 0 i) n
    (fun f => pk_le n n (fun _ => ⟨vi, nm_r (e' := upd a_urlState uc 1) (by rw [ec]) ⟨vi, nm_r (e' := upd a_urlHost uc (nI h)) (by rw [ec]) ⟨vi, nm_r (e' := upd a_urlTime uc (-1)) (by rw [ec]) (nm_r (nI_1 uc) g)⟩⟩⟩) (fun z => by omega))
    (fun f i hi W => pk_le n i (fun z => by omega) (fun _ => ⟨pk_in i 64 (by omega), pk_in (uch + i) 256 (by omega) (nI_add uch i), nm_r (e' := cf_cp a_urlPool uch a_ycanon 0 (i + 1)) (by rw [pk_cl (uch + i) (nI_add uch i), pk_cl i]; show _ = upd _ _ (a_ycanon (0 + i)); rw [Nat.zero_add]) (nm_r (nI_1 i) W)⟩))
theorem cy_submit {post : Int32 → SY → Prop} {mu uc uch hc rc : Nat} (hL : L ≤ 48) (hb : ∀ j, a_buffer j = nI (t j)) (ht : ∀ j, t j ≤ 126) (h32 : mu ≤ 32) (hum : uc ≤ mu) (hch : uch ≤ 256) (hsum : cf_sm a_urlLength uc = nI uch) (h8 : hc ≤ 8) (hr8 : rc ≤ 8) (hU : ∀ u, u < uc → ∃ s m, a_urlStart u = nI s ∧ a_urlLength u = nI m ∧ s + m ≤ 256) (hR : ∀ r, r < rc → ∃ s m, a_ruleStart r = nI s ∧ a_ruleLength r = nI m ∧ s + m ≤ 128)
    (hN : (∀ c he p pE qE po D1 D2, ¬ cf_PS t L c he p pE qE po D1 D2) → ∀ a1 a2 a3 a4 n1 n2 n3 n4 n5 n6, post (-1) (nI mu, f_defaultDelay, f_clock, 0, nI uc, nI hc, nI rc, n1, n2, n3, n4, n5, n6, a_buffer, a_urlPool, a_urlStart, a_urlLength, a_urlState, a_urlHost, a_urlTime, a_names, a_nameLength, a_hostDelay, a_hostNext, a_hostSent, a_rulePool, a_ruleStart, a_ruleLength, a_ruleHost, a1, a2, a3, a4))
    (hRf : ∀ c he p pE qE po D1 D2 n H HL P, cf_PS t L c he p pE qE po D1 D2 → n = (cf_out t he po D1 D2).length → H = c + 3 → HL = he - (c + 3) → P = he + po.length → ∀ a1, cf_K a1 n (cf_out t he po D1 D2) → ∀ r, cf_Rf (∃ u, u < uc ∧ cf_Dup a_urlPool a_urlStart a_urlLength a1 n u) (cf_FF (cf_Ph a_names a_nameLength a1 H HL) hc) (fun x => ∃ r, r < rc ∧ cf_Pr a_rulePool a_ruleStart a_ruleLength a_ruleHost a1 P n x r) (-3) (mu ≤ uc ∨ 256 < uch + n) hc r → ∀ a2 a3 a4 n5 n6, post r (nI mu, f_defaultDelay, f_clock, 0, nI uc, nI hc, nI rc, nI n, nI H, nI HL, nI P, n5, n6, a_buffer, a_urlPool, a_urlStart, a_urlLength, a_urlState, a_urlHost, a_urlTime, a_names, a_nameLength, a_hostDelay, a_hostNext, a_hostSent, a_rulePool, a_ruleStart, a_ruleLength, a_ruleHost, a1, a2, a3, a4))
    (hA : ∀ c he p pE qE po D1 D2 n H HL P, cf_PS t L c he p pE qE po D1 D2 → n = (cf_out t he po D1 D2).length → H = c + 3 → HL = he - (c + 3) → P = he + po.length → ∀ a1, cf_K a1 n (cf_out t he po D1 D2) → ∀ x, cf_Ac (∃ u, u < uc ∧ cf_Dup a_urlPool a_urlStart a_urlLength a1 n u) (cf_FF (cf_Ph a_names a_nameLength a1 H HL) hc) (fun x => ∃ r, r < rc ∧ cf_Pr a_rulePool a_ruleStart a_ruleLength a_ruleHost a1 P n x r) (mu ≤ uc ∨ 256 < uch + n) hc x →
      (∀ h, h < hc → x = nI h → ∀ a2 a3 a4 n5 n6, post (nI uc) (nI mu, f_defaultDelay, f_clock, 0, nI (uc + 1), nI hc, nI rc, nI n, nI H, nI HL, nI P, n5, n6, a_buffer, cf_cp a_urlPool uch a1 0 n, upd a_urlStart uc (nI uch), upd a_urlLength uc (nI n), upd a_urlState uc 1, upd a_urlHost uc (nI h), upd a_urlTime uc (-1), a_names, a_nameLength, a_hostDelay, a_hostNext, a_hostSent, a_rulePool, a_ruleStart, a_ruleLength, a_ruleHost, a1, a2, a3, a4)) ∧
      (x = -1 → ∀ a2 a3 a4 n5 n6, post (nI uc) (nI mu, f_defaultDelay, f_clock, 0, nI (uc + 1), nI (hc + 1), nI rc, nI n, nI H, nI HL, nI P, n5, n6, a_buffer, cf_cp a_urlPool uch a1 0 n, upd a_urlStart uc (nI uch), upd a_urlLength uc (nI n), upd a_urlState uc 1, upd a_urlHost uc (nI hc), upd a_urlTime uc (-1), cf_cp a_names (hc * 16) a1 H HL, upd a_nameLength hc (nI HL), upd a_hostDelay hc f_defaultDelay, upd a_hostNext hc 0, upd a_hostSent hc 0, a_rulePool, a_ruleStart, a_ruleLength, a_ruleHost, a1, a2, a3, a4))) :
    wpY_submit post (nI mu, f_defaultDelay, f_clock, nI L, nI uc, nI hc, nI rc, f_cLen, f_cHost, f_cHostLen, f_cPq, f_decLen, f_segN, a_buffer, a_urlPool, a_urlStart, a_urlLength, a_urlState, a_urlHost, a_urlTime, a_names, a_nameLength, a_hostDelay, a_hostNext, a_hostSent, a_rulePool, a_ruleStart, a_ruleLength, a_ruleHost, a_ycanon, a_dec, a_segS, a_segL) := by
  unfold wpY_submit
  dsimp only
  refine cy_parse hL hb ht (fun h a1 a2 a3 a4 n1 n2 n3 n4 n5 n6 => br_t rfl (hN h _ _ _ _ _ _ _ _ _ _)) (fun c he p pE qE po D1 D2 ps a1 a2 a3 a4 n5 n6 hK => br_f (by decide) ?_)
  have bo := cf_outB ht hL ps
  have ol := cf_outL (t := t) (he := he) (po := po) (D1 := D1) (D2 := D2)
  have hRf' := hRf c he p pE qE po D1 D2 _ _ _ _ ps rfl rfl rfl rfl a1 hK
  have hA' := hA c he p pE qE po D1 D2 _ _ _ _ ps rfl rfl rfl rfl a1 hK
  have hpn : he + po.length ≤ (cf_out t he po D1 D2).length := by omega
  have hhl : he - (c + 3) ≤ 16 := by omega
  have hhn : c + 3 + (he - (c + 3)) ≤ 49 := by omega
  have hn49 : (cf_out t he po D1 D2).length ≤ 49 := by omega
  generalize (cf_out t he po D1 D2).length = n at *
  generalize he + po.length = P at *
  generalize c + 3 = H at *
  generalize he - H = HL at *
  refine cf_scan0 (fun f i => wY_submit_18 post (nI mu) f_defaultDelay f_clock 0 (nI uc) (nI hc) (nI rc) (nI n) (nI H) (nI HL) (nI P) n5 n6 a_buffer a_urlPool a_urlStart a_urlLength a_urlState a_urlHost a_urlTime a_names a_nameLength a_hostDelay a_hostNext a_hostSent a_rulePool a_ruleStart a_ruleLength a_ruleHost a1 a2 a3 a4 f (nI i)) (fun u => cf_Dup a_urlPool a_urlStart a_urlLength a1 n u) uc (fun f hall => ?_) (fun f i hi hP _ => ?_) (fun f i hi hP W => ?_)
  · have nd : ¬ (∃ u, u < uc ∧ cf_Dup a_urlPool a_urlStart a_urlLength a1 n u) := fun w => by
      obtain ⟨u, hu, w⟩ := w
      exact hall u hu w
    refine pk_le uc uc (fun _ => cy_findHost h8 hhl hhn (fun x fx => ?_)) (fun z => by omega)
    refine cf_scan0 (fun f i => wY_submit_50 post x (nI mu) f_defaultDelay f_clock 0 (nI uc) (nI hc) (nI rc) (nI n) (nI H) (nI HL) (nI P) n5 n6 a_buffer a_urlPool a_urlStart a_urlLength a_urlState a_urlHost a_urlTime a_names a_nameLength a_hostDelay a_hostNext a_hostSent a_rulePool a_ruleStart a_ruleLength a_ruleHost a1 a2 a3 a4 f (nI i)) (fun r => cf_Pr a_rulePool a_ruleStart a_ruleLength a_ruleHost a1 P n x r) rc (fun f hall2 => ?_) (fun f i hi hP _ => ?_) (fun f i hi hP W => ?_)
    · have nq : ¬ (∃ r, r < rc ∧ cf_Pr a_rulePool a_ruleStart a_ruleLength a_ruleHost a1 P n x r) := fun w => by
        obtain ⟨r, hr, w⟩ := w
        exact hall2 r hr w
      refine pk_le rc rc (fun _ => cy_urlChars (by omega) ?_) (fun z => by omega)
      have es : cf_sm a_urlLength uc + nI n = nI (uch + n) := by rw [hsum, nI_add]
      refine pk_le mu uc (fun z => hRf' _ (Or.inr ⟨nd, x, fx, Or.inr ⟨nq, Or.inl ⟨Or.inl z, rfl⟩⟩⟩) _ _ _ _ _) (fun z => pk_le (uch + n) 256 (fun z2 => ?_) (fun z2 => hRf' _ (Or.inr ⟨nd, x, fx, Or.inr ⟨nq, Or.inl ⟨Or.inr z2, rfl⟩⟩⟩) _ _ _ _ _) es)
      have nf : ¬ (mu ≤ uc ∨ 256 < uch + n) := by omega
      rw [hsum]
      have fx2 := fx
      rcases fx with ⟨h, hh, -, -, rfl⟩ | ⟨-, rfl⟩
      · have g := (hA' _ ⟨nd, fx2, nq, nf, fun w => absurd w (cf_m1 (by omega))⟩).1 h hh rfl
        exact br_t (nI_pos' (by omega)) (br_t (nI_pos' (by omega)) (cy_s141 (by omega) (by omega) (by omega) (g _ _ _ _ _)))
      · rcases Nat.lt_or_ge hc 8 with y | y
        · have g := (hA' _ ⟨nd, fx2, nq, nf, fun _ => y⟩).2 rfl
          exact br_f (by decide) (pk_lt hc 8 (fun _ => br_f (by decide) (cy_addHost y hhl hhn (cy_s141 (by omega) (by omega) (by omega) (g _ _ _ _ _)))) (fun w => by omega))
        · exact br_f (by decide) (pk_lt hc 8 (fun w => by omega) (fun _ => hRf' _ (Or.inr ⟨nd, _, fx2, Or.inr ⟨nq, Or.inr ⟨nf, rfl, y, rfl⟩⟩⟩) _ _ _ _ _))
    · obtain ⟨s, m, e1, e2, e3⟩ := hR i hi
      exact pk_le rc i (fun z => by omega) (fun _ => ⟨pk_in i 8 (by omega), br_t (cf_ix i rfl (by omega) hP.1) (cy_prefix e1 e2 e3 (by omega) hn49 hpn (fun _ => br_f (by decide) (hRf' _ (Or.inr ⟨nd, x, fx, Or.inl ⟨⟨i, hi, hP⟩, rfl⟩⟩) _ _ _ _ _)) (fun w => absurd hP.2 w))⟩)
    · obtain ⟨s, m, e1, e2, e3⟩ := hR i hi
      exact pk_le rc i (fun z => by omega) (fun _ => ⟨pk_in i 8 (by omega), cf_bi i (by omega) (fun e => cy_prefix e1 e2 e3 (by omega) hn49 hpn (fun w => absurd ⟨e, w⟩ hP) (fun _ => br_t rfl (nm_r (nI_1 i) W))) (fun e => nm_r (nI_1 i) W)⟩)
  · obtain ⟨s, m, e1, e2, e3⟩ := hU i hi
    exact pk_le uc i (fun z => by omega) (fun _ => cy_sameAs (uc := uc) e1 e2 e3 (by omega) hn49 (fun d => br_f (by decide) (hRf' _ (Or.inl ⟨⟨i, hi, d⟩, rfl⟩) _ _ _ _ _)) (fun d => absurd hP d))
  · obtain ⟨s, m, e1, e2, e3⟩ := hU i hi
    exact pk_le uc i (fun z => by omega) (fun _ => cy_sameAs (uc := uc) e1 e2 e3 (by omega) hn49 (fun d => absurd d hP) (fun d => br_t rfl (nm_r (nI_1 i) W)))
theorem cy_d136 {post : Int32 → SY → Prop} {a_pt : Nat → Int32} {uc rc rch n P h : Nat} (h32 : uc ≤ 32) (hr : rc < 8) (hP : P ≤ n) (hn : n ≤ 49) (h128 : rch + (n - P) ≤ 128) (hU : ∀ u, u < uc → ∃ s m p a, a_urlStart u = nI s ∧ a_urlLength u = nI m ∧ a_pt u = nI p ∧ s + m ≤ 256 ∧ a + 2 ≤ p ∧ p < m ∧ a_urlPool (s + a) = 47 ∧ a_urlPool (s + (a + 1)) = 47 ∧ a_urlPool (s + p) = 47 ∧ ∀ j, j < p → j ≠ a → j ≠ a + 1 → a_urlPool (s + j) ≠ 47) (g : post (nI (cf_bk (cf_M a_urlPool a_urlStart a_urlLength a_pt a_urlHost (cf_cp a_rulePool rch a_ycanon P (n - P)) (upd a_ruleStart rc (nI rch)) (upd a_ruleLength rc (nI (n - P))) (upd a_ruleHost rc (nI h)) rc) a_urlState uc).2) (f_maxUrls, f_defaultDelay, f_clock, f_bufferLength, nI uc, f_hostCount, nI (rc + 1), f_cLen, f_cHost, f_cHostLen, nI P, f_decLen, f_segN, a_buffer, a_urlPool, a_urlStart, a_urlLength, (cf_bk (cf_M a_urlPool a_urlStart a_urlLength a_pt a_urlHost (cf_cp a_rulePool rch a_ycanon P (n - P)) (upd a_ruleStart rc (nI rch)) (upd a_ruleLength rc (nI (n - P))) (upd a_ruleHost rc (nI h)) rc) a_urlState uc).1, a_urlHost, a_urlTime, a_names, a_nameLength, a_hostDelay, a_hostNext, a_hostSent, cf_cp a_rulePool rch a_ycanon P (n - P), upd a_ruleStart rc (nI rch), upd a_ruleLength rc (nI (n - P)), upd a_ruleHost rc (nI h), a_ycanon, a_dec, a_segS, a_segL)) : wY_disallow_136 post (nI h) (nI (n - P)) (nI rch) f_maxUrls f_defaultDelay f_clock f_bufferLength (nI uc) f_hostCount (nI rc) f_cLen f_cHost f_cHostLen (nI P) f_decLen f_segN a_buffer a_urlPool a_urlStart a_urlLength a_urlState a_urlHost a_urlTime a_names a_nameLength a_hostDelay a_hostNext a_hostSent a_rulePool a_ruleStart a_ruleLength a_ruleHost a_ycanon a_dec a_segS a_segL := by
  have vi : vp_in (nI rc) 8 := pk_in rc 8 hr
  have ec : (nI rc).toNatClampNeg = rc := pk_cl rc
  refine ⟨vi, nm_r (e' := upd a_ruleStart rc (nI rch)) (by rw [ec]) ⟨vi, nm_r (e' := upd a_ruleLength rc (nI (n - P))) (by rw [ec]) ⟨vi, nm_r (e' := upd a_ruleHost rc (nI h)) (by rw [ec]) ?_⟩⟩⟩
  refine cf_fold0 (fun f i s => wY_disallow_170 post (nI (n - P)) (nI rch) (nI rc) f_maxUrls f_defaultDelay f_clock f_bufferLength (nI uc) f_hostCount (nI rc) f_cLen f_cHost f_cHostLen (nI P) f_decLen f_segN f (nI i) a_buffer a_urlPool a_urlStart a_urlLength a_urlState a_urlHost a_urlTime a_names a_nameLength a_hostDelay a_hostNext a_hostSent s (upd a_ruleStart rc (nI rch)) (upd a_ruleLength rc (nI (n - P))) (upd a_ruleHost rc (nI h)) a_ycanon a_dec a_segS a_segL) (fun i => cf_cp a_rulePool rch a_ycanon P i) (n - P)
    (fun f => pk_le (n - P) (n - P) (fun _ => nm_r (nI_1 rc) ?_) (fun z => by omega))
    (fun f i hi W => pk_le (n - P) i (fun z => by omega) (fun _ => ⟨pk_in (P + i) 64 (by omega) (nI_add P i), pk_in (rch + i) 128 (by omega) (nI_add rch i), nm_r (e' := cf_cp a_rulePool rch a_ycanon P (i + 1)) (by rw [pk_cl (rch + i) (nI_add rch i), pk_cl (P + i) (nI_add P i)]; rfl) (nm_r (nI_1 i) W)⟩))
  refine cf_fold0 (fun f i s => wY_disallow_220 post (nI rc) f_maxUrls f_defaultDelay f_clock f_bufferLength (nI uc) f_hostCount (nI (rc + 1)) f_cLen f_cHost f_cHostLen (nI P) f_decLen f_segN f (nI s.2) (nI i) a_buffer a_urlPool a_urlStart a_urlLength s.1 a_urlHost a_urlTime a_names a_nameLength a_hostDelay a_hostNext a_hostSent (cf_cp a_rulePool rch a_ycanon P (n - P)) (upd a_ruleStart rc (nI rch)) (upd a_ruleLength rc (nI (n - P))) (upd a_ruleHost rc (nI h)) a_ycanon a_dec a_segS a_segL) (fun i => cf_bk (cf_M a_urlPool a_urlStart a_urlLength a_pt a_urlHost (cf_cp a_rulePool rch a_ycanon P (n - P)) (upd a_ruleStart rc (nI rch)) (upd a_ruleLength rc (nI (n - P))) (upd a_ruleHost rc (nI h)) rc) a_urlState i) uc (fun f => pk_le uc uc (fun _ => g) (fun z => by omega)) (fun f i hi W => ?_)
  have hm : ∀ us (p : Int32 → Prop), ((cf_M a_urlPool a_urlStart a_urlLength a_pt a_urlHost (cf_cp a_rulePool rch a_ycanon P (n - P)) (upd a_ruleStart rc (nI rch)) (upd a_ruleLength rc (nI (n - P))) (upd a_ruleHost rc (nI h)) rc) i → p 1) → (¬ (cf_M a_urlPool a_urlStart a_urlLength a_pt a_urlHost (cf_cp a_rulePool rch a_ycanon P (n - P)) (upd a_ruleStart rc (nI rch)) (upd a_ruleLength rc (nI (n - P))) (upd a_ruleHost rc (nI h)) rc) i → p 0) → wpY_urlMatchesRule p (f_maxUrls, f_defaultDelay, f_clock, f_bufferLength, nI uc, f_hostCount, nI (rc + 1), f_cLen, f_cHost, f_cHostLen, nI P, f_decLen, f_segN, a_buffer, a_urlPool, a_urlStart, a_urlLength, us, a_urlHost, a_urlTime, a_names, a_nameLength, a_hostDelay, a_hostNext, a_hostSent, cf_cp a_rulePool rch a_ycanon P (n - P), upd a_ruleStart rc (nI rch), upd a_ruleLength rc (nI (n - P)), upd a_ruleHost rc (nI h), a_ycanon, a_dec, a_segS, a_segL) (nI i) (nI rc) := by
    intro us p k1 k0
    obtain ⟨s, m, p0, a, e1, e2, e3, e4, e5, e6, q1, q2, q3, q4⟩ := hU i hi
    exact cy_matches (by omega) hr e1 e2 e3 e4 e5 e6 q1 q2 q3 q4 pk_us pk_us (by omega) k1 k0
  refine pk_le uc i (fun z => by omega) (fun _ => ⟨pk_in i 32 (by omega), cf_bi i (by omega) (fun e => hm _ _ (fun m => br_f (by decide) ⟨pk_in i 32 (by omega), ?_⟩) (fun m => br_t rfl (nm_r (nI_1 i) ?_))) (fun e => nm_r (nI_1 i) ?_)⟩)
  · rw [cf_bkT ⟨e, m⟩] at W
    exact nm_r (e' := upd (cf_bk (cf_M a_urlPool a_urlStart a_urlLength a_pt a_urlHost (cf_cp a_rulePool rch a_ycanon P (n - P)) (upd a_ruleStart rc (nI rch)) (upd a_ruleLength rc (nI (n - P))) (upd a_ruleHost rc (nI h)) rc) a_urlState i).1 i 3) (by rw [pk_cl i]) (nm_r (nI_1 _) (nm_r (nI_1 i) W))
  · rw [cf_bkF (fun w => m w.2)] at W
    exact W
  · rw [cf_bkF (fun w => e w.1)] at W
    exact W
theorem cy_disallow {post : Int32 → SY → Prop} {a_pt : Nat → Int32} {uc hc rc rch : Nat} (hL : L ≤ 48) (hb : ∀ j, a_buffer j = nI (t j)) (ht : ∀ j, t j ≤ 126) (h32 : uc ≤ 32) (h8 : hc ≤ 8) (hr8 : rc ≤ 8) (hrch : rch ≤ 128) (hsum : cf_sm a_ruleLength rc = nI rch) (hU : ∀ u, u < uc → ∃ s m p a, a_urlStart u = nI s ∧ a_urlLength u = nI m ∧ a_pt u = nI p ∧ s + m ≤ 256 ∧ a + 2 ≤ p ∧ p < m ∧ a_urlPool (s + a) = 47 ∧ a_urlPool (s + (a + 1)) = 47 ∧ a_urlPool (s + p) = 47 ∧ ∀ j, j < p → j ≠ a → j ≠ a + 1 → a_urlPool (s + j) ≠ 47) (hR : ∀ r, r < rc → ∃ s m, a_ruleStart r = nI s ∧ a_ruleLength r = nI m ∧ s + m ≤ 128)
    (hN : (∀ c he p pE qE po D1 D2, ¬ cf_PS t L c he p pE qE po D1 D2) → ∀ a1 a2 a3 a4 n1 n2 n3 n4 n5 n6, post (-1) (f_maxUrls, f_defaultDelay, f_clock, 0, nI uc, nI hc, nI rc, n1, n2, n3, n4, n5, n6, a_buffer, a_urlPool, a_urlStart, a_urlLength, a_urlState, a_urlHost, a_urlTime, a_names, a_nameLength, a_hostDelay, a_hostNext, a_hostSent, a_rulePool, a_ruleStart, a_ruleLength, a_ruleHost, a1, a2, a3, a4))
    (hRf : ∀ c he p pE qE po D1 D2 n H HL P, cf_PS t L c he p pE qE po D1 D2 → n = (cf_out t he po D1 D2).length → H = c + 3 → HL = he - (c + 3) → P = he + po.length → ∀ a1, cf_K a1 n (cf_out t he po D1 D2) → ∀ r, cf_Rf False (cf_FF (cf_Ph a_names a_nameLength a1 H HL) hc) (fun x => ∃ r, r < rc ∧ cf_Pe a_rulePool a_ruleStart a_ruleLength a_ruleHost a1 P n x r) (-2) (8 ≤ rc ∨ 128 < rch + (n - P)) hc r → ∀ a2 a3 a4 n5 n6, post r (f_maxUrls, f_defaultDelay, f_clock, 0, nI uc, nI hc, nI rc, nI n, nI H, nI HL, nI P, n5, n6, a_buffer, a_urlPool, a_urlStart, a_urlLength, a_urlState, a_urlHost, a_urlTime, a_names, a_nameLength, a_hostDelay, a_hostNext, a_hostSent, a_rulePool, a_ruleStart, a_ruleLength, a_ruleHost, a1, a2, a3, a4))
    (hA : ∀ c he p pE qE po D1 D2 n H HL P, cf_PS t L c he p pE qE po D1 D2 → n = (cf_out t he po D1 D2).length → H = c + 3 → HL = he - (c + 3) → P = he + po.length → ∀ a1, cf_K a1 n (cf_out t he po D1 D2) → ∀ x, cf_Ac False (cf_FF (cf_Ph a_names a_nameLength a1 H HL) hc) (fun x => ∃ r, r < rc ∧ cf_Pe a_rulePool a_ruleStart a_ruleLength a_ruleHost a1 P n x r) (8 ≤ rc ∨ 128 < rch + (n - P)) hc x →
      (∀ h, h < hc → x = nI h → ∀ a2 a3 a4 n5 n6, post (nI (cf_bk (cf_M a_urlPool a_urlStart a_urlLength a_pt a_urlHost (cf_cp a_rulePool rch a1 P (n - P)) (upd a_ruleStart rc (nI rch)) (upd a_ruleLength rc (nI (n - P))) (upd a_ruleHost rc (nI h)) rc) a_urlState uc).2) (f_maxUrls, f_defaultDelay, f_clock, 0, nI uc, nI hc, nI (rc + 1), nI n, nI H, nI HL, nI P, n5, n6, a_buffer, a_urlPool, a_urlStart, a_urlLength, (cf_bk (cf_M a_urlPool a_urlStart a_urlLength a_pt a_urlHost (cf_cp a_rulePool rch a1 P (n - P)) (upd a_ruleStart rc (nI rch)) (upd a_ruleLength rc (nI (n - P))) (upd a_ruleHost rc (nI h)) rc) a_urlState uc).1, a_urlHost, a_urlTime, a_names, a_nameLength, a_hostDelay, a_hostNext, a_hostSent, cf_cp a_rulePool rch a1 P (n - P), upd a_ruleStart rc (nI rch), upd a_ruleLength rc (nI (n - P)), upd a_ruleHost rc (nI h), a1, a2, a3, a4)) ∧
      (x = -1 → ∀ a2 a3 a4 n5 n6, post (nI (cf_bk (cf_M a_urlPool a_urlStart a_urlLength a_pt a_urlHost (cf_cp a_rulePool rch a1 P (n - P)) (upd a_ruleStart rc (nI rch)) (upd a_ruleLength rc (nI (n - P))) (upd a_ruleHost rc (nI hc)) rc) a_urlState uc).2) (f_maxUrls, f_defaultDelay, f_clock, 0, nI uc, nI (hc + 1), nI (rc + 1), nI n, nI H, nI HL, nI P, n5, n6, a_buffer, a_urlPool, a_urlStart, a_urlLength, (cf_bk (cf_M a_urlPool a_urlStart a_urlLength a_pt a_urlHost (cf_cp a_rulePool rch a1 P (n - P)) (upd a_ruleStart rc (nI rch)) (upd a_ruleLength rc (nI (n - P))) (upd a_ruleHost rc (nI hc)) rc) a_urlState uc).1, a_urlHost, a_urlTime, cf_cp a_names (hc * 16) a1 H HL, upd a_nameLength hc (nI HL), upd a_hostDelay hc f_defaultDelay, upd a_hostNext hc 0, upd a_hostSent hc 0, cf_cp a_rulePool rch a1 P (n - P), upd a_ruleStart rc (nI rch), upd a_ruleLength rc (nI (n - P)), upd a_ruleHost rc (nI hc), a1, a2, a3, a4))) :
    wpY_disallow post (f_maxUrls, f_defaultDelay, f_clock, nI L, nI uc, nI hc, nI rc, f_cLen, f_cHost, f_cHostLen, f_cPq, f_decLen, f_segN, a_buffer, a_urlPool, a_urlStart, a_urlLength, a_urlState, a_urlHost, a_urlTime, a_names, a_nameLength, a_hostDelay, a_hostNext, a_hostSent, a_rulePool, a_ruleStart, a_ruleLength, a_ruleHost, a_ycanon, a_dec, a_segS, a_segL) := by
  unfold wpY_disallow
  dsimp only
  refine cy_parse hL hb ht (fun h a1 a2 a3 a4 n1 n2 n3 n4 n5 n6 => br_t rfl (hN h _ _ _ _ _ _ _ _ _ _)) (fun c he p pE qE po D1 D2 ps a1 a2 a3 a4 n5 n6 hK => br_f (by decide) ?_)
  have bo := cf_outB ht hL ps
  have ol := cf_outL (t := t) (he := he) (po := po) (D1 := D1) (D2 := D2)
  have hRf' := hRf c he p pE qE po D1 D2 _ _ _ _ ps rfl rfl rfl rfl a1 hK
  have hA' := hA c he p pE qE po D1 D2 _ _ _ _ ps rfl rfl rfl rfl a1 hK
  have hpn : he + po.length ≤ (cf_out t he po D1 D2).length := by omega
  have hhl : he - (c + 3) ≤ 16 := by omega
  have hhn : c + 3 + (he - (c + 3)) ≤ 49 := by omega
  have hn49 : (cf_out t he po D1 D2).length ≤ 49 := by omega
  generalize (cf_out t he po D1 D2).length = n at *
  generalize he + po.length = P at *
  generalize c + 3 = H at *
  generalize he - H = HL at *
  refine cy_findHost h8 hhl hhn (fun x fx => nm_r (pk_sub hpn) ?_)
  refine cf_scan0 (fun f i => wY_disallow_34 post x (nI (n - P)) f_maxUrls f_defaultDelay f_clock 0 (nI uc) (nI hc) (nI rc) (nI n) (nI H) (nI HL) (nI P) n5 n6 a_buffer a_urlPool a_urlStart a_urlLength a_urlState a_urlHost a_urlTime a_names a_nameLength a_hostDelay a_hostNext a_hostSent a_rulePool a_ruleStart a_ruleLength a_ruleHost a1 a2 a3 a4 f (nI i)) (fun r => cf_Pe a_rulePool a_ruleStart a_ruleLength a_ruleHost a1 P n x r) rc (fun f hall2 => ?_) (fun f i hi hP _ => ?_) (fun f i hi hP W => ?_)
  · have nq : ¬ (∃ r, r < rc ∧ cf_Pe a_rulePool a_ruleStart a_ruleLength a_ruleHost a1 P n x r) := fun w => by
      obtain ⟨r, hr, w⟩ := w
      exact hall2 r hr w
    refine pk_le rc rc (fun _ => cy_ruleChars hr8 ?_) (fun z => by omega)
    have es : cf_sm a_ruleLength rc + nI (n - P) = nI (rch + (n - P)) := by rw [hsum, nI_add]
    refine pk_le 8 rc (fun z => hRf' _ (Or.inr ⟨id, x, fx, Or.inr ⟨nq, Or.inl ⟨Or.inl z, rfl⟩⟩⟩) _ _ _ _ _) (fun z => pk_le (rch + (n - P)) 128 (fun z2 => ?_) (fun z2 => hRf' _ (Or.inr ⟨id, x, fx, Or.inr ⟨nq, Or.inl ⟨Or.inr z2, rfl⟩⟩⟩) _ _ _ _ _) es)
    have nf : ¬ (8 ≤ rc ∨ 128 < rch + (n - P)) := by omega
    rw [hsum]
    have fx2 := fx
    rcases fx with ⟨h, hh, -, -, rfl⟩ | ⟨-, rfl⟩
    · have g := (hA' _ ⟨id, fx2, nq, nf, fun w => absurd w (cf_m1 (by omega))⟩).1 h hh rfl
      exact br_t (nI_pos' (by omega)) (br_t (nI_pos' (by omega)) (cy_d136 (a_pt := a_pt) h32 z hpn hn49 z2 hU (g _ _ _ _ _)))
    · rcases Nat.lt_or_ge hc 8 with y | y
      · have g := (hA' _ ⟨id, fx2, nq, nf, fun _ => y⟩).2 rfl
        exact br_f (by decide) (pk_lt hc 8 (fun _ => br_f (by decide) (cy_addHost y hhl hhn (cy_d136 (a_pt := a_pt) h32 z hpn hn49 z2 hU (g _ _ _ _ _)))) (fun w => by omega))
      · exact br_f (by decide) (pk_lt hc 8 (fun w => by omega) (fun _ => hRf' _ (Or.inr ⟨id, _, fx2, Or.inr ⟨nq, Or.inr ⟨nf, rfl, y, rfl⟩⟩⟩) _ _ _ _ _))
  · obtain ⟨s, m, e1, e2, e3⟩ := hR i hi
    have c2 : (a_ruleLength i).toNatClampNeg = m := by rw [e2]; exact pk_cl m
    have d2 : a_ruleLength (nI i).toNatClampNeg = nI m := cf_ix i rfl (by omega) e2
    have q2 := hP.2.1
    rw [c2] at q2
    exact pk_le rc i (fun z => by omega) (fun _ => ⟨pk_in i 8 (by omega), br_t (cf_ix i rfl (by omega) hP.1) ⟨pk_in i 8 (by omega), pk_eq m (n - P) (fun _ => cy_prefix e1 e2 e3 (by omega) hn49 hpn (fun _ => br_f (by decide) (hRf' _ (Or.inr ⟨id, x, fx, Or.inl ⟨⟨i, hi, hP⟩, rfl⟩⟩) _ _ _ _ _)) (fun w => absurd ⟨Nat.le_of_eq hP.2.1, hP.2.2⟩ w)) (fun w => absurd q2 w) d2⟩⟩)
  · obtain ⟨s, m, e1, e2, e3⟩ := hR i hi
    have c2 : (a_ruleLength i).toNatClampNeg = m := by rw [e2]; exact pk_cl m
    have d2 : a_ruleLength (nI i).toNatClampNeg = nI m := cf_ix i rfl (by omega) e2
    exact pk_le rc i (fun z => by omega) (fun _ => ⟨pk_in i 8 (by omega), cf_bi i (by omega) (fun e => ⟨pk_in i 8 (by omega), pk_eq m (n - P) (fun y => cy_prefix e1 e2 e3 (by omega) hn49 hpn (fun w => absurd ⟨e, by rw [c2]; exact y, w.2⟩ hP) (fun _ => br_t rfl (nm_r (nI_1 i) W))) (fun y => nm_r (nI_1 i) W) d2⟩) (fun e => nm_r (nI_1 i) W)⟩)
theorem cy_setDelay {post : Int32 → SY → Prop} {hc : Nat} {v : Int32} (hL : L ≤ 48) (hb : ∀ j, a_buffer j = nI (t j)) (ht : ∀ j, t j ≤ 126) (h8 : hc ≤ 8) (hv1 : ¬ v < 1) (hv2 : v ≤ 16)
    (hN : (∀ c he p pE qE po D1 D2, ¬ cf_PS t L c he p pE qE po D1 D2) → ∀ a1 a2 a3 a4 n1 n2 n3 n4 n5 n6, post (-1) (f_maxUrls, f_defaultDelay, f_clock, 0, f_urlCount, nI hc, f_ruleCount, n1, n2, n3, n4, n5, n6, a_buffer, a_urlPool, a_urlStart, a_urlLength, a_urlState, a_urlHost, a_urlTime, a_names, a_nameLength, a_hostDelay, a_hostNext, a_hostSent, a_rulePool, a_ruleStart, a_ruleLength, a_ruleHost, a1, a2, a3, a4))
    (hRf : ∀ c he p pE qE po D1 D2 n H HL P, cf_PS t L c he p pE qE po D1 D2 → n = (cf_out t he po D1 D2).length → H = c + 3 → HL = he - (c + 3) → P = he + po.length → ∀ a1, cf_K a1 n (cf_out t he po D1 D2) → ∀ r, cf_Rf False (cf_FF (cf_Ph a_names a_nameLength a1 H HL) hc) (fun _ => False) 0 False hc r → ∀ a2 a3 a4 n5 n6, post r (f_maxUrls, f_defaultDelay, f_clock, 0, f_urlCount, nI hc, f_ruleCount, nI n, nI H, nI HL, nI P, n5, n6, a_buffer, a_urlPool, a_urlStart, a_urlLength, a_urlState, a_urlHost, a_urlTime, a_names, a_nameLength, a_hostDelay, a_hostNext, a_hostSent, a_rulePool, a_ruleStart, a_ruleLength, a_ruleHost, a1, a2, a3, a4))
    (hA : ∀ c he p pE qE po D1 D2 n H HL P, cf_PS t L c he p pE qE po D1 D2 → n = (cf_out t he po D1 D2).length → H = c + 3 → HL = he - (c + 3) → P = he + po.length → ∀ a1, cf_K a1 n (cf_out t he po D1 D2) → ∀ x, cf_Ac False (cf_FF (cf_Ph a_names a_nameLength a1 H HL) hc) (fun _ => False) False hc x →
      (∀ h, h < hc → x = nI h → ∀ a2 a3 a4 n5 n6, post (nI h) (f_maxUrls, f_defaultDelay, f_clock, 0, f_urlCount, nI hc, f_ruleCount, nI n, nI H, nI HL, nI P, n5, n6, a_buffer, a_urlPool, a_urlStart, a_urlLength, a_urlState, a_urlHost, a_urlTime, a_names, a_nameLength, upd a_hostDelay h v, a_hostNext, a_hostSent, a_rulePool, a_ruleStart, a_ruleLength, a_ruleHost, a1, a2, a3, a4)) ∧
      (x = -1 → ∀ a2 a3 a4 n5 n6, post (nI hc) (f_maxUrls, f_defaultDelay, f_clock, 0, f_urlCount, nI (hc + 1), f_ruleCount, nI n, nI H, nI HL, nI P, n5, n6, a_buffer, a_urlPool, a_urlStart, a_urlLength, a_urlState, a_urlHost, a_urlTime, cf_cp a_names (hc * 16) a1 H HL, upd a_nameLength hc (nI HL), upd (upd a_hostDelay hc f_defaultDelay) hc v, upd a_hostNext hc 0, upd a_hostSent hc 0, a_rulePool, a_ruleStart, a_ruleLength, a_ruleHost, a1, a2, a3, a4))) :
    wpY_setDelay post (f_maxUrls, f_defaultDelay, f_clock, nI L, f_urlCount, nI hc, f_ruleCount, f_cLen, f_cHost, f_cHostLen, f_cPq, f_decLen, f_segN, a_buffer, a_urlPool, a_urlStart, a_urlLength, a_urlState, a_urlHost, a_urlTime, a_names, a_nameLength, a_hostDelay, a_hostNext, a_hostSent, a_rulePool, a_ruleStart, a_ruleLength, a_ruleHost, a_ycanon, a_dec, a_segS, a_segL) v := by
  refine br_f hv1 (br_t hv2 ?_)
  refine cy_parse hL hb ht (fun h a1 a2 a3 a4 n1 n2 n3 n4 n5 n6 => br_t rfl (hN h _ _ _ _ _ _ _ _ _ _)) (fun c he p pE qE po D1 D2 ps a1 a2 a3 a4 n5 n6 hK => br_f (by decide) ?_)
  have bo := cf_outB ht hL ps
  have hRf' := hRf c he p pE qE po D1 D2 _ _ _ _ ps rfl rfl rfl rfl a1 hK
  have hA' := hA c he p pE qE po D1 D2 _ _ _ _ ps rfl rfl rfl rfl a1 hK
  have hhl : he - (c + 3) ≤ 16 := by omega
  have hhn : c + 3 + (he - (c + 3)) ≤ 49 := by omega
  refine cy_findHost h8 hhl hhn (fun x fx => ?_)
  have fx2 := fx
  rcases fx with ⟨h, hh, -, -, rfl⟩ | ⟨-, rfl⟩
  · have g := (hA' _ ⟨id, fx2, id, id, fun w => absurd w (cf_m1 (by omega))⟩).1 h hh rfl
    exact br_t (nI_pos' (by omega)) (br_t (nI_pos' (by omega)) ⟨pk_in h 8 (by omega), nm_r (e' := upd a_hostDelay h v) (by rw [pk_cl h]) (g _ _ _ _ _)⟩)
  · rcases Nat.lt_or_ge hc 8 with y | y
    · have g := (hA' _ ⟨id, fx2, id, id, fun _ => y⟩).2 rfl
      exact br_f (by decide) (pk_lt hc 8 (fun _ => br_f (by decide) (cy_addHost y hhl hhn ⟨pk_in hc 8 y, nm_r (e' := upd (upd a_hostDelay hc f_defaultDelay) hc v) (by rw [pk_cl hc]) (g _ _ _ _ _)⟩)) (fun w => by omega))
    · exact br_f (by decide) (pk_lt hc 8 (fun w => by omega) (fun _ => hRf' _ (Or.inr ⟨id, _, fx2, Or.inr ⟨id, Or.inr ⟨id, rfl, y, rfl⟩⟩⟩) _ _ _ _ _))
end
