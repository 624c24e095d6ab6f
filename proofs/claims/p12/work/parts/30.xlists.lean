/-! the class: the lists (made by mk30.py) -/
theorem cf_bi {a : Nat → Int32} {x y : Int32} {A B : Prop} (u : Nat) (hu : u < 2 ^ 31) (f : a u = y → A) (g : ¬ a u = y → B) (hx : x = nI u := by rfl) : (a x.toNatClampNeg = y → A) ∧ (¬ a x.toNatClampNeg = y → B) := by
  rw [pk_cl u hx hu]
  exact ⟨f, g⟩
def cf_Dup (pool st ln c : Nat → Int32) (n u : Nat) : Prop := ln u = nI n ∧ cf_EQ pool (st u).toNatClampNeg c 0 n
def cf_Ph (nm nl c : Nat → Int32) (H HL h : Nat) : Prop := nl h = nI HL ∧ cf_EQ nm (h * 16) c H HL
def cf_Pr (rp rs rl rh c : Nat → Int32) (P n : Nat) (x : Int32) (r : Nat) : Prop := rh r = x ∧ (rl r).toNatClampNeg ≤ n - P ∧ cf_EQ rp (rs r).toNatClampNeg c P (rl r).toNatClampNeg
def cf_Pe (rp rs rl rh c : Nat → Int32) (P n : Nat) (x : Int32) (r : Nat) : Prop := rh r = x ∧ (rl r).toNatClampNeg = n - P ∧ cf_EQ rp (rs r).toNatClampNeg c P (rl r).toNatClampNeg
def cf_M (pool st ln pt uh rp rs rl rh : Nat → Int32) (r u : Nat) : Prop := uh u = rh r ∧ (rl r).toNatClampNeg ≤ (ln u).toNatClampNeg - (pt u).toNatClampNeg ∧ cf_EQ rp (rs r).toNatClampNeg pool ((st u).toNatClampNeg + (pt u).toNatClampNeg) (rl r).toNatClampNeg
theorem cf_EQc {a b b' : Nat → Int32} {o p n : Nat} (h : ∀ j, j < n → b (p + j) = b' (p + j)) : cf_EQ a o b p n ↔ cf_EQ a o b' p n :=
  ⟨fun w i hi => (w i hi).trans (h i hi), fun w i hi => (w i hi).trans (h i hi).symm⟩
section
variable {f_maxUrls f_defaultDelay f_clock f_bufferLength f_canonLength f_canonHost f_canonHostLength f_canonPath f_schemePort f_partLength f_urlCount f_urlChars f_hostCount f_ruleCount f_ruleChars : Int32} {a_buffer a_canon a_part a_urlPool a_urlStart a_urlLength a_urlPath a_urlHost a_urlState a_urlTime a_names a_nameLength a_hostDelay a_hostNext a_rulePool a_ruleStart a_ruleLength a_ruleHost : Nat → Int32}
theorem cx_same_urlPool_canon {post : Int32 → Prop} {x y z : Int32} (o p n : Nat) (hx : x = nI o) (hy : y = nI p) (hz : z = nI n) (ho : o + n ≤ 256) (hp : p + n ≤ 49) (h1 : cf_EQ a_urlPool o a_canon p n → post 1) (h0 : ¬ cf_EQ a_urlPool o a_canon p n → post 0) : wpX_sameChars_3 post (a_urlPool, a_canon) x y z := by
  subst hx hy hz
  have cv : ∀ i, i < n → ((a_urlPool (nI o + nI i).toNatClampNeg = a_canon (nI p + nI i).toNatClampNeg) = (a_urlPool (o + i) = a_canon (p + i))) := by
    intro i hi
    rw [pk_cl (o + i) (nI_add o i), pk_cl (p + i) (nI_add p i)]
  exact cf_scan0 (fun f i => wX_sameChars_3_3 post (nI o) (nI p) (nI n) a_urlPool a_canon f (nI i)) (fun i => ¬ a_urlPool (o + i) = a_canon (p + i)) n
    (fun f hall => pk_le n n (fun _ => h1 (fun i hi => Classical.not_not.mp (hall i hi))) (fun z => by omega))
    (fun f i hi hP _ => pk_le n i (fun z => by omega) (fun _ => ⟨pk_in (o + i) 256 (by omega) (nI_add o i), pk_in (p + i) 49 (by omega) (nI_add p i), br_f (by rw [cv i hi]; exact hP) (h0 (fun w => hP (w i hi)))⟩))
    (fun f i hi hP W => pk_le n i (fun z => by omega) (fun _ => ⟨pk_in (o + i) 256 (by omega) (nI_add o i), pk_in (p + i) 49 (by omega) (nI_add p i), br_t (by rw [cv i hi]; exact Classical.not_not.mp hP) (nm_r (nI_1 i) W)⟩))
theorem cx_same_names_canon {post : Int32 → Prop} {x y z : Int32} (o p n : Nat) (hx : x = nI o) (hy : y = nI p) (hz : z = nI n) (ho : o + n ≤ 128) (hp : p + n ≤ 49) (h1 : cf_EQ a_names o a_canon p n → post 1) (h0 : ¬ cf_EQ a_names o a_canon p n → post 0) : wpX_sameChars post (a_names, a_canon) x y z := by
  subst hx hy hz
  have cv : ∀ i, i < n → ((a_names (nI o + nI i).toNatClampNeg = a_canon (nI p + nI i).toNatClampNeg) = (a_names (o + i) = a_canon (p + i))) := by
    intro i hi
    rw [pk_cl (o + i) (nI_add o i), pk_cl (p + i) (nI_add p i)]
  exact cf_scan0 (fun f i => wX_sameChars_3 post (nI o) (nI p) (nI n) a_names a_canon f (nI i)) (fun i => ¬ a_names (o + i) = a_canon (p + i)) n
    (fun f hall => pk_le n n (fun _ => h1 (fun i hi => Classical.not_not.mp (hall i hi))) (fun z => by omega))
    (fun f i hi hP _ => pk_le n i (fun z => by omega) (fun _ => ⟨pk_in (o + i) 128 (by omega) (nI_add o i), pk_in (p + i) 49 (by omega) (nI_add p i), br_f (by rw [cv i hi]; exact hP) (h0 (fun w => hP (w i hi)))⟩))
    (fun f i hi hP W => pk_le n i (fun z => by omega) (fun _ => ⟨pk_in (o + i) 128 (by omega) (nI_add o i), pk_in (p + i) 49 (by omega) (nI_add p i), br_t (by rw [cv i hi]; exact Classical.not_not.mp hP) (nm_r (nI_1 i) W)⟩))
theorem cx_same_rulePool_canon {post : Int32 → Prop} {x y z : Int32} (o p n : Nat) (hx : x = nI o) (hy : y = nI p) (hz : z = nI n) (ho : o + n ≤ 128) (hp : p + n ≤ 49) (h1 : cf_EQ a_rulePool o a_canon p n → post 1) (h0 : ¬ cf_EQ a_rulePool o a_canon p n → post 0) : wpX_sameChars post (a_rulePool, a_canon) x y z := by
  subst hx hy hz
  have cv : ∀ i, i < n → ((a_rulePool (nI o + nI i).toNatClampNeg = a_canon (nI p + nI i).toNatClampNeg) = (a_rulePool (o + i) = a_canon (p + i))) := by
    intro i hi
    rw [pk_cl (o + i) (nI_add o i), pk_cl (p + i) (nI_add p i)]
  exact cf_scan0 (fun f i => wX_sameChars_3 post (nI o) (nI p) (nI n) a_rulePool a_canon f (nI i)) (fun i => ¬ a_rulePool (o + i) = a_canon (p + i)) n
    (fun f hall => pk_le n n (fun _ => h1 (fun i hi => Classical.not_not.mp (hall i hi))) (fun z => by omega))
    (fun f i hi hP _ => pk_le n i (fun z => by omega) (fun _ => ⟨pk_in (o + i) 128 (by omega) (nI_add o i), pk_in (p + i) 49 (by omega) (nI_add p i), br_f (by rw [cv i hi]; exact hP) (h0 (fun w => hP (w i hi)))⟩))
    (fun f i hi hP W => pk_le n i (fun z => by omega) (fun _ => ⟨pk_in (o + i) 128 (by omega) (nI_add o i), pk_in (p + i) 49 (by omega) (nI_add p i), br_t (by rw [cv i hi]; exact Classical.not_not.mp hP) (nm_r (nI_1 i) W)⟩))
theorem cx_same_rulePool_urlPool {post : Int32 → Prop} {x y z : Int32} (o p n : Nat) (hx : x = nI o) (hy : y = nI p) (hz : z = nI n) (ho : o + n ≤ 128) (hp : p + n ≤ 256) (h1 : cf_EQ a_rulePool o a_urlPool p n → post 1) (h0 : ¬ cf_EQ a_rulePool o a_urlPool p n → post 0) : wpX_sameChars_2 post (a_rulePool, a_urlPool) x y z := by
  subst hx hy hz
  have cv : ∀ i, i < n → ((a_rulePool (nI o + nI i).toNatClampNeg = a_urlPool (nI p + nI i).toNatClampNeg) = (a_rulePool (o + i) = a_urlPool (p + i))) := by
    intro i hi
    rw [pk_cl (o + i) (nI_add o i), pk_cl (p + i) (nI_add p i)]
  exact cf_scan0 (fun f i => wX_sameChars_2_3 post (nI o) (nI p) (nI n) a_rulePool a_urlPool f (nI i)) (fun i => ¬ a_rulePool (o + i) = a_urlPool (p + i)) n
    (fun f hall => pk_le n n (fun _ => h1 (fun i hi => Classical.not_not.mp (hall i hi))) (fun z => by omega))
    (fun f i hi hP _ => pk_le n i (fun z => by omega) (fun _ => ⟨pk_in (o + i) 128 (by omega) (nI_add o i), pk_in (p + i) 256 (by omega) (nI_add p i), br_f (by rw [cv i hi]; exact hP) (h0 (fun w => hP (w i hi)))⟩))
    (fun f i hi hP W => pk_le n i (fun z => by omega) (fun _ => ⟨pk_in (o + i) 128 (by omega) (nI_add o i), pk_in (p + i) 256 (by omega) (nI_add p i), br_t (by rw [cv i hi]; exact Classical.not_not.mp hP) (nm_r (nI_1 i) W)⟩))
theorem cx_copy_names {post : St2 → Prop} {x y z : Int32} (fr n at0 : Nat) (hx : x = nI fr) (hy : y = nI n) (hz : z = nI at0) (hf : fr + n ≤ 49) (ha : at0 + n ≤ 128) (h : post (f_maxUrls, f_defaultDelay, f_clock, f_bufferLength, f_canonLength, f_canonHost, f_canonHostLength, f_canonPath, f_schemePort, f_partLength, f_urlCount, f_urlChars, f_hostCount, f_ruleCount, f_ruleChars, a_buffer, a_canon, a_part, a_urlPool, a_urlStart, a_urlLength, a_urlPath, a_urlHost, a_urlState, a_urlTime, cf_cp a_names at0 a_canon fr n, a_nameLength, a_hostDelay, a_hostNext, a_rulePool, a_ruleStart, a_ruleLength, a_ruleHost)) : wpX_copyCanon post (f_maxUrls, f_defaultDelay, f_clock, f_bufferLength, f_canonLength, f_canonHost, f_canonHostLength, f_canonPath, f_schemePort, f_partLength, f_urlCount, f_urlChars, f_hostCount, f_ruleCount, f_ruleChars, a_buffer, a_canon, a_part, a_urlPool, a_urlStart, a_urlLength, a_urlPath, a_urlHost, a_urlState, a_urlTime, a_names, a_nameLength, a_hostDelay, a_hostNext, a_rulePool, a_ruleStart, a_ruleLength, a_ruleHost) x y z := by
  subst hx hy hz
  exact cf_fold0 (fun f i s => wX_copyCanon_3 post (nI fr) (nI n) (nI at0) f_maxUrls f_defaultDelay f_clock f_bufferLength f_canonLength f_canonHost f_canonHostLength f_canonPath f_schemePort f_partLength f_urlCount f_urlChars f_hostCount f_ruleCount f_ruleChars f (nI i) a_buffer a_canon a_part a_urlPool a_urlStart a_urlLength a_urlPath a_urlHost a_urlState a_urlTime s a_nameLength a_hostDelay a_hostNext a_rulePool a_ruleStart a_ruleLength a_ruleHost) (fun i => cf_cp a_names at0 a_canon fr i) n
    (fun f => pk_le n n (fun _ => h) (fun z => by omega))
    (fun f i hi W => pk_le n i (fun z => by omega) (fun _ => ⟨pk_in (fr + i) 49 (by omega) (nI_add fr i), pk_in (at0 + i) 128 (by omega) (nI_add at0 i), nm_r (e' := cf_cp a_names at0 a_canon fr (i + 1)) (by rw [pk_cl (at0 + i) (nI_add at0 i), pk_cl (fr + i) (nI_add fr i)]; rfl) (nm_r (nI_1 i) W)⟩))
theorem cx_copy_urlPool {post : St2 → Prop} {x y z : Int32} (fr n at0 : Nat) (hx : x = nI fr) (hy : y = nI n) (hz : z = nI at0) (hf : fr + n ≤ 49) (ha : at0 + n ≤ 256) (h : post (f_maxUrls, f_defaultDelay, f_clock, f_bufferLength, f_canonLength, f_canonHost, f_canonHostLength, f_canonPath, f_schemePort, f_partLength, f_urlCount, f_urlChars, f_hostCount, f_ruleCount, f_ruleChars, a_buffer, a_canon, a_part, cf_cp a_urlPool at0 a_canon fr n, a_urlStart, a_urlLength, a_urlPath, a_urlHost, a_urlState, a_urlTime, a_names, a_nameLength, a_hostDelay, a_hostNext, a_rulePool, a_ruleStart, a_ruleLength, a_ruleHost)) : wpX_copyCanon_3 post (f_maxUrls, f_defaultDelay, f_clock, f_bufferLength, f_canonLength, f_canonHost, f_canonHostLength, f_canonPath, f_schemePort, f_partLength, f_urlCount, f_urlChars, f_hostCount, f_ruleCount, f_ruleChars, a_buffer, a_canon, a_part, a_urlPool, a_urlStart, a_urlLength, a_urlPath, a_urlHost, a_urlState, a_urlTime, a_names, a_nameLength, a_hostDelay, a_hostNext, a_rulePool, a_ruleStart, a_ruleLength, a_ruleHost) x y z := by
  subst hx hy hz
  exact cf_fold0 (fun f i s => wX_copyCanon_3_3 post (nI fr) (nI n) (nI at0) f_maxUrls f_defaultDelay f_clock f_bufferLength f_canonLength f_canonHost f_canonHostLength f_canonPath f_schemePort f_partLength f_urlCount f_urlChars f_hostCount f_ruleCount f_ruleChars f (nI i) a_buffer a_canon a_part s a_urlStart a_urlLength a_urlPath a_urlHost a_urlState a_urlTime a_names a_nameLength a_hostDelay a_hostNext a_rulePool a_ruleStart a_ruleLength a_ruleHost) (fun i => cf_cp a_urlPool at0 a_canon fr i) n
    (fun f => pk_le n n (fun _ => h) (fun z => by omega))
    (fun f i hi W => pk_le n i (fun z => by omega) (fun _ => ⟨pk_in (fr + i) 49 (by omega) (nI_add fr i), pk_in (at0 + i) 256 (by omega) (nI_add at0 i), nm_r (e' := cf_cp a_urlPool at0 a_canon fr (i + 1)) (by rw [pk_cl (at0 + i) (nI_add at0 i), pk_cl (fr + i) (nI_add fr i)]; rfl) (nm_r (nI_1 i) W)⟩))
theorem cx_copy_rulePool {post : St2 → Prop} {x y z : Int32} (fr n at0 : Nat) (hx : x = nI fr) (hy : y = nI n) (hz : z = nI at0) (hf : fr + n ≤ 49) (ha : at0 + n ≤ 128) (h : post (f_maxUrls, f_defaultDelay, f_clock, f_bufferLength, f_canonLength, f_canonHost, f_canonHostLength, f_canonPath, f_schemePort, f_partLength, f_urlCount, f_urlChars, f_hostCount, f_ruleCount, f_ruleChars, a_buffer, a_canon, a_part, a_urlPool, a_urlStart, a_urlLength, a_urlPath, a_urlHost, a_urlState, a_urlTime, a_names, a_nameLength, a_hostDelay, a_hostNext, cf_cp a_rulePool at0 a_canon fr n, a_ruleStart, a_ruleLength, a_ruleHost)) : wpX_copyCanon_2 post (f_maxUrls, f_defaultDelay, f_clock, f_bufferLength, f_canonLength, f_canonHost, f_canonHostLength, f_canonPath, f_schemePort, f_partLength, f_urlCount, f_urlChars, f_hostCount, f_ruleCount, f_ruleChars, a_buffer, a_canon, a_part, a_urlPool, a_urlStart, a_urlLength, a_urlPath, a_urlHost, a_urlState, a_urlTime, a_names, a_nameLength, a_hostDelay, a_hostNext, a_rulePool, a_ruleStart, a_ruleLength, a_ruleHost) x y z := by
  subst hx hy hz
  exact cf_fold0 (fun f i s => wX_copyCanon_2_3 post (nI fr) (nI n) (nI at0) f_maxUrls f_defaultDelay f_clock f_bufferLength f_canonLength f_canonHost f_canonHostLength f_canonPath f_schemePort f_partLength f_urlCount f_urlChars f_hostCount f_ruleCount f_ruleChars f (nI i) a_buffer a_canon a_part a_urlPool a_urlStart a_urlLength a_urlPath a_urlHost a_urlState a_urlTime a_names a_nameLength a_hostDelay a_hostNext s a_ruleStart a_ruleLength a_ruleHost) (fun i => cf_cp a_rulePool at0 a_canon fr i) n
    (fun f => pk_le n n (fun _ => h) (fun z => by omega))
    (fun f i hi W => pk_le n i (fun z => by omega) (fun _ => ⟨pk_in (fr + i) 49 (by omega) (nI_add fr i), pk_in (at0 + i) 128 (by omega) (nI_add at0 i), nm_r (e' := cf_cp a_rulePool at0 a_canon fr (i + 1)) (by rw [pk_cl (at0 + i) (nI_add at0 i), pk_cl (fr + i) (nI_add fr i)]; rfl) (nm_r (nI_1 i) W)⟩))
theorem cx_isAdmitted {post : Int32 → Prop} {uc n : Nat} (hU : ∀ u, u < uc → ∃ s m, a_urlStart u = nI s ∧ a_urlLength u = nI m ∧ s + m ≤ 256) (huc : uc ≤ 32) (hn : n ≤ 49) (h1 : (∃ u, u < uc ∧ cf_Dup a_urlPool a_urlStart a_urlLength a_canon n u) → post 1) (h0 : (∀ u, u < uc → ¬ cf_Dup a_urlPool a_urlStart a_urlLength a_canon n u) → post 0) : wpX_isAdmitted post (f_maxUrls, f_defaultDelay, f_clock, f_bufferLength, nI n, f_canonHost, f_canonHostLength, f_canonPath, f_schemePort, f_partLength, nI uc, f_urlChars, f_hostCount, f_ruleCount, f_ruleChars, a_buffer, a_canon, a_part, a_urlPool, a_urlStart, a_urlLength, a_urlPath, a_urlHost, a_urlState, a_urlTime, a_names, a_nameLength, a_hostDelay, a_hostNext, a_rulePool, a_ruleStart, a_ruleLength, a_ruleHost) := by
  refine cf_scan0 (fun f i => wX_isAdmitted_2 post f_maxUrls f_defaultDelay f_clock f_bufferLength (nI n) f_canonHost f_canonHostLength f_canonPath f_schemePort f_partLength (nI uc) f_urlChars f_hostCount f_ruleCount f_ruleChars a_buffer a_canon a_part a_urlPool a_urlStart a_urlLength a_urlPath a_urlHost a_urlState a_urlTime a_names a_nameLength a_hostDelay a_hostNext a_rulePool a_ruleStart a_ruleLength a_ruleHost f (nI i)) (fun u => cf_Dup a_urlPool a_urlStart a_urlLength a_canon n u) uc
    (fun f hall => pk_le uc uc (fun _ => h0 hall) (fun z => by omega)) (fun f i hi hP _ => ?_) (fun f i hi hP W => ?_)
  · obtain ⟨s, m, e1, e2, e3⟩ := hU i hi
    have es : (a_urlStart i).toNatClampNeg = s := by rw [e1]; exact pk_cl s
    have em : m = n := by
      have q := hP.1
      rw [e2, nI_eq (by omega) (by omega)] at q
      exact q
    have hE := hP.2
    rw [es] at hE
    exact pk_le uc i (fun z => by omega) (fun _ => ⟨pk_in i 32 (by omega), br_t (cf_ix i rfl (by omega) hP.1) ⟨pk_in i 32 (by omega), cx_same_urlPool_canon s 0 n (cf_ix i rfl (by omega) e1) rfl rfl (by omega) (by omega) (fun _ => br_f (by decide) (h1 ⟨i, hi, hP⟩)) (fun w => absurd hE w)⟩⟩)
  · obtain ⟨s, m, e1, e2, e3⟩ := hU i hi
    have es : (a_urlStart i).toNatClampNeg = s := by rw [e1]; exact pk_cl s
    refine pk_le uc i (fun z => by omega) (fun _ => ⟨pk_in i 32 (by omega), cf_bi i (by omega) (fun e => ⟨pk_in i 32 (by omega), cx_same_urlPool_canon s 0 n (cf_ix i rfl (by omega) e1) rfl rfl ?_ (by omega) (fun w => ?_) (fun w => br_t rfl (nm_r (nI_1 i) W))⟩) (fun e => nm_r (nI_1 i) W)⟩)
    · rw [e2, nI_eq (by omega) (by omega)] at e
      omega
    · refine absurd ⟨e, ?_⟩ hP
      rw [es]
      exact w
theorem cx_findHost {post : Int32 → Prop} {hc H HL : Nat} (h8 : hc ≤ 8) (h16 : HL ≤ 16) (hH : H + HL ≤ 49) (h : ∀ r, cf_FF (cf_Ph a_names a_nameLength a_canon H HL) hc r → post r) : wpX_findHost post (f_maxUrls, f_defaultDelay, f_clock, f_bufferLength, f_canonLength, nI H, nI HL, f_canonPath, f_schemePort, f_partLength, f_urlCount, f_urlChars, nI hc, f_ruleCount, f_ruleChars, a_buffer, a_canon, a_part, a_urlPool, a_urlStart, a_urlLength, a_urlPath, a_urlHost, a_urlState, a_urlTime, a_names, a_nameLength, a_hostDelay, a_hostNext, a_rulePool, a_ruleStart, a_ruleLength, a_ruleHost) := by
  refine cf_scan0 (fun f i => wX_findHost_2 post f_maxUrls f_defaultDelay f_clock f_bufferLength f_canonLength (nI H) (nI HL) f_canonPath f_schemePort f_partLength f_urlCount f_urlChars (nI hc) f_ruleCount f_ruleChars a_buffer a_canon a_part a_urlPool a_urlStart a_urlLength a_urlPath a_urlHost a_urlState a_urlTime a_names a_nameLength a_hostDelay a_hostNext a_rulePool a_ruleStart a_ruleLength a_ruleHost f (nI i)) (cf_Ph a_names a_nameLength a_canon H HL) hc
    (fun f hall => pk_le hc hc (fun _ => h _ (Or.inr ⟨hall, rfl⟩)) (fun z => by omega)) (fun f i hi hP hl => ?_) (fun f i hi hP W => ?_)
  · exact pk_le hc i (fun z => by omega) (fun _ => ⟨pk_in i 8 (by omega), br_t (cf_ix i rfl (by omega) hP.1) (cx_same_names_canon (i * 16) H HL (pk_mul i 16) rfl rfl (by omega) (by omega) (fun _ => br_f (by decide) (h _ (Or.inl ⟨i, hi, hP, hl, rfl⟩))) (fun w => absurd hP.2 w))⟩)
  · exact pk_le hc i (fun z => by omega) (fun _ => ⟨pk_in i 8 (by omega), cf_bi i (by omega) (fun e => cx_same_names_canon (i * 16) H HL (pk_mul i 16) rfl rfl (by omega) (by omega) (fun w => absurd ⟨e, w⟩ hP) (fun w => br_t rfl (nm_r (nI_1 i) W))) (fun e => nm_r (nI_1 i) W)⟩)
theorem cx_isDisallowed {post : Int32 → Prop} {x : Int32} {rc n P : Nat} (hR : ∀ r, r < rc → ∃ s m, a_ruleStart r = nI s ∧ a_ruleLength r = nI m ∧ s + m ≤ 128) (h8 : rc ≤ 8) (hn : n ≤ 49) (hP0 : P ≤ n) (h1 : (∃ r, r < rc ∧ cf_Pr a_rulePool a_ruleStart a_ruleLength a_ruleHost a_canon P n x r) → post 1) (h0 : (∀ r, r < rc → ¬ cf_Pr a_rulePool a_ruleStart a_ruleLength a_ruleHost a_canon P n x r) → post 0) : wpX_isDisallowed post (f_maxUrls, f_defaultDelay, f_clock, f_bufferLength, nI n, f_canonHost, f_canonHostLength, nI P, f_schemePort, f_partLength, f_urlCount, f_urlChars, f_hostCount, nI rc, f_ruleChars, a_buffer, a_canon, a_part, a_urlPool, a_urlStart, a_urlLength, a_urlPath, a_urlHost, a_urlState, a_urlTime, a_names, a_nameLength, a_hostDelay, a_hostNext, a_rulePool, a_ruleStart, a_ruleLength, a_ruleHost) x := by
  have es : nI n - nI P = nI (n - P) := pk_sub hP0
  refine cf_scan0 (fun f i => wX_isDisallowed_2 post x f_maxUrls f_defaultDelay f_clock f_bufferLength (nI n) f_canonHost f_canonHostLength (nI P) f_schemePort f_partLength f_urlCount f_urlChars f_hostCount (nI rc) f_ruleChars a_buffer a_canon a_part a_urlPool a_urlStart a_urlLength a_urlPath a_urlHost a_urlState a_urlTime a_names a_nameLength a_hostDelay a_hostNext a_rulePool a_ruleStart a_ruleLength a_ruleHost f (nI i)) (cf_Pr a_rulePool a_ruleStart a_ruleLength a_ruleHost a_canon P n x) rc
    (fun f hall => pk_le rc rc (fun _ => h0 hall) (fun z => by omega)) (fun f i hi hP _ => ?_) (fun f i hi hP W => ?_)
  · obtain ⟨s, m, e1, e2, e3⟩ := hR i hi
    have c1 : (a_ruleStart i).toNatClampNeg = s := by rw [e1]; exact pk_cl s
    have c2 : (a_ruleLength i).toNatClampNeg = m := by rw [e2]; exact pk_cl m
    have q2 := hP.2.1
    have q3 := hP.2.2
    rw [c2] at q2
    rw [c1, c2] at q3
    have d2 : a_ruleLength (nI i).toNatClampNeg = nI m := cf_ix i rfl (by omega) e2
    exact pk_le rc i (fun z => by omega) (fun _ => ⟨pk_in i 8 (by omega), br_t (cf_ix i rfl (by omega) hP.1) ⟨pk_in i 8 (by omega), pk_lt (n - P) m (fun z => by omega) (fun _ => ⟨pk_in i 8 (by omega), pk_in i 8 (by omega), cx_same_rulePool_canon s P m (cf_ix i rfl (by omega) e1) rfl d2 (by omega) (by omega) (fun _ => br_f (by decide) (h1 ⟨i, hi, hP⟩)) (fun w => absurd q3 w)⟩) es d2⟩⟩)
  · obtain ⟨s, m, e1, e2, e3⟩ := hR i hi
    have c1 : (a_ruleStart i).toNatClampNeg = s := by rw [e1]; exact pk_cl s
    have c2 : (a_ruleLength i).toNatClampNeg = m := by rw [e2]; exact pk_cl m
    have d2 : a_ruleLength (nI i).toNatClampNeg = nI m := cf_ix i rfl (by omega) e2
    refine pk_le rc i (fun z => by omega) (fun _ => ⟨pk_in i 8 (by omega), cf_bi i (by omega) (fun e => ⟨pk_in i 8 (by omega), pk_lt (n - P) m (fun z => nm_r (nI_1 i) W) (fun z => ⟨pk_in i 8 (by omega), pk_in i 8 (by omega), cx_same_rulePool_canon s P m (cf_ix i rfl (by omega) e1) rfl d2 (by omega) (by omega) (fun w => absurd ⟨e, ?_, ?_⟩ hP) (fun w => br_t rfl (nm_r (nI_1 i) W))⟩) es d2⟩) (fun e => nm_r (nI_1 i) W)⟩)
    · rw [c2]; exact z
    · rw [c1, c2]; exact w
theorem cx_isRule {post : Int32 → Prop} {x : Int32} {rc n P : Nat} (hR : ∀ r, r < rc → ∃ s m, a_ruleStart r = nI s ∧ a_ruleLength r = nI m ∧ s + m ≤ 128) (h8 : rc ≤ 8) (hn : n ≤ 49) (hP0 : P ≤ n) (h1 : (∃ r, r < rc ∧ cf_Pe a_rulePool a_ruleStart a_ruleLength a_ruleHost a_canon P n x r) → post 1) (h0 : (∀ r, r < rc → ¬ cf_Pe a_rulePool a_ruleStart a_ruleLength a_ruleHost a_canon P n x r) → post 0) : wpX_isRule post (f_maxUrls, f_defaultDelay, f_clock, f_bufferLength, nI n, f_canonHost, f_canonHostLength, nI P, f_schemePort, f_partLength, f_urlCount, f_urlChars, f_hostCount, nI rc, f_ruleChars, a_buffer, a_canon, a_part, a_urlPool, a_urlStart, a_urlLength, a_urlPath, a_urlHost, a_urlState, a_urlTime, a_names, a_nameLength, a_hostDelay, a_hostNext, a_rulePool, a_ruleStart, a_ruleLength, a_ruleHost) x := by
  have es : nI n - nI P = nI (n - P) := pk_sub hP0
  refine cf_scan0 (fun f i => wX_isRule_2 post x f_maxUrls f_defaultDelay f_clock f_bufferLength (nI n) f_canonHost f_canonHostLength (nI P) f_schemePort f_partLength f_urlCount f_urlChars f_hostCount (nI rc) f_ruleChars a_buffer a_canon a_part a_urlPool a_urlStart a_urlLength a_urlPath a_urlHost a_urlState a_urlTime a_names a_nameLength a_hostDelay a_hostNext a_rulePool a_ruleStart a_ruleLength a_ruleHost f (nI i)) (cf_Pe a_rulePool a_ruleStart a_ruleLength a_ruleHost a_canon P n x) rc
    (fun f hall => pk_le rc rc (fun _ => h0 hall) (fun z => by omega)) (fun f i hi hP _ => ?_) (fun f i hi hP W => ?_)
  · obtain ⟨s, m, e1, e2, e3⟩ := hR i hi
    have c1 : (a_ruleStart i).toNatClampNeg = s := by rw [e1]; exact pk_cl s
    have c2 : (a_ruleLength i).toNatClampNeg = m := by rw [e2]; exact pk_cl m
    have q2 := hP.2.1
    have q3 := hP.2.2
    rw [c2] at q2
    rw [c1, c2] at q3
    have d2 : a_ruleLength (nI i).toNatClampNeg = nI m := cf_ix i rfl (by omega) e2
    exact pk_le rc i (fun z => by omega) (fun _ => ⟨pk_in i 8 (by omega), br_t (cf_ix i rfl (by omega) hP.1) ⟨pk_in i 8 (by omega), pk_eq m (n - P) (fun _ => ⟨pk_in i 8 (by omega), pk_in i 8 (by omega), cx_same_rulePool_canon s P m (cf_ix i rfl (by omega) e1) rfl d2 (by omega) (by omega) (fun _ => br_f (by decide) (h1 ⟨i, hi, hP⟩)) (fun w => absurd q3 w)⟩) (fun z => absurd q2 z) d2 es⟩⟩)
  · obtain ⟨s, m, e1, e2, e3⟩ := hR i hi
    have c1 : (a_ruleStart i).toNatClampNeg = s := by rw [e1]; exact pk_cl s
    have c2 : (a_ruleLength i).toNatClampNeg = m := by rw [e2]; exact pk_cl m
    have d2 : a_ruleLength (nI i).toNatClampNeg = nI m := cf_ix i rfl (by omega) e2
    refine pk_le rc i (fun z => by omega) (fun _ => ⟨pk_in i 8 (by omega), cf_bi i (by omega) (fun e => ⟨pk_in i 8 (by omega), pk_eq m (n - P) (fun z => ⟨pk_in i 8 (by omega), pk_in i 8 (by omega), cx_same_rulePool_canon s P m (cf_ix i rfl (by omega) e1) rfl d2 (by omega) (by omega) (fun w => absurd ⟨e, ?_, ?_⟩ hP) (fun w => br_t rfl (nm_r (nI_1 i) W))⟩) (fun z => nm_r (nI_1 i) W) d2 es⟩) (fun e => nm_r (nI_1 i) W)⟩)
    · rw [c2]; exact z
    · rw [c1, c2]; exact w
theorem cx_newHost {post : Int32 → St2 → Prop} {hc H HL : Nat} (h8 : hc < 8) (h16 : HL ≤ 16) (hH : H + HL ≤ 49) (h : post (nI hc) (f_maxUrls, f_defaultDelay, f_clock, f_bufferLength, f_canonLength, nI H, nI HL, f_canonPath, f_schemePort, f_partLength, f_urlCount, f_urlChars, nI (hc + 1), f_ruleCount, f_ruleChars, a_buffer, a_canon, a_part, a_urlPool, a_urlStart, a_urlLength, a_urlPath, a_urlHost, a_urlState, a_urlTime, cf_cp a_names (hc * 16) a_canon H HL, upd a_nameLength hc (nI HL), upd a_hostDelay hc f_defaultDelay, upd a_hostNext hc 0, a_rulePool, a_ruleStart, a_ruleLength, a_ruleHost)) : wpX_hostOrNew post (f_maxUrls, f_defaultDelay, f_clock, f_bufferLength, f_canonLength, nI H, nI HL, f_canonPath, f_schemePort, f_partLength, f_urlCount, f_urlChars, nI hc, f_ruleCount, f_ruleChars, a_buffer, a_canon, a_part, a_urlPool, a_urlStart, a_urlLength, a_urlPath, a_urlHost, a_urlState, a_urlTime, a_names, a_nameLength, a_hostDelay, a_hostNext, a_rulePool, a_ruleStart, a_ruleLength, a_ruleHost) (-1) := by
  have ec : (nI hc).toNatClampNeg = hc := pk_cl hc
  exact br_t rfl (pk_lt hc 8 (fun _ => cx_copy_names H HL (hc * 16) rfl rfl (pk_mul hc 16) (by omega) (by omega) ⟨pk_in hc 8 (by omega), nm_r (e' := upd a_nameLength hc (nI HL)) (by rw [ec]) ⟨pk_in hc 8 (by omega), nm_r (e' := upd a_hostDelay hc f_defaultDelay) (by rw [ec]) ⟨pk_in hc 8 (by omega), nm_r (e' := upd a_hostNext hc 0) (by rw [ec]) (nm_r (nI_1 hc) h)⟩⟩⟩) (fun z => by omega))
theorem cx_addUrl {post : Int32 → St2 → Prop} {x : Int32} {uc uch n : Nat} (hu : uc < 32) (hn : n ≤ 49) (h256 : uch + n ≤ 256) (h : post (nI uc) (f_maxUrls, f_defaultDelay, f_clock, f_bufferLength, nI n, f_canonHost, f_canonHostLength, f_canonPath, f_schemePort, f_partLength, nI (uc + 1), nI (uch + n), f_hostCount, f_ruleCount, f_ruleChars, a_buffer, a_canon, a_part, cf_cp a_urlPool uch a_canon 0 n, upd a_urlStart uc (nI uch), upd a_urlLength uc (nI n), upd a_urlPath uc f_canonPath, upd a_urlHost uc x, upd a_urlState uc 1, upd a_urlTime uc (-1), a_names, a_nameLength, a_hostDelay, a_hostNext, a_rulePool, a_ruleStart, a_ruleLength, a_ruleHost)) : wpX_addUrl post (f_maxUrls, f_defaultDelay, f_clock, f_bufferLength, nI n, f_canonHost, f_canonHostLength, f_canonPath, f_schemePort, f_partLength, nI uc, nI uch, f_hostCount, f_ruleCount, f_ruleChars, a_buffer, a_canon, a_part, a_urlPool, a_urlStart, a_urlLength, a_urlPath, a_urlHost, a_urlState, a_urlTime, a_names, a_nameLength, a_hostDelay, a_hostNext, a_rulePool, a_ruleStart, a_ruleLength, a_ruleHost) x := by
  have ec : (nI uc).toNatClampNeg = uc := pk_cl uc
  have vi : vp_in (nI uc) 32 := pk_in uc 32 hu
  unfold wpX_addUrl
  dsimp only
  exact cx_copy_urlPool 0 n uch rfl rfl rfl (by omega) (by omega) ⟨vi, nm_r (e' := upd a_urlStart uc (nI uch)) (by rw [ec]) ⟨vi, nm_r (e' := upd a_urlLength uc (nI n)) (by rw [ec]) ⟨vi, nm_r (e' := upd a_urlPath uc f_canonPath) (by rw [ec]) ⟨vi, nm_r (e' := upd a_urlHost uc x) (by rw [ec]) ⟨vi, nm_r (e' := upd a_urlState uc 1) (by rw [ec]) ⟨vi, nm_r (e' := upd a_urlTime uc (-1)) (by rw [ec]) (nm_r (nI_add uch n) (nm_r (nI_1 uc) h))⟩⟩⟩⟩⟩⟩
theorem cx_addRule {post : Int32 → St2 → Prop} {x : Int32} {rc rch n P : Nat} (hr : rc < 8) (hP : P ≤ n) (hn : n ≤ 49) (h128 : rch + (n - P) ≤ 128) (h : post (nI rc) (f_maxUrls, f_defaultDelay, f_clock, f_bufferLength, nI n, f_canonHost, f_canonHostLength, nI P, f_schemePort, f_partLength, f_urlCount, f_urlChars, f_hostCount, nI (rc + 1), nI (rch + (n - P)), a_buffer, a_canon, a_part, a_urlPool, a_urlStart, a_urlLength, a_urlPath, a_urlHost, a_urlState, a_urlTime, a_names, a_nameLength, a_hostDelay, a_hostNext, cf_cp a_rulePool rch a_canon P (n - P), upd a_ruleStart rc (nI rch), upd a_ruleLength rc (nI (n - P)), upd a_ruleHost rc x)) : wpX_addRule post (f_maxUrls, f_defaultDelay, f_clock, f_bufferLength, nI n, f_canonHost, f_canonHostLength, nI P, f_schemePort, f_partLength, f_urlCount, f_urlChars, f_hostCount, nI rc, nI rch, a_buffer, a_canon, a_part, a_urlPool, a_urlStart, a_urlLength, a_urlPath, a_urlHost, a_urlState, a_urlTime, a_names, a_nameLength, a_hostDelay, a_hostNext, a_rulePool, a_ruleStart, a_ruleLength, a_ruleHost) x := by
  have ec : (nI rc).toNatClampNeg = rc := pk_cl rc
  have vi : vp_in (nI rc) 8 := pk_in rc 8 hr
  refine nm_r (pk_sub hP) ?_
  exact cx_copy_rulePool P (n - P) rch rfl rfl rfl (by omega) (by omega) ⟨vi, nm_r (e' := upd a_ruleStart rc (nI rch)) (by rw [ec]) ⟨vi, nm_r (e' := upd a_ruleLength rc (nI (n - P))) (by rw [ec]) ⟨vi, nm_r (e' := upd a_ruleHost rc x) (by rw [ec]) (nm_r (nI_add rch (n - P)) (nm_r (nI_1 rc) h))⟩⟩⟩
theorem cx_matches {post : Int32 → Prop} {u r s n p rs0 rl0 : Nat} (hu : u < 32) (hr : r < 8) (e1 : a_urlStart u = nI s) (e2 : a_urlLength u = nI n) (e3 : a_urlPath u = nI p) (hp : p ≤ n) (hs : s + n ≤ 256) (e4 : a_ruleStart r = nI rs0) (e5 : a_ruleLength r = nI rl0) (h128 : rs0 + rl0 ≤ 128) (h1 : cf_M a_urlPool a_urlStart a_urlLength a_urlPath a_urlHost a_rulePool a_ruleStart a_ruleLength a_ruleHost r u → post 1) (h0 : ¬ cf_M a_urlPool a_urlStart a_urlLength a_urlPath a_urlHost a_rulePool a_ruleStart a_ruleLength a_ruleHost r u → post 0) : wpX_matches post (f_maxUrls, f_defaultDelay, f_clock, f_bufferLength, f_canonLength, f_canonHost, f_canonHostLength, f_canonPath, f_schemePort, f_partLength, f_urlCount, f_urlChars, f_hostCount, f_ruleCount, f_ruleChars, a_buffer, a_canon, a_part, a_urlPool, a_urlStart, a_urlLength, a_urlPath, a_urlHost, a_urlState, a_urlTime, a_names, a_nameLength, a_hostDelay, a_hostNext, a_rulePool, a_ruleStart, a_ruleLength, a_ruleHost) (nI u) (nI r) := by
  have vi : vp_in (nI u) 32 := pk_in u 32 hu
  have vr : vp_in (nI r) 8 := pk_in r 8 hr
  have d1 : a_urlStart (nI u).toNatClampNeg = nI s := cf_ix u rfl (by omega) e1
  have d2 : a_urlLength (nI u).toNatClampNeg = nI n := cf_ix u rfl (by omega) e2
  have d3 : a_urlPath (nI u).toNatClampNeg = nI p := cf_ix u rfl (by omega) e3
  have d4 : a_ruleStart (nI r).toNatClampNeg = nI rs0 := cf_ix r rfl (by omega) e4
  have d5 : a_ruleLength (nI r).toNatClampNeg = nI rl0 := cf_ix r rfl (by omega) e5
  have c1 : (a_urlStart u).toNatClampNeg = s := by rw [e1]; exact pk_cl s
  have c2 : (a_urlLength u).toNatClampNeg = n := by rw [e2]; exact pk_cl n
  have c3 : (a_urlPath u).toNatClampNeg = p := by rw [e3]; exact pk_cl p
  have c4 : (a_ruleStart r).toNatClampNeg = rs0 := by rw [e4]; exact pk_cl rs0
  have c5 : (a_ruleLength r).toNatClampNeg = rl0 := by rw [e5]; exact pk_cl rl0
  unfold cf_M at h1 h0
  rw [c1, c2, c3, c4, c5] at h1 h0
  have cu : (nI u).toNatClampNeg = u := pk_cl u
  have cr : (nI r).toNatClampNeg = r := pk_cl r
  have eq0 : (a_urlHost (nI u).toNatClampNeg = a_ruleHost (nI r).toNatClampNeg) = (a_urlHost u = a_ruleHost r) := by rw [cu, cr]
  refine ⟨vi, vi, nm_r (e' := nI (s + p)) (by rw [d1, d3, nI_add]) ⟨vi, vi, nm_r (e' := nI (n - p)) (by rw [d2, d3, pk_sub hp]) ⟨vi, vr, ?_⟩⟩⟩
  rw [eq0]
  exact br_c (fun e => ⟨vr, pk_lt (n - p) rl0 (fun z => h0 (fun w => by have := w.2.1; omega)) (fun z => ⟨vr, vr, cx_same_rulePool_urlPool rs0 (s + p) rl0 d4 rfl d5 (by omega) (by omega) (fun w => br_f (by decide) (h1 ⟨e, z, w⟩)) (fun w => br_t rfl (h0 (fun w2 => w w2.2.2)))⟩) rfl d5⟩) (fun e => h0 (fun w => e w.1))
theorem cx_block {post : Int32 → St2 → Prop} {M : Nat → Prop} {uc r : Nat} {x : Int32} (huc : uc ≤ 32) (hM : ∀ us u (p : Int32 → Prop), u < uc → (M u → p 1) → (¬ M u → p 0) → wpX_matches p (f_maxUrls, f_defaultDelay, f_clock, f_bufferLength, f_canonLength, f_canonHost, f_canonHostLength, f_canonPath, f_schemePort, f_partLength, nI uc, f_urlChars, f_hostCount, f_ruleCount, f_ruleChars, a_buffer, a_canon, a_part, a_urlPool, a_urlStart, a_urlLength, a_urlPath, a_urlHost, us, a_urlTime, a_names, a_nameLength, a_hostDelay, a_hostNext, a_rulePool, a_ruleStart, a_ruleLength, a_ruleHost) (nI u) (nI r)) (h : post (nI (cf_bk M a_urlState uc).2) (f_maxUrls, f_defaultDelay, f_clock, f_bufferLength, f_canonLength, f_canonHost, f_canonHostLength, f_canonPath, f_schemePort, f_partLength, nI uc, f_urlChars, f_hostCount, f_ruleCount, f_ruleChars, a_buffer, a_canon, a_part, a_urlPool, a_urlStart, a_urlLength, a_urlPath, a_urlHost, (cf_bk M a_urlState uc).1, a_urlTime, a_names, a_nameLength, a_hostDelay, a_hostNext, a_rulePool, a_ruleStart, a_ruleLength, a_ruleHost)) : wpX_blockMatching post (f_maxUrls, f_defaultDelay, f_clock, f_bufferLength, f_canonLength, f_canonHost, f_canonHostLength, f_canonPath, f_schemePort, f_partLength, nI uc, f_urlChars, f_hostCount, f_ruleCount, f_ruleChars, a_buffer, a_canon, a_part, a_urlPool, a_urlStart, a_urlLength, a_urlPath, a_urlHost, a_urlState, a_urlTime, a_names, a_nameLength, a_hostDelay, a_hostNext, a_rulePool, a_ruleStart, a_ruleLength, a_ruleHost) (nI r) := by
  refine cf_fold0 (fun f i s => wX_blockMatching_4 post (nI r) f_maxUrls f_defaultDelay f_clock f_bufferLength f_canonLength f_canonHost f_canonHostLength f_canonPath f_schemePort f_partLength (nI uc) f_urlChars f_hostCount f_ruleCount f_ruleChars f (nI s.2) (nI i) a_buffer a_canon a_part a_urlPool a_urlStart a_urlLength a_urlPath a_urlHost s.1 a_urlTime a_names a_nameLength a_hostDelay a_hostNext a_rulePool a_ruleStart a_ruleLength a_ruleHost) (fun i => cf_bk M a_urlState i) uc (fun f => pk_le uc uc (fun _ => h) (fun z => by omega)) (fun f i hi W => ?_)
  have bi := (cf_bkI M a_urlState i).1
  refine pk_le uc i (fun z => by omega) (fun _ => ⟨pk_in i 32 (by omega), cf_bi i (by omega) (fun e => hM _ i _ hi (fun m => br_f (by decide) ⟨pk_in i 32 (by omega), ?_⟩) (fun m => br_t rfl (nm_r (nI_1 i) ?_))) (fun e => nm_r (nI_1 i) ?_)⟩)
  · rw [cf_bkT ⟨e, m⟩] at W
    exact nm_r (e' := upd (cf_bk M a_urlState i).1 i 3) (by rw [pk_cl i]) (nm_r (nI_1 _) (nm_r (nI_1 i) W))
  · rw [cf_bkF (fun w => m w.2)] at W
    exact W
  · rw [cf_bkF (fun w => e w.1)] at W
    exact W
end
