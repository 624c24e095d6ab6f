/-! tick, by an invariant of its steps; put of one character; clear -/
theorem cf_least {P : Nat → Prop} : ∀ n, P n → ∃ k, k ≤ n ∧ P k ∧ ∀ j, j < k → ¬ P j := by
  intro n
  induction n using Nat.strongRecOn with
  | ind n ih =>
    intro hn
    by_cases h : ∃ j, j < n ∧ P j
    · obtain ⟨j, hj, pj⟩ := h
      obtain ⟨k, hk, pk, lk⟩ := ih j hj pj
      exact ⟨k, by omega, pk, lk⟩
    · exact ⟨n, Nat.le_refl _, hn, fun j hj pj => h ⟨j, hj, pj⟩⟩
def cf_PR (x : Int32) : Prop := ¬ x < 33 ∧ ¬ 126 < x
theorem cf_PRn {x : Int32} (h : cf_PR x) : ∃ m, m ≤ 126 ∧ x = nI m :=
  nI_of2 (M := 126) (n := 126) rfl (fun z => h.1 (Int32.lt_trans z (by decide))) (Int32.not_lt.mp h.2)
section
variable {f_maxUrls f_defaultDelay f_clock f_bufferLength f_canonLength f_canonHost f_canonHostLength f_canonPath f_schemePort f_partLength f_urlCount f_urlChars f_hostCount f_ruleCount f_ruleChars : Int32} {a_buffer a_canon a_part a_urlPool a_urlStart a_urlLength a_urlPath a_urlHost a_urlState a_urlTime a_names a_nameLength a_hostDelay a_hostNext a_rulePool a_ruleStart a_ruleLength a_ruleHost : Nat → Int32}
theorem cx_tickLoop {post : Int32 → St2 → Prop} {m hc uc : Nat} {Inv : Nat → Int32 → Int32 → (Nat → Int32) → (Nat → Int32) → (Nat → Int32) → Prop} (hm : m ≤ 64) (h8 : hc ≤ 8) (huc : uc ≤ 32)
    (h0 : ∀ i k ck us ut nx, i < m → Inv i k ck us ut nx → cf_ch (cf_Rd ck nx a_urlHost us uc) nx hc = -1 → Inv (i + 1) k (ck + 1) us ut nx)
    (h1 : ∀ i k ck us ut nx b a, i < m → Inv i k ck us ut nx → b < hc → cf_Rd ck nx a_urlHost us uc b → cf_ch (cf_Rd ck nx a_urlHost us uc) nx hc = nI b → a < uc → (a_urlHost a = nI b ∧ us a = 1) → (∀ j, j < a → ¬ (a_urlHost j = nI b ∧ us j = 1)) → Inv (i + 1) (k + 1) (ck + 1) (upd us a 2) (upd ut a ck) (upd nx b (ck + a_hostDelay b)))
    (he : ∀ k ck us ut nx, Inv m k ck us ut nx → post k (f_maxUrls, f_defaultDelay, ck, f_bufferLength, f_canonLength, f_canonHost, f_canonHostLength, f_canonPath, f_schemePort, f_partLength, nI uc, f_urlChars, nI hc, f_ruleCount, f_ruleChars, a_buffer, a_canon, a_part, a_urlPool, a_urlStart, a_urlLength, a_urlPath, a_urlHost, us, ut, a_names, a_nameLength, a_hostDelay, nx, a_rulePool, a_ruleStart, a_ruleLength, a_ruleHost)) :
    ∀ d i f k ck us ut nx, i + d = m → d < f → Inv i k ck us ut nx → wX_tick_13 post (nI m) f k (nI i) f_maxUrls f_defaultDelay ck f_bufferLength f_canonLength f_canonHost f_canonHostLength f_canonPath f_schemePort f_partLength (nI uc) f_urlChars (nI hc) f_ruleCount f_ruleChars a_buffer a_canon a_part a_urlPool a_urlStart a_urlLength a_urlPath a_urlHost us ut a_names a_nameLength a_hostDelay nx a_rulePool a_ruleStart a_ruleLength a_ruleHost := by
  intro d
  induction d with
  | zero =>
    intro i f k ck us ut nx hi hf I
    have e : i = m := by omega
    subst e
    cases f with
    | zero => omega
    | succ f => exact pk_le i i (fun _ => he k ck us ut nx I) (fun z => by omega)
  | succ d ih =>
    intro i f k ck us ut nx hi hf I
    cases f with
    | zero => omega
    | succ f =>
      refine pk_le m i (fun z => by omega) (fun _ => cx_chooseHost h8 huc ?_)
      rcases cf_chI (cf_Rd ck nx a_urlHost us uc) nx hc with eb | ⟨b, hb, rb, eb⟩
      · have I' := h0 i k ck us ut nx (by omega) I eb
        rw [eb]
        exact br_t rfl (nm_e (nm_r (nI_1 i) (ih (i + 1) f k (ck + 1) us ut nx (by omega) (by omega) I')))
      · have q := rb.2
        have least : ∃ a, a < uc ∧ (a_urlHost a = nI b ∧ us a = 1) ∧ ∀ j, j < a → ¬ (a_urlHost j = nI b ∧ us j = 1) := by
          obtain ⟨u0, hu0, pu0⟩ := q
          obtain ⟨a, ha0, pa, la⟩ := cf_least (P := fun u => a_urlHost u = nI b ∧ us u = 1) u0 pu0
          exact ⟨a, by omega, pa, la⟩
        rw [eb]
        exact Exists.elim least (fun a ha => br_f (cf_m1 (by omega)) (cx_dispatch huc (by omega) ha.1 ha.2.1 ha.2.2 (nm_e (nm_e (nm_r (nI_1 i) (ih (i + 1) f (k + 1) (ck + 1) _ _ _ (by omega) (by omega) (h1 i k ck us ut nx b a (by omega) I hb rb eb ha.1 ha.2.1 ha.2.2)))))))
theorem cx_isPr {post : Int32 → Prop} {x : Int32} (h1 : cf_PR x → post 1) (h0 : ¬ cf_PR x → post 0) : wpX_isPrintable post () x :=
  br_c (fun z => h0 (fun w => w.1 z)) (fun z => br_c (fun z2 => h0 (fun w => w.2 z2)) (fun z2 => h1 ⟨z, z2⟩))
theorem cx_put1 {post : Int32 → St2 → Prop} {L : Nat} {x : Int32} (hL : L ≤ 48) (h1 : cf_PR x → L + 1 ≤ 48 → post 1 (f_maxUrls, f_defaultDelay, f_clock, nI (L + 1), f_canonLength, f_canonHost, f_canonHostLength, f_canonPath, f_schemePort, f_partLength, f_urlCount, f_urlChars, f_hostCount, f_ruleCount, f_ruleChars, upd a_buffer L x, a_canon, a_part, a_urlPool, a_urlStart, a_urlLength, a_urlPath, a_urlHost, a_urlState, a_urlTime, a_names, a_nameLength, a_hostDelay, a_hostNext, a_rulePool, a_ruleStart, a_ruleLength, a_ruleHost)) (h2 : cf_PR x → ¬ L + 1 ≤ 48 → post (-1) (f_maxUrls, f_defaultDelay, f_clock, nI L, f_canonLength, f_canonHost, f_canonHostLength, f_canonPath, f_schemePort, f_partLength, f_urlCount, f_urlChars, f_hostCount, f_ruleCount, f_ruleChars, a_buffer, a_canon, a_part, a_urlPool, a_urlStart, a_urlLength, a_urlPath, a_urlHost, a_urlState, a_urlTime, a_names, a_nameLength, a_hostDelay, a_hostNext, a_rulePool, a_ruleStart, a_ruleLength, a_ruleHost)) (h0 : ¬ cf_PR x → post 0 (f_maxUrls, f_defaultDelay, f_clock, nI L, f_canonLength, f_canonHost, f_canonHostLength, f_canonPath, f_schemePort, f_partLength, f_urlCount, f_urlChars, f_hostCount, f_ruleCount, f_ruleChars, a_buffer, a_canon, a_part, a_urlPool, a_urlStart, a_urlLength, a_urlPath, a_urlHost, a_urlState, a_urlTime, a_names, a_nameLength, a_hostDelay, a_hostNext, a_rulePool, a_ruleStart, a_ruleLength, a_ruleHost)) : wpX_put post (f_maxUrls, f_defaultDelay, f_clock, nI L, f_canonLength, f_canonHost, f_canonHostLength, f_canonPath, f_schemePort, f_partLength, f_urlCount, f_urlChars, f_hostCount, f_ruleCount, f_ruleChars, a_buffer, a_canon, a_part, a_urlPool, a_urlStart, a_urlLength, a_urlPath, a_urlHost, a_urlState, a_urlTime, a_names, a_nameLength, a_hostDelay, a_hostNext, a_rulePool, a_ruleStart, a_ruleLength, a_ruleHost) x 0 0 0 := by
  unfold wpX_put wpX_leadingPrintable
  dsimp only
  refine cx_isPr (fun p => br_f (by decide) (cx_isPr (fun w => absurd w (fun w => w.1 (by decide))) (fun _ => br_t rfl ?_))) (fun p => br_t rfl ?_)
  · refine pk_le (L + 1) 48 (fun z => br_f (by decide) ⟨pk_in L 48 (by omega), nm_r (e' := upd a_buffer L x) (by rw [pk_cl L]) (br_t (by decide) (br_t (by decide) (br_t (by decide) (nm_r (nI_add L 1) (h1 p z)))))⟩) (fun z => h2 p (by omega)) (nI_add L 1)
  · refine pk_le (L + 0) 48 (fun z => br_t (by decide) (br_t (by decide) (br_t (by decide) (br_t (by decide) (nm_r (nI_add L 0) (h0 p)))))) (fun z => by omega) (nI_add L 0)
end
