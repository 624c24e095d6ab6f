/-! the readers, at the places where the law asks (made by mk34.py) -/
section
variable {f_maxUrls f_defaultDelay f_clock f_bufferLength f_canonLength f_canonHost f_canonHostLength f_canonPath f_schemePort f_partLength f_urlCount f_urlChars f_hostCount f_ruleCount f_ruleChars : Int32} {a_buffer a_canon a_part a_urlPool a_urlStart a_urlLength a_urlPath a_urlHost a_urlState a_urlTime a_names a_nameLength a_hostDelay a_hostNext a_rulePool a_ruleStart a_ruleLength a_ruleHost : Nat → Int32}
variable {uc hc rc : Nat}
theorem cx_cnt0 {post : Int32 → Prop} (h : post f_urlCount) : wpX_count post (f_maxUrls, f_defaultDelay, f_clock, f_bufferLength, f_canonLength, f_canonHost, f_canonHostLength, f_canonPath, f_schemePort, f_partLength, f_urlCount, f_urlChars, f_hostCount, f_ruleCount, f_ruleChars, a_buffer, a_canon, a_part, a_urlPool, a_urlStart, a_urlLength, a_urlPath, a_urlHost, a_urlState, a_urlTime, a_names, a_nameLength, a_hostDelay, a_hostNext, a_rulePool, a_ruleStart, a_ruleLength, a_ruleHost) 0 :=
  br_f (by decide) (br_f (by decide) (br_t rfl (h)))
theorem cx_cnt1 {post : Int32 → Prop} (h : post f_hostCount) : wpX_count post (f_maxUrls, f_defaultDelay, f_clock, f_bufferLength, f_canonLength, f_canonHost, f_canonHostLength, f_canonPath, f_schemePort, f_partLength, f_urlCount, f_urlChars, f_hostCount, f_ruleCount, f_ruleChars, a_buffer, a_canon, a_part, a_urlPool, a_urlStart, a_urlLength, a_urlPath, a_urlHost, a_urlState, a_urlTime, a_names, a_nameLength, a_hostDelay, a_hostNext, a_rulePool, a_ruleStart, a_ruleLength, a_ruleHost) 1 :=
  br_f (by decide) (br_f (by decide) (br_f (by decide) (br_t rfl (h))))
theorem cx_cnt2 {post : Int32 → Prop} (h : post f_ruleCount) : wpX_count post (f_maxUrls, f_defaultDelay, f_clock, f_bufferLength, f_canonLength, f_canonHost, f_canonHostLength, f_canonPath, f_schemePort, f_partLength, f_urlCount, f_urlChars, f_hostCount, f_ruleCount, f_ruleChars, a_buffer, a_canon, a_part, a_urlPool, a_urlStart, a_urlLength, a_urlPath, a_urlHost, a_urlState, a_urlTime, a_names, a_nameLength, a_hostDelay, a_hostNext, a_rulePool, a_ruleStart, a_ruleLength, a_ruleHost) 2 :=
  br_f (by decide) (br_f (by decide) (br_f (by decide) (br_f (by decide) (br_t rfl (h)))))
theorem cx_cnt3 {post : Int32 → Prop} (h : post f_clock) : wpX_count post (f_maxUrls, f_defaultDelay, f_clock, f_bufferLength, f_canonLength, f_canonHost, f_canonHostLength, f_canonPath, f_schemePort, f_partLength, f_urlCount, f_urlChars, f_hostCount, f_ruleCount, f_ruleChars, a_buffer, a_canon, a_part, a_urlPool, a_urlStart, a_urlLength, a_urlPath, a_urlHost, a_urlState, a_urlTime, a_names, a_nameLength, a_hostDelay, a_hostNext, a_rulePool, a_ruleStart, a_ruleLength, a_ruleHost) 3 :=
  br_f (by decide) (br_f (by decide) (br_f (by decide) (br_f (by decide) (br_f (by decide) (br_t rfl (h))))))
theorem cx_cnt4 {post : Int32 → Prop} (huc : uc ≤ 32) (h : post (nI (cf_ct (fun u => a_urlState u = 1) uc))) : wpX_count post (f_maxUrls, f_defaultDelay, f_clock, f_bufferLength, f_canonLength, f_canonHost, f_canonHostLength, f_canonPath, f_schemePort, f_partLength, nI uc, f_urlChars, f_hostCount, f_ruleCount, f_ruleChars, a_buffer, a_canon, a_part, a_urlPool, a_urlStart, a_urlLength, a_urlPath, a_urlHost, a_urlState, a_urlTime, a_names, a_nameLength, a_hostDelay, a_hostNext, a_rulePool, a_ruleStart, a_ruleLength, a_ruleHost) 4 :=
  br_f (by decide) (br_f (by decide) (br_f (by decide) (br_f (by decide) (br_f (by decide) (br_f (by decide) (br_t rfl (cx_urlsIn huc h)))))))
theorem cx_cnt5 {post : Int32 → Prop} (huc : uc ≤ 32) (h : post (nI (cf_ct (fun u => a_urlState u = 2) uc))) : wpX_count post (f_maxUrls, f_defaultDelay, f_clock, f_bufferLength, f_canonLength, f_canonHost, f_canonHostLength, f_canonPath, f_schemePort, f_partLength, nI uc, f_urlChars, f_hostCount, f_ruleCount, f_ruleChars, a_buffer, a_canon, a_part, a_urlPool, a_urlStart, a_urlLength, a_urlPath, a_urlHost, a_urlState, a_urlTime, a_names, a_nameLength, a_hostDelay, a_hostNext, a_rulePool, a_ruleStart, a_ruleLength, a_ruleHost) 5 :=
  br_f (by decide) (br_f (by decide) (br_f (by decide) (br_f (by decide) (br_f (by decide) (br_f (by decide) (br_f (by decide) (br_t rfl (cx_urlsIn huc h))))))))
theorem cx_cnt6 {post : Int32 → Prop} (huc : uc ≤ 32) (h : post (nI (cf_ct (fun u => a_urlState u = 3) uc))) : wpX_count post (f_maxUrls, f_defaultDelay, f_clock, f_bufferLength, f_canonLength, f_canonHost, f_canonHostLength, f_canonPath, f_schemePort, f_partLength, nI uc, f_urlChars, f_hostCount, f_ruleCount, f_ruleChars, a_buffer, a_canon, a_part, a_urlPool, a_urlStart, a_urlLength, a_urlPath, a_urlHost, a_urlState, a_urlTime, a_names, a_nameLength, a_hostDelay, a_hostNext, a_rulePool, a_ruleStart, a_ruleLength, a_ruleHost) 6 :=
  br_f (by decide) (br_f (by decide) (br_f (by decide) (br_f (by decide) (br_f (by decide) (br_f (by decide) (br_f (by decide) (br_f (by decide) (br_t rfl (cx_urlsIn huc h)))))))))
theorem cx_cnt7 {post : Int32 → Prop} (h : post f_urlChars) : wpX_count post (f_maxUrls, f_defaultDelay, f_clock, f_bufferLength, f_canonLength, f_canonHost, f_canonHostLength, f_canonPath, f_schemePort, f_partLength, f_urlCount, f_urlChars, f_hostCount, f_ruleCount, f_ruleChars, a_buffer, a_canon, a_part, a_urlPool, a_urlStart, a_urlLength, a_urlPath, a_urlHost, a_urlState, a_urlTime, a_names, a_nameLength, a_hostDelay, a_hostNext, a_rulePool, a_ruleStart, a_ruleLength, a_ruleHost) 7 :=
  br_f (by decide) (br_f (by decide) (br_f (by decide) (br_f (by decide) (br_f (by decide) (br_f (by decide) (br_f (by decide) (br_f (by decide) (br_f (by decide) (br_t rfl (h))))))))))
theorem cx_l31 {post : Int32 → Prop} {j n : Nat} (hj : j < n) (hn : n < 2 ^ 31) (h : post 1) : wX_isListed_31 post (nI j) (nI n) f_maxUrls f_defaultDelay f_clock f_bufferLength f_canonLength f_canonHost f_canonHostLength f_canonPath f_schemePort f_partLength f_urlCount f_urlChars f_hostCount f_ruleCount f_ruleChars a_buffer a_canon a_part a_urlPool a_urlStart a_urlLength a_urlPath a_urlHost a_urlState a_urlTime a_names a_nameLength a_hostDelay a_hostNext a_rulePool a_ruleStart a_ruleLength a_ruleHost :=
  br_f (nI_pos (by omega)) (br_f (nI_ge hj hn) h)
theorem cx_list0 {post : Int32 → Prop} {j : Nat} (hj : j < uc) (hn : uc ≤ 32) (h : post 1) : wpX_isListed post (f_maxUrls, f_defaultDelay, f_clock, f_bufferLength, f_canonLength, f_canonHost, f_canonHostLength, f_canonPath, f_schemePort, f_partLength, nI uc, f_urlChars, f_hostCount, f_ruleCount, f_ruleChars, a_buffer, a_canon, a_part, a_urlPool, a_urlStart, a_urlLength, a_urlPath, a_urlHost, a_urlState, a_urlTime, a_names, a_nameLength, a_hostDelay, a_hostNext, a_rulePool, a_ruleStart, a_ruleLength, a_ruleHost) 0 (nI j) :=
  br_t rfl (br_f (by decide) (br_f (by decide) (cx_l31 hj (by omega) h)))
theorem cx_list1 {post : Int32 → Prop} {j : Nat} (hj : j < hc) (hn : hc ≤ 8) (h : post 1) : wpX_isListed post (f_maxUrls, f_defaultDelay, f_clock, f_bufferLength, f_canonLength, f_canonHost, f_canonHostLength, f_canonPath, f_schemePort, f_partLength, f_urlCount, f_urlChars, nI hc, f_ruleCount, f_ruleChars, a_buffer, a_canon, a_part, a_urlPool, a_urlStart, a_urlLength, a_urlPath, a_urlHost, a_urlState, a_urlTime, a_names, a_nameLength, a_hostDelay, a_hostNext, a_rulePool, a_ruleStart, a_ruleLength, a_ruleHost) 1 (nI j) :=
  br_f (by decide) (br_t rfl (br_f (by decide) (cx_l31 hj (by omega) h)))
theorem cx_list2 {post : Int32 → Prop} {j : Nat} (hj : j < rc) (hn : rc ≤ 8) (h : post 1) : wpX_isListed post (f_maxUrls, f_defaultDelay, f_clock, f_bufferLength, f_canonLength, f_canonHost, f_canonHostLength, f_canonPath, f_schemePort, f_partLength, f_urlCount, f_urlChars, f_hostCount, nI rc, f_ruleChars, a_buffer, a_canon, a_part, a_urlPool, a_urlStart, a_urlLength, a_urlPath, a_urlHost, a_urlState, a_urlTime, a_names, a_nameLength, a_hostDelay, a_hostNext, a_rulePool, a_ruleStart, a_ruleLength, a_ruleHost) 2 (nI j) :=
  br_f (by decide) (br_f (by decide) (br_t rfl (cx_l31 hj (by omega) h)))
theorem cx_tlU {post : Int32 → Prop} {j : Nat} (hj : j < uc) (hn : uc ≤ 32) (h : post (a_urlLength j)) : wpX_textLength post (f_maxUrls, f_defaultDelay, f_clock, f_bufferLength, f_canonLength, f_canonHost, f_canonHostLength, f_canonPath, f_schemePort, f_partLength, nI uc, f_urlChars, f_hostCount, f_ruleCount, f_ruleChars, a_buffer, a_canon, a_part, a_urlPool, a_urlStart, a_urlLength, a_urlPath, a_urlHost, a_urlState, a_urlTime, a_names, a_nameLength, a_hostDelay, a_hostNext, a_rulePool, a_ruleStart, a_ruleLength, a_ruleHost) 0 (nI j) := by
  refine br_f (by decide) (cx_list0 hj hn (br_f (by decide) (br_t rfl ⟨pk_in j 32 (by omega), ?_⟩)))
  rw [pk_cl j]
  exact h
theorem cx_tlR {post : Int32 → Prop} {j : Nat} (hj : j < rc) (hn : rc ≤ 8) (h : post (a_ruleLength j)) : wpX_textLength post (f_maxUrls, f_defaultDelay, f_clock, f_bufferLength, f_canonLength, f_canonHost, f_canonHostLength, f_canonPath, f_schemePort, f_partLength, f_urlCount, f_urlChars, f_hostCount, nI rc, f_ruleChars, a_buffer, a_canon, a_part, a_urlPool, a_urlStart, a_urlLength, a_urlPath, a_urlHost, a_urlState, a_urlTime, a_names, a_nameLength, a_hostDelay, a_hostNext, a_rulePool, a_ruleStart, a_ruleLength, a_ruleHost) 2 (nI j) := by
  refine br_f (by decide) (cx_list2 hj hn (br_f (by decide) (br_f (by decide) (br_f (by decide) ⟨pk_in j 8 (by omega), ?_⟩))))
  rw [pk_cl j]
  exact h
theorem cx_tlB {post : Int32 → Prop} {x : Int32} (h : post f_bufferLength) : wpX_textLength post (f_maxUrls, f_defaultDelay, f_clock, f_bufferLength, f_canonLength, f_canonHost, f_canonHostLength, f_canonPath, f_schemePort, f_partLength, f_urlCount, f_urlChars, f_hostCount, f_ruleCount, f_ruleChars, a_buffer, a_canon, a_part, a_urlPool, a_urlStart, a_urlLength, a_urlPath, a_urlHost, a_urlState, a_urlTime, a_names, a_nameLength, a_hostDelay, a_hostNext, a_rulePool, a_ruleStart, a_ruleLength, a_ruleHost) 3 x := br_t rfl h
theorem cx_tcU {post : Int32 → Prop} {j s m i : Nat} (hj : j < uc) (hn : uc ≤ 32) (e1 : a_urlStart j = nI s) (e2 : a_urlLength j = nI m) (hs : s + m ≤ 256) (hi : i < m) (h : post (a_urlPool (s + i))) : wpX_textChar post (f_maxUrls, f_defaultDelay, f_clock, f_bufferLength, f_canonLength, f_canonHost, f_canonHostLength, f_canonPath, f_schemePort, f_partLength, nI uc, f_urlChars, f_hostCount, f_ruleCount, f_ruleChars, a_buffer, a_canon, a_part, a_urlPool, a_urlStart, a_urlLength, a_urlPath, a_urlHost, a_urlState, a_urlTime, a_names, a_nameLength, a_hostDelay, a_hostNext, a_rulePool, a_ruleStart, a_ruleLength, a_ruleHost) 0 (nI j) (nI i) := by
  unfold wpX_textChar
  dsimp only
  have d : a_urlStart (nI j).toNatClampNeg + nI i = nI (s + i) := by rw [cf_ix j rfl (by omega) e1, nI_add]
  refine cx_tlU hj hn (br_f (nI_pos (by omega)) (pk_lt i m (fun _ => br_f (by decide) (br_t rfl ⟨pk_in j 32 (by omega), pk_in (s + i) 256 (by omega) d, ?_⟩)) (fun z => by omega) rfl e2))
  rw [pk_cl (s + i) d]
  exact h
theorem cx_tcR {post : Int32 → Prop} {j s m i : Nat} (hj : j < rc) (hn : rc ≤ 8) (e1 : a_ruleStart j = nI s) (e2 : a_ruleLength j = nI m) (hs : s + m ≤ 128) (hi : i < m) (h : post (a_rulePool (s + i))) : wpX_textChar post (f_maxUrls, f_defaultDelay, f_clock, f_bufferLength, f_canonLength, f_canonHost, f_canonHostLength, f_canonPath, f_schemePort, f_partLength, f_urlCount, f_urlChars, f_hostCount, nI rc, f_ruleChars, a_buffer, a_canon, a_part, a_urlPool, a_urlStart, a_urlLength, a_urlPath, a_urlHost, a_urlState, a_urlTime, a_names, a_nameLength, a_hostDelay, a_hostNext, a_rulePool, a_ruleStart, a_ruleLength, a_ruleHost) 2 (nI j) (nI i) := by
  unfold wpX_textChar
  dsimp only
  have d : a_ruleStart (nI j).toNatClampNeg + nI i = nI (s + i) := by rw [cf_ix j rfl (by omega) e1, nI_add]
  refine cx_tlR hj hn (br_f (nI_pos (by omega)) (pk_lt i m (fun _ => br_f (by decide) (br_f (by decide) (br_f (by decide) ⟨pk_in j 8 (by omega), pk_in (s + i) 128 (by omega) d, ?_⟩))) (fun z => by omega) rfl e2))
  rw [pk_cl (s + i) d]
  exact h
theorem cx_iU0 {post : Int32 → Prop} {j : Nat} (hj : j < uc) (hn : uc ≤ 32) (h : post (a_urlState j)) : wpX_info post (f_maxUrls, f_defaultDelay, f_clock, f_bufferLength, f_canonLength, f_canonHost, f_canonHostLength, f_canonPath, f_schemePort, f_partLength, nI uc, f_urlChars, f_hostCount, f_ruleCount, f_ruleChars, a_buffer, a_canon, a_part, a_urlPool, a_urlStart, a_urlLength, a_urlPath, a_urlHost, a_urlState, a_urlTime, a_names, a_nameLength, a_hostDelay, a_hostNext, a_rulePool, a_ruleStart, a_ruleLength, a_ruleHost) 0 (nI j) 0 := by
  unfold wpX_info
  dsimp only
  refine cx_list0 hj hn (br_f (by decide) (br_t rfl (br_f (by decide) (br_f (by decide) (br_t rfl (⟨pk_in j 32 (by omega), ?_⟩))))))
  rw [pk_cl j]
  exact h
theorem cx_iU1 {post : Int32 → Prop} {j : Nat} (hj : j < uc) (hn : uc ≤ 32) (h : post (a_urlHost j)) : wpX_info post (f_maxUrls, f_defaultDelay, f_clock, f_bufferLength, f_canonLength, f_canonHost, f_canonHostLength, f_canonPath, f_schemePort, f_partLength, nI uc, f_urlChars, f_hostCount, f_ruleCount, f_ruleChars, a_buffer, a_canon, a_part, a_urlPool, a_urlStart, a_urlLength, a_urlPath, a_urlHost, a_urlState, a_urlTime, a_names, a_nameLength, a_hostDelay, a_hostNext, a_rulePool, a_ruleStart, a_ruleLength, a_ruleHost) 0 (nI j) 1 := by
  unfold wpX_info
  dsimp only
  refine cx_list0 hj hn (br_f (by decide) (br_t rfl (br_f (by decide) (br_f (by decide) (br_f (by decide) (br_t rfl (⟨pk_in j 32 (by omega), ?_⟩)))))))
  rw [pk_cl j]
  exact h
theorem cx_iU2 {post : Int32 → Prop} {j : Nat} (hj : j < uc) (hn : uc ≤ 32) (h : post (a_urlTime j)) : wpX_info post (f_maxUrls, f_defaultDelay, f_clock, f_bufferLength, f_canonLength, f_canonHost, f_canonHostLength, f_canonPath, f_schemePort, f_partLength, nI uc, f_urlChars, f_hostCount, f_ruleCount, f_ruleChars, a_buffer, a_canon, a_part, a_urlPool, a_urlStart, a_urlLength, a_urlPath, a_urlHost, a_urlState, a_urlTime, a_names, a_nameLength, a_hostDelay, a_hostNext, a_rulePool, a_ruleStart, a_ruleLength, a_ruleHost) 0 (nI j) 2 := by
  unfold wpX_info
  dsimp only
  refine cx_list0 hj hn (br_f (by decide) (br_t rfl (br_f (by decide) (br_f (by decide) (br_f (by decide) (br_f (by decide) (br_t rfl (⟨pk_in j 32 (by omega), ?_⟩))))))))
  rw [pk_cl j]
  exact h
theorem cx_iH3 {post : Int32 → Prop} {j : Nat} (hj : j < hc) (hn : hc ≤ 8) (huc : uc ≤ 32) (h : post (nI (cf_ct (fun u => a_urlHost u = nI j ∧ a_urlState u = 1) uc))) : wpX_info post (f_maxUrls, f_defaultDelay, f_clock, f_bufferLength, f_canonLength, f_canonHost, f_canonHostLength, f_canonPath, f_schemePort, f_partLength, nI uc, f_urlChars, nI hc, f_ruleCount, f_ruleChars, a_buffer, a_canon, a_part, a_urlPool, a_urlStart, a_urlLength, a_urlPath, a_urlHost, a_urlState, a_urlTime, a_names, a_nameLength, a_hostDelay, a_hostNext, a_rulePool, a_ruleStart, a_ruleLength, a_ruleHost) 1 (nI j) 3 := by
  unfold wpX_info
  dsimp only
  exact cx_list1 hj hn (br_f (by decide) (br_f (by decide) (br_t rfl (br_f (by decide) (br_f (by decide) (br_t rfl (cx_urlsOf huc h)))))))
theorem cx_iH4 {post : Int32 → Prop} {j : Nat} (hj : j < hc) (hn : hc ≤ 8) (h : post (a_hostDelay j)) : wpX_info post (f_maxUrls, f_defaultDelay, f_clock, f_bufferLength, f_canonLength, f_canonHost, f_canonHostLength, f_canonPath, f_schemePort, f_partLength, f_urlCount, f_urlChars, nI hc, f_ruleCount, f_ruleChars, a_buffer, a_canon, a_part, a_urlPool, a_urlStart, a_urlLength, a_urlPath, a_urlHost, a_urlState, a_urlTime, a_names, a_nameLength, a_hostDelay, a_hostNext, a_rulePool, a_ruleStart, a_ruleLength, a_ruleHost) 1 (nI j) 4 := by
  unfold wpX_info
  dsimp only
  refine cx_list1 hj hn (br_f (by decide) (br_f (by decide) (br_t rfl (br_f (by decide) (br_f (by decide) (br_f (by decide) (br_t rfl (⟨pk_in j 8 (by omega), ?_⟩))))))))
  rw [pk_cl j]
  exact h
theorem cx_iH5 {post : Int32 → Prop} {j : Nat} (hj : j < hc) (hn : hc ≤ 8) (h : post (a_hostNext j)) : wpX_info post (f_maxUrls, f_defaultDelay, f_clock, f_bufferLength, f_canonLength, f_canonHost, f_canonHostLength, f_canonPath, f_schemePort, f_partLength, f_urlCount, f_urlChars, nI hc, f_ruleCount, f_ruleChars, a_buffer, a_canon, a_part, a_urlPool, a_urlStart, a_urlLength, a_urlPath, a_urlHost, a_urlState, a_urlTime, a_names, a_nameLength, a_hostDelay, a_hostNext, a_rulePool, a_ruleStart, a_ruleLength, a_ruleHost) 1 (nI j) 5 := by
  unfold wpX_info
  dsimp only
  refine cx_list1 hj hn (br_f (by decide) (br_f (by decide) (br_t rfl (br_f (by decide) (br_f (by decide) (br_f (by decide) (br_f (by decide) (br_t rfl (⟨pk_in j 8 (by omega), ?_⟩)))))))))
  rw [pk_cl j]
  exact h
theorem cx_iH6 {post : Int32 → Prop} {j : Nat} (hj : j < hc) (hn : hc ≤ 8) (huc : uc ≤ 32) (h : post (nI (cf_ct (fun u => a_urlHost u = nI j ∧ a_urlState u = 2) uc))) : wpX_info post (f_maxUrls, f_defaultDelay, f_clock, f_bufferLength, f_canonLength, f_canonHost, f_canonHostLength, f_canonPath, f_schemePort, f_partLength, nI uc, f_urlChars, nI hc, f_ruleCount, f_ruleChars, a_buffer, a_canon, a_part, a_urlPool, a_urlStart, a_urlLength, a_urlPath, a_urlHost, a_urlState, a_urlTime, a_names, a_nameLength, a_hostDelay, a_hostNext, a_rulePool, a_ruleStart, a_ruleLength, a_ruleHost) 1 (nI j) 6 := by
  unfold wpX_info
  dsimp only
  exact cx_list1 hj hn (br_f (by decide) (br_f (by decide) (br_t rfl (br_f (by decide) (br_f (by decide) (br_f (by decide) (br_f (by decide) (br_f (by decide) (br_t rfl (cx_urlsOf huc h))))))))))
theorem cx_iR {post : Int32 → Prop} {j : Nat} (hj : j < rc) (hn : rc ≤ 8) (h : post (a_ruleHost j)) : wpX_info post (f_maxUrls, f_defaultDelay, f_clock, f_bufferLength, f_canonLength, f_canonHost, f_canonHostLength, f_canonPath, f_schemePort, f_partLength, f_urlCount, f_urlChars, f_hostCount, nI rc, f_ruleChars, a_buffer, a_canon, a_part, a_urlPool, a_urlStart, a_urlLength, a_urlPath, a_urlHost, a_urlState, a_urlTime, a_names, a_nameLength, a_hostDelay, a_hostNext, a_rulePool, a_ruleStart, a_ruleLength, a_ruleHost) 2 (nI j) 1 := by
  unfold wpX_info
  dsimp only
  refine cx_list2 hj hn (br_f (by decide) (br_f (by decide) (br_f (by decide) (br_t rfl ⟨pk_in j 8 (by omega), ?_⟩))))
  rw [pk_cl j]
  exact h
end
