/-! lists read off an array function -/
theorem cf_gdl {l m : List Nat} {j : Nat} (h : j < l.length) : (l ++ m).getD j 0 = l.getD j 0 := by
  rw [List.getD_eq_getElem?_getD, List.getD_eq_getElem?_getD, List.getElem?_append_left h]
theorem cf_gdr {l m : List Nat} {j : Nat} (h : l.length ≤ j) : (l ++ m).getD j 0 = m.getD (j - l.length) 0 := by
  rw [List.getD_eq_getElem?_getD, List.getD_eq_getElem?_getD, List.getElem?_append_right h]
theorem cf_gda {l m : List Nat} {j : Nat} : (l ++ m).getD (l.length + j) 0 = m.getD j 0 := by
  rw [cf_gdr (Nat.le_add_right _ _), Nat.add_sub_cancel_left]
theorem cf_gde {l : List Nat} {j : Nat} (h : j < l.length) : l.getD j 0 = l[j] := by
  rw [List.getD_eq_getElem?_getD, List.getElem?_eq_getElem h]
  rfl
theorem cf_gdm {l : List Nat} {j : Nat} (h : j < l.length) : l.getD j 0 ∈ l := by
  rw [cf_gde h]
  exact List.getElem_mem h
theorem cf_mgd {l : List Nat} {c : Nat} (h : c ∈ l) : ∃ j, j < l.length ∧ l.getD j 0 = c := by
  obtain ⟨j, hj, e⟩ := List.mem_iff_getElem.mp h
  exact ⟨j, hj, by rw [cf_gde hj]; exact e⟩
theorem cf_ext {l m : List Nat} (hl : l.length = m.length) (h : ∀ j, j < l.length → l.getD j 0 = m.getD j 0) : l = m := by
  apply List.ext_getElem hl
  intro j h1 h2
  have e := h j h1
  rw [cf_gde h1, cf_gde h2] at e
  exact e
def cf_T (a : Nat → Int32) (l : List Nat) : Prop := ∀ j, j < l.length → a j = nI (l.getD j 0)
theorem cf_T0 (a : Nat → Int32) : cf_T a [] := fun j h => absurd h (Nat.not_lt_zero j)
theorem cf_Ta {a : Nat → Int32} {l : List Nat} (c : Nat) (h : cf_T a l) : cf_T (upd a l.length (nI c)) (l ++ [c]) := by
  intro j hj
  rw [List.length_append, List.length_singleton] at hj
  rcases Nat.lt_or_ge j l.length with z | z
  · rw [pk_un (by omega), cf_gdl z]
    exact h j z
  · have e : j = l.length := by omega
    subst e
    rw [pk_us, cf_gdr (Nat.le_refl _), Nat.sub_self]
    rfl
theorem cf_Tl {a : Nat → Int32} {l m : List Nat} (h : cf_T a (l ++ m)) : cf_T a l := by
  intro j hj
  rw [h j (by rw [List.length_append]; omega), cf_gdl hj]
def cf_sb (f : Nat → Nat) (s : Nat) : Nat → List Nat
  | 0 => []
  | l + 1 => cf_sb f s l ++ [f (s + l)]
theorem cf_sb1 (f : Nat → Nat) (s l : Nat) : cf_sb f s (l + 1) = cf_sb f s l ++ [f (s + l)] := rfl
theorem cf_sbL (f : Nat → Nat) (s : Nat) : ∀ l, (cf_sb f s l).length = l
  | 0 => rfl
  | l + 1 => by rw [cf_sb1, List.length_append, cf_sbL f s l]; rfl
theorem cf_sbG (f : Nat → Nat) (s : Nat) : ∀ l j, j < l → (cf_sb f s l).getD j 0 = f (s + j)
  | 0, j, h => absurd h (Nat.not_lt_zero j)
  | l + 1, j, h => by
    rw [cf_sb1]
    rcases Nat.lt_or_ge j l with z | z
    · rw [cf_gdl (by rw [cf_sbL]; exact z)]
      exact cf_sbG f s l j z
    · have e : j = l := by omega
      subst e
      rw [cf_gdr (by rw [cf_sbL]; exact Nat.le_refl _), cf_sbL, Nat.sub_self]
      rfl
theorem cf_sbA (f : Nat → Nat) (s a : Nat) : ∀ b, cf_sb f s (a + b) = cf_sb f s a ++ cf_sb f (s + a) b
  | 0 => (List.append_nil _).symm
  | b + 1 => by
    show cf_sb f s (a + b) ++ [f (s + (a + b))] = cf_sb f s a ++ (cf_sb f (s + a) b ++ [f (s + a + b)])
    rw [cf_sbA f s a b, List.append_assoc, Nat.add_assoc]
theorem cf_sbM {f : Nat → Nat} {s l c : Nat} (h : c ∈ cf_sb f s l) : ∃ j, j < l ∧ c = f (s + j) := by
  obtain ⟨j, hj, e⟩ := cf_mgd h
  rw [cf_sbL] at hj
  exact ⟨j, hj, by rw [← e, cf_sbG f s l j hj]⟩
theorem cf_sbE {f g : Nat → Nat} {s r : Nat} : ∀ l, (∀ j, j < l → f (s + j) = g (r + j)) → cf_sb f s l = cf_sb g r l
  | 0, _ => rfl
  | l + 1, h => by
    rw [cf_sb1, cf_sb1, cf_sbE l (fun j hj => h j (by omega)), h l (by omega)]
def cf_dD (D : List Nat) : Nat → Nat := fun j => D.getD j 0
theorem cf_sbD (D : List Nat) : cf_sb (cf_dD D) 0 D.length = D := by
  apply cf_ext (cf_sbL _ _ _)
  intro j hj
  rw [cf_sbL] at hj
  rw [cf_sbG _ _ _ _ hj, Nat.zero_add]
  rfl
theorem cf_sbD2 (A D : List Nat) : cf_sb (cf_dD (A ++ D)) A.length D.length = D := by
  have e := cf_sbE (f := cf_dD (A ++ D)) (g := cf_dD D) (s := A.length) (r := 0) D.length (fun j hj => by
    show (A ++ D).getD (A.length + j) 0 = D.getD (0 + j) 0
    rw [cf_gda, Nat.zero_add])
  rw [e, cf_sbD]
/-! characters -/
def cf_lo (c : Nat) : Nat := if 65 ≤ c ∧ c ≤ 90 then c + 32 else c
def cf_HC (c : Nat) : Prop := (97 ≤ c ∧ c ≤ 122) ∨ (65 ≤ c ∧ c ≤ 90) ∨ (48 ≤ c ∧ c ≤ 57) ∨ c = 45 ∨ c = 46
def cf_UN (c : Nat) : Prop := cf_HC c ∨ c = 95 ∨ c = 126
def cf_hv (c : Nat) : Nat := if 48 ≤ c ∧ c ≤ 57 then c - 48 else if 65 ≤ c ∧ c ≤ 70 then c - 55 else if 97 ≤ c ∧ c ≤ 102 then c - 87 else 16
def cf_hd (v : Nat) : Nat := if v < 10 then 48 + v else 55 + v
def cf_up (c : Nat) : Nat := if 97 ≤ c ∧ c ≤ 102 then c - 32 else c
def cf_rk (r c : Nat) : Prop := c = 35 ∨ (2 ≤ r ∧ c = 63) ∨ (3 ≤ r ∧ c = 47) ∨ (4 ≤ r ∧ c = 58)
theorem cf_lo58 {c : Nat} : cf_lo c = 58 ↔ c = 58 := by unfold cf_lo; split <;> omega
theorem cf_lo47 {c : Nat} : cf_lo c = 47 ↔ c = 47 := by unfold cf_lo; split <;> omega
theorem cf_loB {c : Nat} (h : c ≤ 126) : cf_lo c ≤ 126 := by unfold cf_lo; split <;> omega
theorem cf_HClo {c : Nat} (h : cf_HC c) : cf_lo c ≠ 47 := by unfold cf_HC at h; unfold cf_lo; split <;> omega
theorem cf_HCY {c : Nat} : cf_HC c ↔ ((97 ≤ cf_lo c ∧ cf_lo c ≤ 122) ∨ (48 ≤ cf_lo c ∧ cf_lo c ≤ 57) ∨ cf_lo c = 45 ∨ cf_lo c = 46) := by
  unfold cf_HC cf_lo; split <;> omega
theorem cf_hvL (c : Nat) : cf_hv c ≤ 16 := by
  unfold cf_hv
  repeat' split
  all_goals omega
theorem cf_hdup {c : Nat} (h : cf_hv c < 16) : cf_hd (cf_hv c) = cf_up c := by
  unfold cf_hv at h ⊢
  unfold cf_hd cf_up
  by_cases h1 : 48 ≤ c ∧ c ≤ 57
  · simp only [if_pos h1]
    rw [if_pos (by omega), if_neg (by omega)]; omega
  · by_cases h2 : 65 ≤ c ∧ c ≤ 70
    · simp only [if_neg h1, if_pos h2]
      rw [if_neg (by omega), if_neg (by omega)]; omega
    · by_cases h3 : 97 ≤ c ∧ c ≤ 102
      · simp only [if_neg h1, if_neg h2, if_pos h3]
        rw [if_neg (by omega)]; omega
      · simp only [if_neg h1, if_neg h2, if_neg h3] at h
        omega
theorem cf_upB {c : Nat} (h : c ≤ 126) : cf_up c ≤ 126 := by unfold cf_up; split <;> omega
def cf_IE (r : Nat) (t : Nat → Nat) (L i e : Nat) : Prop := i ≤ e ∧ e ≤ L ∧ (∀ j, i ≤ j → j < e → ¬ cf_rk r (t j)) ∧ (e < L → cf_rk r (t e))
theorem cf_IEu {r : Nat} {t : Nat → Nat} {L i e e' : Nat} (h : cf_IE r t L i e) (h' : cf_IE r t L i e') : e = e' := by
  rcases Nat.lt_trichotomy e e' with z | z | z
  · exact absurd (h.2.2.2 (by have := h'.2.1; omega)) (h'.2.2.1 e h.1 z)
  · exact z
  · exact absurd (h'.2.2.2 (by have := h.2.1; omega)) (h.2.2.1 e' h'.1 z)
/-! the percent rule -/
noncomputable def cf_tr (h l : Nat) : List Nat := @ite _ (cf_UN (cf_hv h * 16 + cf_hv l)) (Classical.propDecidable _) [cf_hv h * 16 + cf_hv l] [37, cf_up h, cf_up l]
theorem cf_trP {h l : Nat} (z : cf_UN (cf_hv h * 16 + cf_hv l)) : cf_tr h l = [cf_hv h * 16 + cf_hv l] := by unfold cf_tr; rw [if_pos z]
theorem cf_trN {h l : Nat} (z : ¬ cf_UN (cf_hv h * 16 + cf_hv l)) : cf_tr h l = [37, cf_up h, cf_up l] := by unfold cf_tr; rw [if_neg z]
theorem cf_trL (h l : Nat) : (cf_tr h l).length ≤ 3 := by
  rcases Classical.em (cf_UN (cf_hv h * 16 + cf_hv l)) with z | z
  · rw [cf_trP z]
    show 1 ≤ 3
    omega
  · rw [cf_trN z]; exact Nat.le_refl 3
theorem cf_trB {h l c : Nat} (hh : h ≤ 126) (hl : l ≤ 126) (hc : c ∈ cf_tr h l) : c ≤ 126 := by
  rcases Classical.em (cf_UN (cf_hv h * 16 + cf_hv l)) with z | z
  · rw [cf_trP z] at hc
    rw [List.mem_singleton.mp hc]
    unfold cf_UN cf_HC at z
    omega
  · rw [cf_trN z] at hc
    have a := cf_upB hh
    have b := cf_upB hl
    rcases List.mem_cons.mp hc with e | hc
    · omega
    · rcases List.mem_cons.mp hc with e | hc
      · omega
      · rw [List.mem_singleton.mp hc]; exact b
noncomputable def cf_dc (t : Nat → Nat) (e : Nat) : Nat → Nat → Option (List Nat)
  | 0, _ => some []
  | n + 1, i => if e ≤ i then some [] else if t i = 37 then (if e ≤ i + 2 then none else if cf_hv (t (i + 1)) < 16 ∧ cf_hv (t (i + 2)) < 16 then (cf_dc t e n (i + 3)).map (fun D => cf_tr (t (i + 1)) (t (i + 2)) ++ D) else none) else (cf_dc t e n (i + 1)).map (fun D => t i :: D)
theorem cf_dcE {t : Nat → Nat} {e n i : Nat} (h : e ≤ i) : cf_dc t e n i = some [] := by
  cases n with
  | zero => rfl
  | succ n => rw [cf_dc, if_pos h]
theorem cf_dcC {t : Nat → Nat} {e n i : Nat} (h : i < e) (hc : t i ≠ 37) : cf_dc t e (n + 1) i = (cf_dc t e n (i + 1)).map (fun D => t i :: D) := by
  rw [cf_dc, if_neg (by omega), if_neg hc]
theorem cf_dcS {t : Nat → Nat} {e n i : Nat} (h : i < e) (hc : t i = 37) (h2 : e ≤ i + 2) : cf_dc t e (n + 1) i = none := by
  rw [cf_dc, if_neg (by omega), if_pos hc, if_pos h2]
theorem cf_dcX {t : Nat → Nat} {e n i : Nat} (h : i + 2 < e) (hc : t i = 37) (hx : ¬ (cf_hv (t (i + 1)) < 16 ∧ cf_hv (t (i + 2)) < 16)) : cf_dc t e (n + 1) i = none := by
  rw [cf_dc, if_neg (by omega), if_pos hc, if_neg (by omega), if_neg hx]
theorem cf_dcT {t : Nat → Nat} {e n i : Nat} (h : i + 2 < e) (hc : t i = 37) (hx : cf_hv (t (i + 1)) < 16 ∧ cf_hv (t (i + 2)) < 16) : cf_dc t e (n + 1) i = (cf_dc t e n (i + 3)).map (fun D => cf_tr (t (i + 1)) (t (i + 2)) ++ D) := by
  rw [cf_dc, if_neg (by omega), if_pos hc, if_neg (by omega), if_pos hx]
theorem cf_dcF {t : Nat → Nat} {e : Nat} (ht : ∀ j, t j ≤ 126) : ∀ n i D, e - i ≤ n → cf_dc t e n i = some D → D.length ≤ e - i ∧ ∀ c, c ∈ D → c ≤ 126 := by
  intro n
  induction n with
  | zero =>
    intro i D hn h
    rw [cf_dcE (by omega)] at h
    cases h
    exact ⟨Nat.zero_le _, fun c hc => by cases hc⟩
  | succ n ih =>
    intro i D hn h
    rcases Nat.lt_or_ge i e with hi | hi
    · by_cases hc : t i = 37
      · rcases Nat.lt_or_ge (i + 2) e with h2 | h2
        · by_cases hx : cf_hv (t (i + 1)) < 16 ∧ cf_hv (t (i + 2)) < 16
          · rw [cf_dcT h2 hc hx] at h
            obtain ⟨D', hD, rfl⟩ := Option.map_eq_some_iff.mp h
            obtain ⟨a, b⟩ := ih (i + 3) D' (by omega) hD
            have c := cf_trL (t (i + 1)) (t (i + 2))
            refine ⟨by rw [List.length_append]; omega, fun c hc => ?_⟩
            rcases List.mem_append.mp hc with z | z
            · exact cf_trB (ht _) (ht _) z
            · exact b c z
          · rw [cf_dcX h2 hc hx] at h
            cases h
        · rw [cf_dcS hi hc h2] at h
          cases h
      · rw [cf_dcC hi hc] at h
        obtain ⟨D', hD, rfl⟩ := Option.map_eq_some_iff.mp h
        obtain ⟨a, b⟩ := ih (i + 1) D' (by omega) hD
        refine ⟨by rw [List.length_cons]; omega, fun c hc => ?_⟩
        rcases List.mem_cons.mp hc with z | z
        · rw [z]; exact ht i
        · exact b c z
    · rw [cf_dcE hi] at h
      cases h
      exact ⟨Nat.zero_le _, fun c hc => by cases hc⟩
theorem cf_dc47 {t : Nat → Nat} {e n i : Nat} {D : List Nat} (hi : i < e) (hn : e - i ≤ n) (ht : t i = 47) (h : cf_dc t e n i = some D) : ∃ D', D = 47 :: D' := by
  cases n with
  | zero => omega
  | succ n =>
    rw [cf_dcC hi (by omega)] at h
    obtain ⟨D', _, rfl⟩ := Option.map_eq_some_iff.mp h
    exact ⟨D', by rw [ht]⟩
