section
theorem pk_us {f : Nat → Int32} {k : Nat} {x : Int32} : upd f k x k = x := if_pos rfl
theorem pk_un {f : Nat → Int32} {k j : Nat} {x : Int32} (h : j ≠ k) : upd f k x j = f j := if_neg h
theorem pk_sub {a b : Nat} (h : b ≤ a) : nI a - nI b = nI (a - b) := by
  obtain ⟨c, rfl⟩ : ∃ c, a = c + b := ⟨a - b, by omega⟩
  rw [← nI_add, Int32.add_sub_cancel, Nat.add_sub_cancel]
theorem pk_m1 (n : Nat) : nI (n + 1) + (-1) = nI n := by
  rw [← nI_1, Int32.add_assoc, show (1 : Int32) + (-1) = 0 from rfl, Int32.add_zero]
theorem pk_mul (a b : Nat) : nI a * nI b = nI (a * b) := (Int32.ofNat_mul a b).symm
theorem pk_div {a d : Nat} (ha : a < 2 ^ 31) (h0 : 0 < d) (hd : d < 2 ^ 31) : nI a / nI d = nI (a / d) := by
  apply Int32.toInt_inj.mp
  rw [lg_idiv_nonneg (by rw [nI_toInt ha]; omega) (by rw [nI_toInt hd]; omega), nI_toInt ha, nI_toInt hd, nI_toInt (Nat.lt_of_le_of_lt (Nat.div_le_self a d) ha)]
  first | rfl | exact (Int.natCast_ediv _ _).symm
theorem pk_rem {a d : Nat} (ha : a < 2 ^ 31) (h0 : 0 < d) (hd : d < 2 ^ 31) : nI a - nI a / nI d * nI d = nI (a % d) := by
  rw [pk_div ha h0 hd, pk_mul, pk_sub (Nat.div_mul_le_self a d)]
  exact congrArg nI (by have := Nat.div_add_mod' a d; omega)
theorem pk_sub_toInt {a b : Nat} (ha : a < 2 ^ 30) (hb : b < 2 ^ 30) : (nI a - nI b).toInt = (a : Int) - b := by
  rw [Int32.toInt_sub, nI_toInt (by omega), nI_toInt (by omega)]
  exact Int.bmod_eq_of_le (by omega) (by omega)
theorem pk_sneg {a b : Nat} (hb : b < 2 ^ 30) (h : a < b) : nI a - nI b < 0 := by
  rw [Int32.lt_iff_toInt_lt, pk_sub_toInt (by omega) hb, show (0 : Int32).toInt = 0 from by decide]
  omega
theorem pk_ix (x : Int32) {n : Nat} (hn : n < 2 ^ 31) : x < 0 ∨ nI n ≤ x ∨ ∃ j : Nat, j < n ∧ x = nI j := by
  by_cases h : x < 0
  · exact Or.inl h
  · obtain ⟨j, hj, rfl⟩ := nI_of h
    by_cases h2 : j < n
    · exact Or.inr (Or.inr ⟨j, h2, rfl⟩)
    · exact Or.inr (Or.inl (nI_le (by omega) hj))
theorem pk_le {x y : Int32} {A B : Prop} (a b : Nat) (f : a ≤ b → A) (g : b < a → B) (hx : x = nI a := by rfl) (hy : y = nI b := by rfl) (ha : a < 2 ^ 31 := by omega) (hb : b < 2 ^ 31 := by omega) : (x ≤ y → A) ∧ (¬ x ≤ y → B) := by
  subst hx hy
  rw [nI_leI ha hb]
  exact ⟨f, fun z => g (by omega)⟩
theorem pk_lt {x y : Int32} {A B : Prop} (a b : Nat) (f : a < b → A) (g : b ≤ a → B) (hx : x = nI a := by rfl) (hy : y = nI b := by rfl) (ha : a < 2 ^ 31 := by omega) (hb : b < 2 ^ 31 := by omega) : (x < y → A) ∧ (¬ x < y → B) := by
  subst hx hy
  rw [nI_ltI ha hb]
  exact ⟨f, fun z => g (by omega)⟩
theorem pk_eq {x y : Int32} {A B : Prop} (a b : Nat) (f : a = b → A) (g : a ≠ b → B) (hx : x = nI a := by rfl) (hy : y = nI b := by rfl) (ha : a < 2 ^ 31 := by omega) (hb : b < 2 ^ 31 := by omega) : (x = y → A) ∧ (¬ x = y → B) := by
  subst hx hy
  rw [nI_eq ha hb]
  exact ⟨f, g⟩
theorem pk_in {x : Int32} (n N : Nat) (h : n < N) (hx : x = nI n := by rfl) (hN : N < 2 ^ 31 := by omega) : vp_in x N := by
  subst hx
  exact vp_in_nI h hN
theorem pk_cl {x : Int32} (n : Nat) (hx : x = nI n := by rfl) (h : n < 2 ^ 31 := by omega) : x.toNatClampNeg = n := by
  subst hx
  exact nI_clamp h
end
section
/-! lists read off an array function -/
theorem cf_gdl {l m : List Nat} {j : Nat} (h : j < l.length) : (l ++ m).getD j 0 = l.getD j 0 := by
  rw [List.getD_eq_getElem?_getD, List.getD_eq_getElem?_getD, List.getElem?_append_left h]
theorem cf_gdr {l m : List Nat} {j : Nat} (h : l.length ≤ j) : (l ++ m).getD j 0 = m.getD (j - l.length) 0 := by
  rw [List.getD_eq_getElem?_getD, List.getD_eq_getElem?_getD, List.getElem?_append_right h]
theorem cf_gda {l m : List Nat} {j : Nat} : (l ++ m).getD (l.length + j) 0 = m.getD j 0 := by
  rw [cf_gdr (Nat.le_add_right _ _), Nat.add_sub_cancel_left]
theorem cf_gde {l : List Nat} {j : Nat} (h : j < l.length) : l.getD j 0 = l[j] := by
  rw [List.getD_eq_getElem?_getD, List.getElem?_eq_getElem h]
  rfl
theorem cf_gdm {l : List Nat} {j : Nat} (h : j < l.length) : l.getD j 0 ∈ l := by
  rw [cf_gde h]
  exact List.getElem_mem h
theorem cf_mgd {l : List Nat} {c : Nat} (h : c ∈ l) : ∃ j, j < l.length ∧ l.getD j 0 = c := by
  obtain ⟨j, hj, e⟩ := List.mem_iff_getElem.mp h
  exact ⟨j, hj, by rw [cf_gde hj]; exact e⟩
theorem cf_ext {l m : List Nat} (hl : l.length = m.length) (h : ∀ j, j < l.length → l.getD j 0 = m.getD j 0) : l = m := by
  apply List.ext_getElem hl
  intro j h1 h2
  have e := h j h1
  rw [cf_gde h1, cf_gde h2] at e
  exact e
def cf_T (a : Nat → Int32) (l : List Nat) : Prop := ∀ j, j < l.length → a j = nI (l.getD j 0)
theorem cf_T0 (a : Nat → Int32) : cf_T a [] := fun j h => absurd h (Nat.not_lt_zero j)
theorem cf_Ta {a : Nat → Int32} {l : List Nat} (c : Nat) (h : cf_T a l) : cf_T (upd a l.length (nI c)) (l ++ [c]) := by
  intro j hj
  rw [List.length_append, List.length_singleton] at hj
  rcases Nat.lt_or_ge j l.length with z | z
  · rw [pk_un (by omega), cf_gdl z]
    exact h j z
  · have e : j = l.length := by omega
    subst e
    rw [pk_us, cf_gdr (Nat.le_refl _), Nat.sub_self]
    rfl
theorem cf_Tl {a : Nat → Int32} {l m : List Nat} (h : cf_T a (l ++ m)) : cf_T a l := by
  intro j hj
  rw [h j (by rw [List.length_append]; omega), cf_gdl hj]
def cf_sb (f : Nat → Nat) (s : Nat) : Nat → List Nat
  | 0 => []
  | l + 1 => cf_sb f s l ++ [f (s + l)]
theorem cf_sb1 (f : Nat → Nat) (s l : Nat) : cf_sb f s (l + 1) = cf_sb f s l ++ [f (s + l)] := rfl
theorem cf_sbL (f : Nat → Nat) (s : Nat) : ∀ l, (cf_sb f s l).length = l
  | 0 => rfl
  | l + 1 => by rw [cf_sb1, List.length_append, cf_sbL f s l]; rfl
theorem cf_sbG (f : Nat → Nat) (s : Nat) : ∀ l j, j < l → (cf_sb f s l).getD j 0 = f (s + j)
  | 0, j, h => absurd h (Nat.not_lt_zero j)
  | l + 1, j, h => by
    rw [cf_sb1]
    rcases Nat.lt_or_ge j l with z | z
    · rw [cf_gdl (by rw [cf_sbL]; exact z)]
      exact cf_sbG f s l j z
    · have e : j = l := by omega
      subst e
      rw [cf_gdr (by rw [cf_sbL]; exact Nat.le_refl _), cf_sbL, Nat.sub_self]
      rfl
theorem cf_sbA (f : Nat → Nat) (s a : Nat) : ∀ b, cf_sb f s (a + b) = cf_sb f s a ++ cf_sb f (s + a) b
  | 0 => (List.append_nil _).symm
  | b + 1 => by
    show cf_sb f s (a + b) ++ [f (s + (a + b))] = cf_sb f s a ++ (cf_sb f (s + a) b ++ [f (s + a + b)])
    rw [cf_sbA f s a b, List.append_assoc, Nat.add_assoc]
theorem cf_sbM {f : Nat → Nat} {s l c : Nat} (h : c ∈ cf_sb f s l) : ∃ j, j < l ∧ c = f (s + j) := by
  obtain ⟨j, hj, e⟩ := cf_mgd h
  rw [cf_sbL] at hj
  exact ⟨j, hj, by rw [← e, cf_sbG f s l j hj]⟩
theorem cf_sbE {f g : Nat → Nat} {s r : Nat} : ∀ l, (∀ j, j < l → f (s + j) = g (r + j)) → cf_sb f s l = cf_sb g r l
  | 0, _ => rfl
  | l + 1, h => by
    rw [cf_sb1, cf_sb1, cf_sbE l (fun j hj => h j (by omega)), h l (by omega)]
def cf_dD (D : List Nat) : Nat → Nat := fun j => D.getD j 0
theorem cf_sbD (D : List Nat) : cf_sb (cf_dD D) 0 D.length = D := by
  apply cf_ext (cf_sbL _ _ _)
  intro j hj
  rw [cf_sbL] at hj
  rw [cf_sbG _ _ _ _ hj, Nat.zero_add]
  rfl
theorem cf_sbD2 (A D : List Nat) : cf_sb (cf_dD (A ++ D)) A.length D.length = D := by
  have e := cf_sbE (f := cf_dD (A ++ D)) (g := cf_dD D) (s := A.length) (r := 0) D.length (fun j hj => by
    show (A ++ D).getD (A.length + j) 0 = D.getD (0 + j) 0
    rw [cf_gda, Nat.zero_add])
  rw [e, cf_sbD]
/-! characters -/
def cf_lo (c : Nat) : Nat := if 65 ≤ c ∧ c ≤ 90 then c + 32 else c
def cf_HC (c : Nat) : Prop := (97 ≤ c ∧ c ≤ 122) ∨ (65 ≤ c ∧ c ≤ 90) ∨ (48 ≤ c ∧ c ≤ 57) ∨ c = 45 ∨ c = 46
def cf_UN (c : Nat) : Prop := cf_HC c ∨ c = 95 ∨ c = 126
def cf_hv (c : Nat) : Nat := if 48 ≤ c ∧ c ≤ 57 then c - 48 else if 65 ≤ c ∧ c ≤ 70 then c - 55 else if 97 ≤ c ∧ c ≤ 102 then c - 87 else 16
def cf_hd (v : Nat) : Nat := if v < 10 then 48 + v else 55 + v
def cf_up (c : Nat) : Nat := if 97 ≤ c ∧ c ≤ 102 then c - 32 else c
def cf_rk (r c : Nat) : Prop := c = 35 ∨ (2 ≤ r ∧ c = 63) ∨ (3 ≤ r ∧ c = 47) ∨ (4 ≤ r ∧ c = 58)
theorem cf_lo58 {c : Nat} : cf_lo c = 58 ↔ c = 58 := by unfold cf_lo; split <;> omega
theorem cf_lo47 {c : Nat} : cf_lo c = 47 ↔ c = 47 := by unfold cf_lo; split <;> omega
theorem cf_loB {c : Nat} (h : c ≤ 126) : cf_lo c ≤ 126 := by unfold cf_lo; split <;> omega
theorem cf_HClo {c : Nat} (h : cf_HC c) : cf_lo c ≠ 47 := by unfold cf_HC at h; unfold cf_lo; split <;> omega
theorem cf_HCY {c : Nat} : cf_HC c ↔ ((97 ≤ cf_lo c ∧ cf_lo c ≤ 122) ∨ (48 ≤ cf_lo c ∧ cf_lo c ≤ 57) ∨ cf_lo c = 45 ∨ cf_lo c = 46) := by
  unfold cf_HC cf_lo; split <;> omega
theorem cf_hvL (c : Nat) : cf_hv c ≤ 16 := by
  unfold cf_hv
  repeat' split
  all_goals omega
theorem cf_hdup {c : Nat} (h : cf_hv c < 16) : cf_hd (cf_hv c) = cf_up c := by
  unfold cf_hv at h ⊢
  unfold cf_hd cf_up
  by_cases h1 : 48 ≤ c ∧ c ≤ 57
  · simp only [if_pos h1]
    rw [if_pos (by omega), if_neg (by omega)]; omega
  · by_cases h2 : 65 ≤ c ∧ c ≤ 70
    · simp only [if_neg h1, if_pos h2]
      rw [if_neg (by omega), if_neg (by omega)]; omega
    · by_cases h3 : 97 ≤ c ∧ c ≤ 102
      · simp only [if_neg h1, if_neg h2, if_pos h3]
        rw [if_neg (by omega)]; omega
      · simp only [if_neg h1, if_neg h2, if_neg h3] at h
        omega
theorem cf_upB {c : Nat} (h : c ≤ 126) : cf_up c ≤ 126 := by unfold cf_up; split <;> omega
def cf_IE (r : Nat) (t : Nat → Nat) (L i e : Nat) : Prop := i ≤ e ∧ e ≤ L ∧ (∀ j, i ≤ j → j < e → ¬ cf_rk r (t j)) ∧ (e < L → cf_rk r (t e))
theorem cf_IEu {r : Nat} {t : Nat → Nat} {L i e e' : Nat} (h : cf_IE r t L i e) (h' : cf_IE r t L i e') : e = e' := by
  rcases Nat.lt_trichotomy e e' with z | z | z
  · exact absurd (h.2.2.2 (by have := h'.2.1; omega)) (h'.2.2.1 e h.1 z)
  · exact z
  · exact absurd (h'.2.2.2 (by have := h.2.1; omega)) (h.2.2.1 e' h'.1 z)
/-! the percent rule -/
noncomputable def cf_tr (h l : Nat) : List Nat := @ite _ (cf_UN (cf_hv h * 16 + cf_hv l)) (Classical.propDecidable _) [cf_hv h * 16 + cf_hv l] [37, cf_up h, cf_up l]
theorem cf_trP {h l : Nat} (z : cf_UN (cf_hv h * 16 + cf_hv l)) : cf_tr h l = [cf_hv h * 16 + cf_hv l] := by unfold cf_tr; rw [if_pos z]
theorem cf_trN {h l : Nat} (z : ¬ cf_UN (cf_hv h * 16 + cf_hv l)) : cf_tr h l = [37, cf_up h, cf_up l] := by unfold cf_tr; rw [if_neg z]
theorem cf_trL (h l : Nat) : (cf_tr h l).length ≤ 3 := by
  rcases Classical.em (cf_UN (cf_hv h * 16 + cf_hv l)) with z | z
  · rw [cf_trP z]
    show 1 ≤ 3
    omega
  · rw [cf_trN z]; exact Nat.le_refl 3
theorem cf_trB {h l c : Nat} (hh : h ≤ 126) (hl : l ≤ 126) (hc : c ∈ cf_tr h l) : c ≤ 126 := by
  rcases Classical.em (cf_UN (cf_hv h * 16 + cf_hv l)) with z | z
  · rw [cf_trP z] at hc
    rw [List.mem_singleton.mp hc]
    unfold cf_UN cf_HC at z
    omega
  · rw [cf_trN z] at hc
    have a := cf_upB hh
    have b := cf_upB hl
    rcases List.mem_cons.mp hc with e | hc
    · omega
    · rcases List.mem_cons.mp hc with e | hc
      · omega
      · rw [List.mem_singleton.mp hc]; exact b
noncomputable def cf_dc (t : Nat → Nat) (e : Nat) : Nat → Nat → Option (List Nat)
  | 0, _ => some []
  | n + 1, i => if e ≤ i then some [] else if t i = 37 then (if e ≤ i + 2 then none else if cf_hv (t (i + 1)) < 16 ∧ cf_hv (t (i + 2)) < 16 then (cf_dc t e n (i + 3)).map (fun D => cf_tr (t (i + 1)) (t (i + 2)) ++ D) else none) else (cf_dc t e n (i + 1)).map (fun D => t i :: D)
theorem cf_dcE {t : Nat → Nat} {e n i : Nat} (h : e ≤ i) : cf_dc t e n i = some [] := by
  cases n with
  | zero => rfl
  | succ n => rw [cf_dc, if_pos h]
theorem cf_dcC {t : Nat → Nat} {e n i : Nat} (h : i < e) (hc : t i ≠ 37) : cf_dc t e (n + 1) i = (cf_dc t e n (i + 1)).map (fun D => t i :: D) := by
  rw [cf_dc, if_neg (by omega), if_neg hc]
theorem cf_dcS {t : Nat → Nat} {e n i : Nat} (h : i < e) (hc : t i = 37) (h2 : e ≤ i + 2) : cf_dc t e (n + 1) i = none := by
  rw [cf_dc, if_neg (by omega), if_pos hc, if_pos h2]
theorem cf_dcX {t : Nat → Nat} {e n i : Nat} (h : i + 2 < e) (hc : t i = 37) (hx : ¬ (cf_hv (t (i + 1)) < 16 ∧ cf_hv (t (i + 2)) < 16)) : cf_dc t e (n + 1) i = none := by
  rw [cf_dc, if_neg (by omega), if_pos hc, if_neg (by omega), if_neg hx]
theorem cf_dcT {t : Nat → Nat} {e n i : Nat} (h : i + 2 < e) (hc : t i = 37) (hx : cf_hv (t (i + 1)) < 16 ∧ cf_hv (t (i + 2)) < 16) : cf_dc t e (n + 1) i = (cf_dc t e n (i + 3)).map (fun D => cf_tr (t (i + 1)) (t (i + 2)) ++ D) := by
  rw [cf_dc, if_neg (by omega), if_pos hc, if_neg (by omega), if_pos hx]
theorem cf_dcF {t : Nat → Nat} {e : Nat} (ht : ∀ j, t j ≤ 126) : ∀ n i D, e - i ≤ n → cf_dc t e n i = some D → D.length ≤ e - i ∧ ∀ c, c ∈ D → c ≤ 126 := by
  intro n
  induction n with
  | zero =>
    intro i D hn h
    rw [cf_dcE (by omega)] at h
    cases h
    exact ⟨Nat.zero_le _, fun c hc => by cases hc⟩
  | succ n ih =>
    intro i D hn h
    rcases Nat.lt_or_ge i e with hi | hi
    · by_cases hc : t i = 37
      · rcases Nat.lt_or_ge (i + 2) e with h2 | h2
        · by_cases hx : cf_hv (t (i + 1)) < 16 ∧ cf_hv (t (i + 2)) < 16
          · rw [cf_dcT h2 hc hx] at h
            obtain ⟨D', hD, rfl⟩ := Option.map_eq_some_iff.mp h
            obtain ⟨a, b⟩ := ih (i + 3) D' (by omega) hD
            have c := cf_trL (t (i + 1)) (t (i + 2))
            refine ⟨by rw [List.length_append]; omega, fun c hc => ?_⟩
            rcases List.mem_append.mp hc with z | z
            · exact cf_trB (ht _) (ht _) z
            · exact b c z
          · rw [cf_dcX h2 hc hx] at h
            cases h
        · rw [cf_dcS hi hc h2] at h
          cases h
      · rw [cf_dcC hi hc] at h
        obtain ⟨D', hD, rfl⟩ := Option.map_eq_some_iff.mp h
        obtain ⟨a, b⟩ := ih (i + 1) D' (by omega) hD
        refine ⟨by rw [List.length_cons]; omega, fun c hc => ?_⟩
        rcases List.mem_cons.mp hc with z | z
        · rw [z]; exact ht i
        · exact b c z
    · rw [cf_dcE hi] at h
      cases h
      exact ⟨Nat.zero_le _, fun c hc => by cases hc⟩
theorem cf_dc47 {t : Nat → Nat} {e n i : Nat} {D : List Nat} (hi : i < e) (hn : e - i ≤ n) (ht : t i = 47) (h : cf_dc t e n i = some D) : ∃ D', D = 47 :: D' := by
  cases n with
  | zero => omega
  | succ n =>
    rw [cf_dcC hi (by omega)] at h
    obtain ⟨D', _, rfl⟩ := Option.map_eq_some_iff.mp h
    exact ⟨D', by rw [ht]⟩
end
section
/-! dot segments -/
def cf_st (dd : Nat → Nat) (n i s : Nat) (g : List (Nat × Nat)) : List (Nat × Nat) :=
  if i - s = 1 ∧ dd s = 46 then (if i = n then g ++ [(s, 0)] else g)
  else if i - s = 2 ∧ dd s = 46 ∧ dd (s + 1) = 46 then (if i = n then g.take (g.length - 1) ++ [(s, 0)] else g.take (g.length - 1))
  else g ++ [(s, i - s)]
def cf_sg (dd : Nat → Nat) (n : Nat) : Nat → Nat → Nat → List (Nat × Nat) → List (Nat × Nat)
  | 0, _, _, g => g
  | d + 1, i, s, g => if i < n ∧ dd i ≠ 47 then cf_sg dd n d (i + 1) s g else cf_sg dd n d (i + 1) (i + 1) (cf_st dd n i s g)
theorem cf_sgC {dd : Nat → Nat} {n d i s : Nat} {g : List (Nat × Nat)} (h : i < n ∧ dd i ≠ 47) : cf_sg dd n (d + 1) i s g = cf_sg dd n d (i + 1) s g := by
  rw [cf_sg, if_pos h]
theorem cf_sgS {dd : Nat → Nat} {n d i s : Nat} {g : List (Nat × Nat)} (h : ¬ (i < n ∧ dd i ≠ 47)) : cf_sg dd n (d + 1) i s g = cf_sg dd n d (i + 1) (i + 1) (cf_st dd n i s g) := by
  rw [cf_sg, if_neg h]
def cf_fl (dd : Nat → Nat) (g : List (Nat × Nat)) : List Nat := g.flatMap (fun p => 47 :: cf_sb dd p.1 p.2)
theorem cf_flA (dd : Nat → Nat) (g h : List (Nat × Nat)) : cf_fl dd (g ++ h) = cf_fl dd g ++ cf_fl dd h := by
  unfold cf_fl
  rw [List.flatMap_append]
theorem cf_fl1 (dd : Nat → Nat) (p : Nat × Nat) : cf_fl dd [p] = 47 :: cf_sb dd p.1 p.2 := by
  unfold cf_fl
  rw [List.flatMap_cons, List.flatMap_nil, List.append_nil]
theorem cf_fla (dd : Nat → Nat) (g : List (Nat × Nat)) (p : Nat × Nat) : cf_fl dd (g ++ [p]) = cf_fl dd g ++ (47 :: cf_sb dd p.1 p.2) := by
  rw [cf_flA, cf_fl1]
theorem cf_flT (dd : Nat → Nat) (g : List (Nat × Nat)) (k : Nat) : (cf_fl dd (g.take k)).length ≤ (cf_fl dd g).length := by
  have e : cf_fl dd g = cf_fl dd (g.take k) ++ cf_fl dd (g.drop k) := by
    rw [← cf_flA, List.take_append_drop]
  rw [e, List.length_append]
  omega
theorem cf_flG (dd : Nat → Nat) : ∀ g : List (Nat × Nat), g.length ≤ (cf_fl dd g).length
  | [] => Nat.zero_le _
  | p :: r => by
    have a := cf_flG dd r
    have e : cf_fl dd (p :: r) = cf_fl dd [p] ++ cf_fl dd r := cf_flA dd [p] r
    rw [e, List.length_append, cf_fl1, List.length_cons, List.length_cons]
    omega
theorem cf_tkL {g : List (Nat × Nat)} (h : g ≠ []) : ∃ p, p ∈ g ∧ g = g.take (g.length - 1) ++ [p] := by
  refine ⟨g.getLast h, List.getLast_mem h, ?_⟩
  have e := List.dropLast_concat_getLast h
  rw [List.dropLast_eq_take] at e
  exact e.symm
def cf_G (dd : Nat → Nat) (n s : Nat) (g : List (Nat × Nat)) : Prop := (cf_fl dd g).length + 1 ≤ s ∧ ∀ p, p ∈ g → p.1 + p.2 ≤ n ∧ ∀ j, j < p.2 → dd (p.1 + j) ≠ 47
theorem cf_Gm {dd : Nat → Nat} {n s s' : Nat} {g : List (Nat × Nat)} (h : cf_G dd n s g) (hs : s ≤ s') : cf_G dd n s' g := ⟨by have := h.1; omega, h.2⟩
theorem cf_Gt {dd : Nat → Nat} {n s : Nat} {g : List (Nat × Nat)} (h : cf_G dd n s g) (k : Nat) : cf_G dd n s (g.take k) :=
  ⟨by have := h.1; have := cf_flT dd g k; omega, fun p hp => h.2 p (List.mem_of_mem_take hp)⟩
theorem cf_Ga {dd : Nat → Nat} {n s s' : Nat} {g : List (Nat × Nat)} {p : Nat × Nat} (h : cf_G dd n s g) (hs : s + p.2 + 1 ≤ s') (hp : p.1 + p.2 ≤ n) (hj : ∀ j, j < p.2 → dd (p.1 + j) ≠ 47) : cf_G dd n s' (g ++ [p]) := by
  refine ⟨?_, fun q hq => ?_⟩
  · have := h.1
    rw [cf_fla, List.length_append, List.length_cons, cf_sbL]
    omega
  · rcases List.mem_append.mp hq with z | z
    · exact h.2 q z
    · rw [List.mem_singleton.mp z]
      exact ⟨hp, hj⟩
theorem cf_Gs {dd : Nat → Nat} {n i s : Nat} {g : List (Nat × Nat)} (h : cf_G dd n s g) (hs : s ≤ i) (hi : i ≤ n) (hj : ∀ j, s ≤ j → j < i → dd j ≠ 47) : cf_G dd n (i + 1) (cf_st dd n i s g) := by
  unfold cf_st
  split
  · split
    · exact cf_Ga h (by show s + 0 + 1 ≤ i + 1; omega) (by show s + 0 ≤ n; omega) (fun j z => absurd z (Nat.not_lt_zero j))
    · exact cf_Gm h (by omega)
  · split
    · split
      · exact cf_Ga (cf_Gt h _) (by show s + 0 + 1 ≤ i + 1; omega) (by show s + 0 ≤ n; omega) (fun j z => absurd z (Nat.not_lt_zero j))
      · exact cf_Gm (cf_Gt h _) (by omega)
    · refine cf_Ga h (by show s + (i - s) + 1 ≤ i + 1; omega) (by show s + (i - s) ≤ n; omega) (fun j z => ?_)
      have z' : j < i - s := z
      exact hj (s + j) (by omega) (by omega)
theorem cf_sgG {dd : Nat → Nat} {n : Nat} : ∀ d i s g, i + d = n + 1 → s ≤ i → (∀ j, s ≤ j → j < i → dd j ≠ 47) → cf_G dd n s g → cf_G dd n (n + 1) (cf_sg dd n d i s g) := by
  intro d
  induction d with
  | zero => intro i s g hd hs hj h; exact cf_Gm h (by omega)
  | succ d ih =>
    intro i s g hd hs hj h
    by_cases c : i < n ∧ dd i ≠ 47
    · rw [cf_sgC c]
      refine ih (i + 1) s g (by omega) (by omega) (fun j h1 h2 => ?_) h
      rcases Nat.lt_or_ge j i with z | z
      · exact hj j h1 z
      · have e : j = i := by omega
        rw [e]; exact c.2
    · rw [cf_sgS c]
      exact ih (i + 1) (i + 1) _ (by omega) (Nat.le_refl _) (fun j h1 h2 => by omega) (cf_Gs h hs (by omega) hj)
theorem cf_stN (dd : Nat → Nat) (n s : Nat) (g : List (Nat × Nat)) : cf_st dd n n s g ≠ [] := by
  unfold cf_st
  split
  · rw [if_pos rfl]; simp
  · split
    · rw [if_pos rfl]; simp
    · simp
theorem cf_sgN {dd : Nat → Nat} {n : Nat} : ∀ d i s g, i + d = n + 1 → i ≤ n → cf_sg dd n d i s g ≠ [] := by
  intro d
  induction d with
  | zero => intro i s g hd hi; omega
  | succ d ih =>
    intro i s g hd hi
    by_cases c : i < n ∧ dd i ≠ 47
    · rw [cf_sgC c]
      exact ih (i + 1) s g (by omega) (by omega)
    · rw [cf_sgS c]
      rcases Nat.lt_or_ge i n with z | z
      · exact ih (i + 1) (i + 1) _ (by omega) (by omega)
      · have e : d = 0 := by omega
        have e2 : i = n := by omega
        subst e; subst e2
        exact cf_stN dd i s g
def cf_pt (dd : Nat → Nat) : List (Nat × Nat) → List Nat
  | [] => [47]
  | p :: r => cf_fl dd (p :: r)
theorem cf_ptN {dd : Nat → Nat} {g : List (Nat × Nat)} (h : g ≠ []) : cf_pt dd g = cf_fl dd g := by
  cases g with
  | nil => exact absurd rfl h
  | cons p r => rfl
theorem cf_ptH (dd : Nat → Nat) (g : List (Nat × Nat)) : ∃ r, cf_pt dd g = 47 :: r := by
  cases g with
  | nil => exact ⟨[], rfl⟩
  | cons p r =>
    refine ⟨cf_sb dd p.1 p.2 ++ cf_fl dd r, ?_⟩
    show cf_fl dd ([p] ++ r) = _
    rw [cf_flA, cf_fl1]
    rfl
def cf_gs (D : List Nat) : List (Nat × Nat) := cf_sg (cf_dD D) D.length D.length 1 1 []
def cf_pa (D : List Nat) : List Nat := cf_pt (cf_dD D) (cf_gs D)
theorem cf_G0 (dd : Nat → Nat) (n : Nat) : cf_G dd n 1 [] := ⟨Nat.le_refl 1, fun p hp => by cases hp⟩
theorem cf_gsG (D : List Nat) : cf_G (cf_dD D) D.length (D.length + 1) (cf_gs D) :=
  cf_sgG D.length 1 1 [] (by omega) (Nat.le_refl 1) (fun j h1 h2 => by omega) (cf_G0 _ _)
theorem cf_gs0 : cf_gs [] = [] := rfl
theorem cf_gsN {D : List Nat} (h : 0 < D.length) : cf_gs D ≠ [] := cf_sgN D.length 1 1 [] (by omega) h
theorem cf_paL (D : List Nat) : (cf_pa D).length ≤ D.length + 1 ∧ (0 < D.length → (cf_pa D).length ≤ D.length) := by
  have a := (cf_gsG D).1
  rcases Nat.eq_zero_or_pos D.length with z | z
  · have e : D = [] := List.eq_nil_of_length_eq_zero z
    subst e
    exact ⟨Nat.le_refl 1, fun h => absurd h (Nat.lt_irrefl 0)⟩
  · have e : cf_pa D = cf_fl (cf_dD D) (cf_gs D) := cf_ptN (cf_gsN z)
    rw [e]
    exact ⟨by omega, fun _ => by omega⟩
/-! the port -/
def cf_pv (t : Nat → Nat) (f : Nat) : Nat → Nat
  | 0 => 0
  | d + 1 => cf_pv t f d * 10 + (t (f + d) - 48)
theorem cf_pvB {t : Nat → Nat} {f : Nat} : ∀ d, (∀ j, j < d → t (f + j) ≤ 57) → cf_pv t f d < 10 ^ d
  | 0, _ => Nat.zero_lt_one
  | d + 1, h => by
    have a := cf_pvB d (fun j hj => h j (by omega))
    have b := h d (by omega)
    rw [cf_pv, Nat.pow_succ]
    omega
def cf_dg : Nat → Nat → List Nat
  | 0, v => [48 + v % 10]
  | m + 1, v => (48 + v / 10 ^ (m + 1) % 10) :: cf_dg m v
def cf_dy : Nat → Nat → List Nat
  | 0, v => [48 + v % 10]
  | m + 1, v => (if 10 ^ (m + 1) ≤ v then [48 + v / 10 ^ (m + 1) % 10] else []) ++ cf_dy m v
theorem cf_dyT {m v : Nat} (h : 10 ^ (m + 1) ≤ v) : cf_dy (m + 1) v = (48 + v / 10 ^ (m + 1) % 10) :: cf_dy m v := by
  rw [cf_dy, if_pos h]; rfl
theorem cf_dyF {m v : Nat} (h : ¬ 10 ^ (m + 1) ≤ v) : cf_dy (m + 1) v = cf_dy m v := by
  rw [cf_dy, if_neg h]; rfl
theorem cf_dgL : ∀ m v, (cf_dg m v).length = m + 1
  | 0, _ => rfl
  | m + 1, v => by rw [cf_dg, List.length_cons, cf_dgL m v]
theorem cf_dyg : ∀ m v, (m = 0 ∨ 10 ^ m ≤ v) → cf_dy m v = cf_dg m v
  | 0, _, _ => rfl
  | m + 1, v, h => by
    have h1 : 10 ^ (m + 1) ≤ v := h.resolve_left (by omega)
    have h2 : 10 ^ m ≤ 10 ^ (m + 1) := Nat.pow_le_pow_right (by decide) (by omega)
    rw [cf_dyT h1, cf_dyg m v (Or.inr (Nat.le_trans h2 h1)), cf_dg]
theorem cf_dyd : ∀ m j v, j ≤ m → v < 10 ^ (j + 1) → cf_dy m v = cf_dy j v
  | 0, j, v, h, _ => by rw [show j = 0 by omega]
  | m + 1, j, v, h, hv => by
    rcases Nat.lt_or_ge j (m + 1) with z | z
    · have h2 : 10 ^ (j + 1) ≤ 10 ^ (m + 1) := Nat.pow_le_pow_right (by decide) (by omega)
      rw [cf_dyF (by omega)]
      exact cf_dyd m j v (by omega) hv
    · rw [show j = m + 1 by omega]
theorem cf_dyL : ∀ m d v, 1 ≤ d → v < 10 ^ d → (cf_dy m v).length ≤ d
  | 0, d, v, h, _ => h
  | m + 1, d, v, h, hv => by
    by_cases c : 10 ^ (m + 1) ≤ v
    · rw [cf_dyg (m + 1) v (Or.inr c), cf_dgL]
      rcases Nat.lt_or_ge (m + 1) d with z | z
      · omega
      · have h2 : 10 ^ d ≤ 10 ^ (m + 1) := Nat.pow_le_pow_right (by decide) z
        omega
    · rw [cf_dyF c]
      exact cf_dyL m d v h hv
theorem cf_dyM : ∀ m v c, c ∈ cf_dy m v → 48 ≤ c ∧ c ≤ 57
  | 0, v, c, h => by
    rw [List.mem_singleton.mp h]
    omega
  | m + 1, v, c, h => by
    by_cases z : 10 ^ (m + 1) ≤ v
    · rw [cf_dyT z] at h
      rcases List.mem_cons.mp h with e | e
      · rw [e]
        have := Nat.mod_lt (v / 10 ^ (m + 1)) (show 0 < 10 by decide)
        omega
      · exact cf_dyM m v c e
    · rw [cf_dyF z] at h
      exact cf_dyM m v c h
/-! what the buffer's text is -/
def cf_Sch (t : Nat → Nat) (L c : Nat) : Prop := (c = 4 ∨ c = 5) ∧ c + 2 < L ∧ cf_lo (t 0) = 104 ∧ cf_lo (t 1) = 116 ∧ cf_lo (t 2) = 116 ∧ cf_lo (t 3) = 112 ∧ (c = 5 → cf_lo (t 4) = 115) ∧ t c = 58 ∧ t (c + 1) = 47 ∧ t (c + 2) = 47
theorem cf_Schu {t : Nat → Nat} {L c c' : Nat} (h : cf_Sch t L c) (h' : cf_Sch t L c') : c = c' := by
  obtain ⟨a, -, -, -, -, -, b, d, -, -⟩ := h
  obtain ⟨a', -, -, -, -, -, b', d', -, -⟩ := h'
  rcases a with rfl | rfl <;> rcases a' with rfl | rfl
  · rfl
  · have := cf_lo58.mpr d; have := b' rfl; omega
  · have := cf_lo58.mpr d'; have := b rfl; omega
  · rfl
def cf_Ho (t : Nat → Nat) (f he : Nat) : Prop := f + 1 ≤ he ∧ he ≤ f + 16 ∧ ∀ j, f ≤ j → j < he → cf_HC (t j)
def cf_Po (t : Nat → Nat) (L f p : Nat) : Prop := cf_IE 3 t L f p ∧ f + 1 ≤ p ∧ p ≤ f + 5 ∧ (∀ j, f ≤ j → j < p → 48 ≤ t j ∧ t j ≤ 57) ∧ cf_pv t f (p - f) ≤ 65535
def cf_dp (c : Nat) : Nat := if c = 4 then 80 else 443
def cf_po (c v : Nat) : List Nat := if v = cf_dp c then [] else 58 :: cf_dy 4 v
def cf_PO (t : Nat → Nat) (L c he p : Nat) (po : List Nat) : Prop :=
  (¬ (he < L ∧ t he = 58) ∧ p = he ∧ po = []) ∨ ((he < L ∧ t he = 58) ∧ cf_Po t L (he + 1) p ∧ po = cf_po c (cf_pv t (he + 1) (p - (he + 1))))
theorem cf_POu {t : Nat → Nat} {L c he p p' : Nat} {po po' : List Nat} (h : cf_PO t L c he p po) (h' : cf_PO t L c he p' po') : p = p' ∧ po = po' := by
  rcases h with ⟨a, b, d⟩ | ⟨a, b, d⟩ <;> rcases h' with ⟨a', b', d'⟩ | ⟨a', b', d'⟩
  · exact ⟨b.trans b'.symm, d.trans d'.symm⟩
  · exact absurd a' a
  · exact absurd a a'
  · have e := cf_IEu b.1 b'.1
    subst e
    exact ⟨rfl, d.trans d'.symm⟩
theorem cf_POl {t : Nat → Nat} {L c he p : Nat} {po : List Nat} (hL : he ≤ L) (h : cf_PO t L c he p po) : he + po.length ≤ p ∧ p ≤ L ∧ ∀ x, x ∈ po → x = 58 ∨ (48 ≤ x ∧ x ≤ 57) := by
  rcases h with ⟨a, b, d⟩ | ⟨a, ⟨b1, b2, b3, b4, b5⟩, d⟩
  · subst b; subst d
    exact ⟨Nat.le_refl _, hL, fun x hx => by cases hx⟩
  · subst d
    unfold cf_po
    split
    · exact ⟨by show he + 0 ≤ p; omega, b1.2.1, fun x hx => by cases hx⟩
    · have v := cf_pvB (t := t) (f := he + 1) (p - (he + 1)) (fun j hj => (b4 (he + 1 + j) (by omega) (by omega)).2)
      have l := cf_dyL 4 (p - (he + 1)) _ (by omega) v
      refine ⟨by rw [List.length_cons]; omega, b1.2.1, fun x hx => ?_⟩
      rcases List.mem_cons.mp hx with e | e
      · exact Or.inl e
      · exact Or.inr (cf_dyM _ _ _ e)
def cf_PS (t : Nat → Nat) (L c he p pE qE : Nat) (po D1 D2 : List Nat) : Prop :=
  cf_Sch t L c ∧ cf_IE 4 t L (c + 3) he ∧ cf_Ho t (c + 3) he ∧ cf_PO t L c he p po ∧ cf_IE 2 t L p pE ∧ cf_dc t pE (pE - p) p = some D1 ∧ cf_IE 1 t L pE qE ∧ cf_dc t qE (qE - pE) pE = some D2
def cf_out (t : Nat → Nat) (he : Nat) (po D1 D2 : List Nat) : List Nat := cf_sb (fun j => cf_lo (t j)) 0 he ++ po ++ cf_pa D1 ++ D2
theorem cf_PSu {t : Nat → Nat} {L c he p pE qE c' he' p' pE' qE' : Nat} {po D1 D2 po' D1' D2' : List Nat} (h : cf_PS t L c he p pE qE po D1 D2) (h' : cf_PS t L c' he' p' pE' qE' po' D1' D2') : c = c' ∧ he = he' ∧ po = po' ∧ D1 = D1' ∧ D2 = D2' := by
  obtain ⟨a1, a2, -, a4, a5, a6, a7, a8⟩ := h
  obtain ⟨b1, b2, -, b4, b5, b6, b7, b8⟩ := h'
  cases cf_Schu a1 b1
  cases cf_IEu a2 b2
  obtain ⟨rfl, rfl⟩ := cf_POu a4 b4
  cases cf_IEu a5 b5
  cases cf_IEu a7 b7
  rw [a6] at b6
  rw [a8] at b8
  cases b6
  cases b8
  exact ⟨rfl, rfl, rfl, rfl, rfl⟩
/-- the third slash of a text -/
def cf_TS (l : List Nat) (P : Nat) : Prop := ∃ a, a + 2 ≤ P ∧ P < l.length ∧ l.getD a 0 = 47 ∧ l.getD (a + 1) 0 = 47 ∧ l.getD P 0 = 47 ∧ ∀ j, j < P → j ≠ a → j ≠ a + 1 → l.getD j 0 ≠ 47
/-- the place of the path: where the delimiter behind host and port stands, a path begins with a slash -/
theorem cf_PSp {t : Nat → Nat} {L c he p pE : Nat} {po : List Nat} (h2 : cf_IE 4 t L (c + 3) he) (h4 : cf_PO t L c he p po) (h5 : cf_IE 2 t L p pE) (hp : p < pE) : t p = 47 := by
  have hpL : p < L := by have := h5.2.1; omega
  have nr := h5.2.2.1 p (Nat.le_refl _) hp
  unfold cf_rk at nr
  rcases h4 with ⟨a, b, d⟩ | ⟨a, ⟨b1, b2, b3, b4, b5⟩, d⟩
  · subst b
    have r := h2.2.2.2 hpL
    unfold cf_rk at r
    have a' : ¬ t p = 58 := fun z => a ⟨hpL, z⟩
    omega
  · have r := b1.2.2.2 hpL
    unfold cf_rk at r
    omega
theorem cf_outB {t : Nat → Nat} {L c he p pE qE : Nat} {po D1 D2 : List Nat} (ht : ∀ j, t j ≤ 126) (hL : L ≤ 48) (h : cf_PS t L c he p pE qE po D1 D2) :
    c + 3 ≤ he ∧ he ≤ c + 19 ∧ he + po.length ≤ p ∧ p + D1.length ≤ pE ∧ pE + D2.length ≤ qE ∧ qE ≤ L ∧ he + po.length + (cf_pa D1).length + D2.length ≤ 49 := by
  obtain ⟨a1, a2, a3, a4, a5, a6, a7, a8⟩ := h
  obtain ⟨b1, b2, -⟩ := cf_POl a2.2.1 a4
  have c1 := (cf_dcF ht _ _ _ (Nat.le_refl _) a6).1
  have c2 := (cf_dcF ht _ _ _ (Nat.le_refl _) a8).1
  have d1 := a5.1
  have d2 := a7.1
  have d3 := a7.2.1
  have e1 := a3.1
  have e2 := a3.2.1
  have l := cf_paL D1
  refine ⟨by omega, by omega, b1, by omega, by omega, d3, ?_⟩
  rcases Nat.eq_zero_or_pos D1.length with z | z
  · have := l.1; omega
  · have := l.2 z; omega
theorem cf_outL {t : Nat → Nat} {he : Nat} {po D1 D2 : List Nat} : (cf_out t he po D1 D2).length = he + po.length + (cf_pa D1).length + D2.length := by
  unfold cf_out
  rw [List.length_append, List.length_append, List.length_append, cf_sbL]
theorem cf_outT {t : Nat → Nat} {L c he p pE qE : Nat} {po D1 D2 : List Nat} (h : cf_PS t L c he p pE qE po D1 D2) : cf_TS (cf_out t he po D1 D2) (he + po.length) := by
  obtain ⟨a1, a2, a3, a4, -⟩ := h
  obtain ⟨-, -, b3⟩ := cf_POl a2.2.1 a4
  have hc := a2.1
  have g1 : ∀ j, j < he → (cf_out t he po D1 D2).getD j 0 = cf_lo (t j) := by
    intro j hj
    unfold cf_out
    rw [cf_gdl (by rw [List.length_append, List.length_append, cf_sbL]; omega), cf_gdl (by rw [List.length_append, cf_sbL]; omega), cf_gdl (by rw [cf_sbL]; omega), cf_sbG _ _ _ _ hj, Nat.zero_add]
  obtain ⟨r, hr⟩ := cf_ptH (cf_dD D1) (cf_gs D1)
  have hr' : cf_pa D1 = 47 :: r := hr
  refine ⟨c + 1, by omega, ?_, ?_, ?_, ?_, ?_⟩
  · rw [cf_outL, hr', List.length_cons]; omega
  · rw [g1 _ (by omega)]; exact cf_lo47.mpr a1.2.2.2.2.2.2.2.2.1
  · rw [g1 _ (by omega)]; exact cf_lo47.mpr a1.2.2.2.2.2.2.2.2.2
  · unfold cf_out
    rw [List.append_assoc, cf_gdr (by rw [List.length_append, cf_sbL]; exact Nat.le_refl _), List.length_append, cf_sbL, Nat.sub_self, hr']
    rfl
  · intro j hj n1 n2
    rcases Nat.lt_or_ge j he with z | z
    · rw [g1 j z]
      obtain ⟨q0, q1, q2, q3, q4, q5, q6, q7, q8, q9⟩ := a1
      rcases Nat.lt_or_ge j (c + 3) with y | y
      · intro e
        have e' := cf_lo47.mp e
        rcases q0 with rfl | rfl
        · have : j = 0 ∨ j = 1 ∨ j = 2 ∨ j = 3 ∨ j = 4 := by omega
          rcases this with rfl | rfl | rfl | rfl | rfl <;> omega
        · have : j = 0 ∨ j = 1 ∨ j = 2 ∨ j = 3 ∨ j = 4 ∨ j = 5 := by omega
          have := q6 rfl
          rcases ‹j = 0 ∨ j = 1 ∨ j = 2 ∨ j = 3 ∨ j = 4 ∨ j = 5› with rfl | rfl | rfl | rfl | rfl | rfl <;> omega
      · exact cf_HClo (a3.2.2 j y z)
    · have e : (cf_out t he po D1 D2).getD j 0 = po.getD (j - he) 0 := by
        unfold cf_out
        rw [cf_gdl (by rw [List.length_append, List.length_append, cf_sbL]; omega), cf_gdl (by rw [List.length_append, cf_sbL]; omega), cf_gdr (by rw [cf_sbL]; omega), cf_sbL]
      rw [e]
      have m := b3 _ (cf_gdm (l := po) (j := j - he) (by omega))
      omega
theorem cf_lok {c : Nat} (h : cf_rk 4 c) : cf_lo c = c ∧ c < 65 := by
  unfold cf_rk at h
  unfold cf_lo
  split <;> omega
theorem cf_SchE {t : Nat → Nat} {L c : Nat} (h : cf_Sch t L c) : cf_IE 4 t L 0 c := by
  obtain ⟨q0, q1, q2, q3, q4, q5, q6, q7, q8, q9⟩ := h
  refine ⟨Nat.zero_le _, by omega, fun j _ hj r => ?_, fun _ => Or.inr (Or.inr (Or.inr ⟨Nat.le_refl 4, q7⟩))⟩
  have e := cf_lok r
  have o : j = 0 ∨ j = 1 ∨ j = 2 ∨ j = 3 ∨ (j = 4 ∧ c = 5) := by omega
  rcases o with rfl | rfl | rfl | rfl | ⟨rfl, rfl⟩
  · omega
  · omega
  · omega
  · omega
  · have := q6 rfl; omega
theorem cf_PSq {t : Nat → Nat} {L c he p : Nat} {po : List Nat} (h2 : cf_IE 4 t L (c + 3) he) (h4 : cf_PO t L c he p po) (hp : p < L) : t p = 47 ∨ t p = 63 ∨ t p = 35 := by
  rcases h4 with ⟨a, b, d⟩ | ⟨a, ⟨b1, b2, b3, b4, b5⟩, d⟩
  · subst b
    have r := h2.2.2.2 hp
    unfold cf_rk at r
    have a' : ¬ t p = 58 := fun z => a ⟨hp, z⟩
    omega
  · have r := b1.2.2.2 hp
    unfold cf_rk at r
    omega
theorem cf_IEp {t : Nat → Nat} {L r e : Nat} (h : e ≤ L) (hr : e < L → cf_rk r (t e)) : cf_IE r t L e e := ⟨Nat.le_refl _, h, fun j h1 h2 => by omega, hr⟩
end
section
/-! scans, counts, sums -/
def cf_FF (P : Nat → Prop) (n : Nat) (r : Int32) : Prop := (∃ j, j < n ∧ P j ∧ (∀ i, i < j → ¬ P i) ∧ r = nI j) ∨ ((∀ j, j < n → ¬ P j) ∧ r = -1)
theorem cf_FFu {P Q : Nat → Prop} {n : Nat} {r r' : Int32} (e : ∀ j, j < n → (P j ↔ Q j)) (h : cf_FF P n r) (h' : cf_FF Q n r') : r = r' := by
  rcases h with ⟨j, hj, pj, lj, rfl⟩ | ⟨nj, rfl⟩ <;> rcases h' with ⟨k, hk, pk, lk, rfl⟩ | ⟨nk, rfl⟩
  · rcases Nat.lt_trichotomy j k with z | z | z
    · exact absurd ((e j hj).mp pj) (lk j z)
    · rw [z]
    · exact absurd ((e k hk).mpr pk) (lj k z)
  · exact absurd ((e j hj).mp pj) (nk j hj)
  · exact absurd ((e k hk).mpr pk) (nj k hk)
  · rfl
theorem cf_m1 {j : Nat} (h : j < 2 ^ 31) : ¬ nI j = -1 := by
  intro e
  have a := nI_toInt h
  rw [e] at a
  have b : (-1 : Int32).toInt = -1 := by decide
  omega
theorem cf_m1' {j : Nat} (h : j < 2 ^ 31) : ¬ (-1 : Int32) = nI j := fun e => cf_m1 h e.symm
theorem cf_m0 : (-1 : Int32) < 0 := by decide
def cf_sm (f : Nat → Int32) : Nat → Int32
  | 0 => 0
  | n + 1 => cf_sm f n + f n
theorem cf_smE {f g : Nat → Int32} : ∀ n, (∀ j, j < n → f j = g j) → cf_sm f n = cf_sm g n
  | 0, _ => rfl
  | n + 1, h => by
    show cf_sm f n + f n = cf_sm g n + g n
    rw [cf_smE n (fun j hj => h j (by omega)), h n (by omega)]
noncomputable def cf_b1 (P : Prop) : Nat := @ite Nat P (Classical.propDecidable P) 1 0
theorem cf_b1t {P : Prop} (h : P) : cf_b1 P = 1 := by unfold cf_b1; rw [if_pos h]
theorem cf_b1f {P : Prop} (h : ¬ P) : cf_b1 P = 0 := by unfold cf_b1; rw [if_neg h]
noncomputable def cf_ct (P : Nat → Prop) : Nat → Nat
  | 0 => 0
  | n + 1 => cf_ct P n + cf_b1 (P n)
theorem cf_ctT {P : Nat → Prop} {n : Nat} (h : P n) : cf_ct P (n + 1) = cf_ct P n + 1 := by rw [cf_ct, cf_b1t h]
theorem cf_ctF {P : Nat → Prop} {n : Nat} (h : ¬ P n) : cf_ct P (n + 1) = cf_ct P n := by rw [cf_ct, cf_b1f h]; rfl
theorem cf_ctB (P : Nat → Prop) : ∀ n, cf_ct P n ≤ n
  | 0 => Nat.le_refl 0
  | n + 1 => by
    have a := cf_ctB P n
    rcases Classical.em (P n) with h | h
    · rw [cf_ctT h]; omega
    · rw [cf_ctF h]; omega
theorem cf_ctE {P Q : Nat → Prop} : ∀ n, (∀ j, j < n → (P j ↔ Q j)) → cf_ct P n = cf_ct Q n
  | 0, _ => rfl
  | n + 1, h => by
    have a := cf_ctE n (fun j hj => h j (by omega))
    have b := h n (by omega)
    rcases Classical.em (P n) with z | z
    · rw [cf_ctT z, cf_ctT (b.mp z), a]
    · rw [cf_ctF z, cf_ctF (fun y => z (b.mpr y)), a]
theorem cf_ct1 {P Q : Nat → Prop} {a : Nat} (hp : ¬ P a) (hq : Q a) : ∀ n, a < n → (∀ j, j < n → j ≠ a → (P j ↔ Q j)) → cf_ct Q n = cf_ct P n + 1
  | 0, h, _ => by omega
  | n + 1, h, e => by
    rcases Nat.lt_or_ge a n with z | z
    · have i := cf_ct1 hp hq n z (fun j hj => e j (by omega))
      have b := e n (by omega) (by omega)
      rcases Classical.em (P n) with y | y
      · rw [cf_ctT y, cf_ctT (b.mp y), i]
      · rw [cf_ctF y, cf_ctF (fun x => y (b.mpr x)), i]
    · have ea : a = n := by omega
      subst ea
      rw [cf_ctT hq, cf_ctF hp, cf_ctE a (fun j hj => e j (by omega) (by omega))]
theorem cf_ctP {P : Nat → Prop} : ∀ n, (0 < cf_ct P n ↔ ∃ j, j < n ∧ P j)
  | 0 => ⟨fun h => absurd h (Nat.lt_irrefl 0), fun ⟨j, h, _⟩ => absurd h (Nat.not_lt_zero j)⟩
  | n + 1 => by
    have i := cf_ctP (P := P) n
    rcases Classical.em (P n) with h | h
    · rw [cf_ctT h]
      exact ⟨fun _ => ⟨n, by omega, h⟩, fun _ => by omega⟩
    · rw [cf_ctF h, i]
      refine ⟨fun ⟨j, hj, pj⟩ => ⟨j, by omega, pj⟩, fun ⟨j, hj, pj⟩ => ⟨j, ?_, pj⟩⟩
      rcases Nat.lt_or_ge j n with z | z
      · exact z
      · have e : j = n := by omega
        rw [e] at pj
        exact absurd pj h
noncomputable def cf_ch (R : Nat → Prop) (nx : Nat → Int32) : Nat → Int32
  | 0 => -1
  | h + 1 => @ite _ (R h ∧ (cf_ch R nx h = -1 ∨ nx h < nx (cf_ch R nx h).toNatClampNeg)) (Classical.propDecidable _) (nI h) (cf_ch R nx h)
theorem cf_chT {R : Nat → Prop} {nx : Nat → Int32} {h : Nat} (z : R h ∧ (cf_ch R nx h = -1 ∨ nx h < nx (cf_ch R nx h).toNatClampNeg)) : cf_ch R nx (h + 1) = nI h := by
  rw [cf_ch, if_pos z]
theorem cf_chF {R : Nat → Prop} {nx : Nat → Int32} {h : Nat} (z : ¬ (R h ∧ (cf_ch R nx h = -1 ∨ nx h < nx (cf_ch R nx h).toNatClampNeg))) : cf_ch R nx (h + 1) = cf_ch R nx h := by
  rw [cf_ch, if_neg z]
theorem cf_chI (R : Nat → Prop) (nx : Nat → Int32) : ∀ n, cf_ch R nx n = -1 ∨ ∃ j, j < n ∧ R j ∧ cf_ch R nx n = nI j
  | 0 => Or.inl rfl
  | n + 1 => by
    rcases Classical.em (R n ∧ (cf_ch R nx n = -1 ∨ nx n < nx (cf_ch R nx n).toNatClampNeg)) with z | z
    · exact Or.inr ⟨n, by omega, z.1, cf_chT z⟩
    · rw [cf_chF z]
      rcases cf_chI R nx n with y | ⟨j, hj, rj, e⟩
      · exact Or.inl y
      · exact Or.inr ⟨j, by omega, rj, e⟩
noncomputable def cf_bk (M : Nat → Prop) (us : Nat → Int32) : Nat → (Nat → Int32) × Nat
  | 0 => (us, 0)
  | k + 1 => @ite _ ((cf_bk M us k).1 k = 1 ∧ M k) (Classical.propDecidable _) (upd (cf_bk M us k).1 k 3, (cf_bk M us k).2 + 1) (cf_bk M us k)
theorem cf_bkT {M : Nat → Prop} {us : Nat → Int32} {k : Nat} (h : (cf_bk M us k).1 k = 1 ∧ M k) : cf_bk M us (k + 1) = (upd (cf_bk M us k).1 k 3, (cf_bk M us k).2 + 1) := by
  rw [cf_bk, if_pos h]
theorem cf_bkF {M : Nat → Prop} {us : Nat → Int32} {k : Nat} (h : ¬ ((cf_bk M us k).1 k = 1 ∧ M k)) : cf_bk M us (k + 1) = cf_bk M us k := by
  rw [cf_bk, if_neg h]
theorem cf_bkI (M : Nat → Prop) (us : Nat → Int32) : ∀ k, (cf_bk M us k).2 ≤ k ∧ ∀ j, (cf_bk M us k).1 j = us j ∨ (us j = 1 ∧ (cf_bk M us k).1 j = 3)
  | 0 => ⟨Nat.le_refl 0, fun j => Or.inl rfl⟩
  | k + 1 => by
    obtain ⟨a, b⟩ := cf_bkI M us k
    rcases Classical.em ((cf_bk M us k).1 k = 1 ∧ M k) with z | z
    · rw [cf_bkT z]
      refine ⟨Nat.succ_le_succ a, fun j => ?_⟩
      show upd (cf_bk M us k).1 k 3 j = us j ∨ (us j = 1 ∧ upd (cf_bk M us k).1 k 3 j = 3)
      by_cases e : j = k
      · subst e
        rw [pk_us]
        rcases b j with y | y
        · exact Or.inr ⟨by rw [← y]; exact z.1, rfl⟩
        · exact Or.inr ⟨y.1, rfl⟩
      · rw [pk_un e]
        exact b j
    · rw [cf_bkF z]
      exact ⟨by omega, b⟩
/-! a stretch copied into an array -/
def cf_cp (f : Nat → Int32) (at0 : Nat) (g : Nat → Int32) (fr : Nat) : Nat → (Nat → Int32)
  | 0 => f
  | n + 1 => upd (cf_cp f at0 g fr n) (at0 + n) (g (fr + n))
theorem cf_cpE {f g g' : Nat → Int32} {at0 fr : Nat} : ∀ n, (∀ j, j < n → g (fr + j) = g' (fr + j)) → cf_cp f at0 g fr n = cf_cp f at0 g' fr n
  | 0, _ => rfl
  | n + 1, h => by
    show upd (cf_cp f at0 g fr n) (at0 + n) (g (fr + n)) = upd (cf_cp f at0 g' fr n) (at0 + n) (g' (fr + n))
    rw [cf_cpE n (fun j hj => h j (by omega)), h n (by omega)]
theorem cf_cpO {f g : Nat → Int32} {at0 fr k : Nat} : ∀ n, (k < at0 ∨ at0 + n ≤ k) → cf_cp f at0 g fr n k = f k
  | 0, _ => rfl
  | n + 1, h => by
    show upd (cf_cp f at0 g fr n) (at0 + n) (g (fr + n)) k = f k
    rw [pk_un (by omega)]
    exact cf_cpO n (by omega)
theorem cf_cpI {f g : Nat → Int32} {at0 fr : Nat} : ∀ n j, j < n → cf_cp f at0 g fr n (at0 + j) = g (fr + j)
  | 0, j, h => absurd h (Nat.not_lt_zero j)
  | n + 1, j, h => by
    show upd (cf_cp f at0 g fr n) (at0 + n) (g (fr + n)) (at0 + j) = g (fr + j)
    rcases Nat.lt_or_ge j n with z | z
    · rw [pk_un (by omega)]
      exact cf_cpI n j z
    · have e : j = n := by omega
      rw [e, pk_us]
def cf_EQ (a : Nat → Int32) (o : Nat) (b : Nat → Int32) (p n : Nat) : Prop := ∀ i, i < n → a (o + i) = b (p + i)
/-! loops -/
theorem cf_scan (W : Nat → Nat → Prop) (P : Nat → Prop) (n : Nat) (hx : ∀ f, (∀ j, j < n → ¬ P j) → W (f + 1) n) (hp : ∀ f i, i < n → P i → (∀ j, j < i → ¬ P j) → W (f + 1) i) (hn : ∀ f i, i < n → ¬ P i → W f (i + 1) → W (f + 1) i) : ∀ d i f, i + d = n → d < f → (∀ j, j < i → ¬ P j) → W f i := by
  intro d
  induction d with
  | zero =>
    intro i f hi hf hj
    have e : i = n := by omega
    subst e
    cases f with
    | zero => omega
    | succ f => exact hx f hj
  | succ d ih =>
    intro i f hi hf hj
    cases f with
    | zero => omega
    | succ f =>
      rcases Classical.em (P i) with p | p
      · exact hp f i (by omega) p hj
      · refine hn f i (by omega) p (ih (i + 1) f (by omega) (by omega) (fun j h => ?_))
        rcases Nat.lt_or_ge j i with z | z
        · exact hj j z
        · have e : j = i := by omega
          rw [e]; exact p
theorem cf_scan0 (W : Nat → Nat → Prop) (P : Nat → Prop) (n : Nat) (hx : ∀ f, (∀ j, j < n → ¬ P j) → W (f + 1) n) (hp : ∀ f i, i < n → P i → (∀ j, j < i → ¬ P j) → W (f + 1) i) (hn : ∀ f i, i < n → ¬ P i → W f (i + 1) → W (f + 1) i) : ∃ f, W f 0 :=
  ⟨n + 1, cf_scan W P n hx hp hn n 0 (n + 1) (by omega) (by omega) (fun j h => absurd h (Nat.not_lt_zero j))⟩
theorem cf_fold {σ : Type} (W : Nat → Nat → σ → Prop) (S : Nat → σ) (n : Nat) (hx : ∀ f, W (f + 1) n (S n)) (hs : ∀ f i, i < n → W f (i + 1) (S (i + 1)) → W (f + 1) i (S i)) : ∀ d i f, i + d = n → d < f → W f i (S i) := by
  intro d
  induction d with
  | zero =>
    intro i f hi hf
    have e : i = n := by omega
    subst e
    cases f with
    | zero => omega
    | succ f => exact hx f
  | succ d ih =>
    intro i f hi hf
    cases f with
    | zero => omega
    | succ f => exact hs f i (by omega) (ih (i + 1) f (by omega) (by omega))
theorem cf_fold0 {σ : Type} (W : Nat → Nat → σ → Prop) (S : Nat → σ) (n : Nat) (hx : ∀ f, W (f + 1) n (S n)) (hs : ∀ f i, i < n → W f (i + 1) (S (i + 1)) → W (f + 1) i (S i)) : ∃ f, W f 0 (S 0) :=
  ⟨n + 1, cf_fold W S n hx hs n 0 (n + 1) (by omega) (by omega)⟩
theorem cf_rd {a : Nat → Int32} {t : Nat → Nat} (hb : ∀ j, a j = nI (t j)) {x : Int32} (i : Nat) (hx : x = nI i := by rfl) (h : i < 2 ^ 31 := by omega) : a x.toNatClampNeg = nI (t i) := by
  rw [pk_cl i hx h]
  exact hb i
end
section
/-! what both sides keep, and how it lasts -/
def cf_K (a : Nat → Int32) (n : Nat) (l : List Nat) : Prop := l.length = n ∧ cf_T a l
theorem cf_Ka {a : Nat → Int32} {n : Nat} {l : List Nat} (c : Nat) (h : cf_K a n l) : cf_K (upd a n (nI c)) (n + 1) (l ++ [c]) := by
  obtain ⟨rfl, h⟩ := h
  exact ⟨by rw [List.length_append]; rfl, cf_Ta c h⟩
theorem cf_K0 (a : Nat → Int32) : cf_K a 0 [] := ⟨rfl, cf_T0 a⟩
theorem cf_Kg {a : Nat → Int32} {n : Nat} {l : List Nat} (h : cf_K a n l) {j : Nat} (hj : j < n) : a j = nI (l.getD j 0) := h.2 j (by rw [h.1]; exact hj)
def cf_U (hc uch : Nat) (pool st ln pt uh : Nat → Int32) (u : Nat) : Prop :=
  ∃ s n p a h, st u = nI s ∧ ln u = nI n ∧ pt u = nI p ∧ uh u = nI h ∧ h < hc ∧ s + n ≤ uch ∧ a + 2 ≤ p ∧ p < n ∧ pool (s + a) = 47 ∧ pool (s + (a + 1)) = 47 ∧ pool (s + p) = 47 ∧ ∀ j, j < p → j ≠ a → j ≠ a + 1 → pool (s + j) ≠ 47
def cf_H (nl sent uh us : Nat → Int32) (uc h : Nat) : Prop := (∃ n, n ≤ 16 ∧ nl h = nI n) ∧ sent h = nI (cf_ct (fun u => uh u = nI h ∧ us u = 2) uc)
def cf_Ru (rch : Nat) (rs rl : Nat → Int32) (r : Nat) : Prop := ∃ s n, rs r = nI s ∧ rl r = nI n ∧ s + n ≤ rch
def cf_BT (b : Nat → Int32) : Prop := ∃ t : Nat → Nat, (∀ j, b j = nI (t j)) ∧ ∀ j, t j ≤ 126
theorem cf_BTu {b : Nat → Int32} {m : Nat} (h : cf_BT b) (hm : m ≤ 126) (i : Nat) : cf_BT (upd b i (nI m)) := by
  obtain ⟨t, h1, h2⟩ := h
  refine ⟨fun j => if j = i then m else t j, fun j => ?_, fun j => ?_⟩
  · show upd b i (nI m) j = nI (if j = i then m else t j)
    by_cases e : j = i
    · subst e
      rw [pk_us, if_pos rfl]
    · rw [pk_un e, if_neg e]
      exact h1 j
  · show (if j = i then m else t j) ≤ 126
    split
    · exact hm
    · exact h2 j
theorem cf_BT0 : cf_BT (fun _ => 0) := ⟨fun _ => 0, fun _ => rfl, fun _ => Nat.zero_le _⟩
theorem cf_rK {a : Nat → Int32} {n : Nat} {l : List Nat} (h : cf_K a n l) {x : Int32} (i : Nat) (hi : i < n) (hx : x = nI i := by rfl) (hn : i < 2 ^ 31 := by omega) : a x.toNatClampNeg = nI (l.getD i 0) := by
  rw [pk_cl i hx hn]
  exact cf_Kg h hi
def cf_IU (mu uc uch hc : Nat) (pool st ln pt uh : Nat → Int32) : Prop := mu ≤ 32 ∧ uc ≤ mu ∧ uch ≤ 256 ∧ nI uch = cf_sm ln uc ∧ ∀ u, u < uc → cf_U hc uch pool st ln pt uh u
def cf_IH (hc uc : Nat) (nl sent uh us : Nat → Int32) : Prop := hc ≤ 8 ∧ ∀ h, h < hc → cf_H nl sent uh us uc h
def cf_IR (rc rch : Nat) (rs rl : Nat → Int32) : Prop := rc ≤ 8 ∧ rch ≤ 128 ∧ nI rch = cf_sm rl rc ∧ ∀ r, r < rc → cf_Ru rch rs rl r
theorem cf_47 {x : Nat} (h : x < 2 ^ 31) : nI x = 47 ↔ x = 47 := nI_eq (b := 47) h (by decide)
theorem cf_IUh {mu uc uch hc hc' : Nat} {pool st ln pt uh : Nat → Int32} (h : cf_IU mu uc uch hc pool st ln pt uh) (hh : hc ≤ hc') : cf_IU mu uc uch hc' pool st ln pt uh := by
  obtain ⟨a, b, c, d, e⟩ := h
  refine ⟨a, b, c, d, fun u hu => ?_⟩
  obtain ⟨s, n, p, x, k, e1, e2, e3, e4, e5, e6⟩ := e u hu
  exact ⟨s, n, p, x, k, e1, e2, e3, e4, by omega, e6⟩
theorem cf_IUa {mu uc uch hc n P h : Nat} {pool st ln pt uh c : Nat → Int32} {l : List Nat} (I : cf_IU mu uc uch hc pool st ln pt uh) (h1 : uc < mu) (h2 : uch + n ≤ 256) (hT : cf_TS l P) (hb : ∀ j, l.getD j 0 < 2 ^ 31) (hK : cf_K c n l) (hh : h < hc) :
    cf_IU mu (uc + 1) (uch + n) hc (cf_cp pool uch c 0 n) (upd st uc (nI uch)) (upd ln uc (nI n)) (upd pt uc (nI P)) (upd uh uc (nI h)) := by
  obtain ⟨a, b, d, e, f⟩ := I
  refine ⟨a, h1, h2, ?_, fun u hu => ?_⟩
  · show _ = cf_sm (upd ln uc (nI n)) uc + upd ln uc (nI n) uc
    rw [pk_us, cf_smE (g := ln) uc (fun j hj => pk_un (by omega)), ← e, nI_add]
  · rcases Nat.lt_or_ge u uc with z | z
    · obtain ⟨s, m, p, x, k, e1, e2, e3, e4, e5, e6, e7, e8, e9, e10, e11, e12⟩ := f u z
      have o : ∀ q, q < uch → cf_cp pool uch c 0 n q = pool q := fun q hq => cf_cpO n (Or.inl hq)
      refine ⟨s, m, p, x, k, by rw [pk_un (by omega)]; exact e1, by rw [pk_un (by omega)]; exact e2, by rw [pk_un (by omega)]; exact e3, by rw [pk_un (by omega)]; exact e4, e5, by omega, e7, e8, ?_, ?_, ?_, ?_⟩
      · rw [o _ (by omega)]; exact e9
      · rw [o _ (by omega)]; exact e10
      · rw [o _ (by omega)]; exact e11
      · intro j hj n1 n2
        rw [o _ (by omega)]; exact e12 j hj n1 n2
    · have eu : u = uc := by omega
      subst eu
      obtain ⟨x, t1, t2, t3, t4, t5, t6⟩ := hT
      have o : ∀ j, j < n → cf_cp pool uch c 0 n (uch + j) = nI (l.getD j 0) := by
        intro j hj
        rw [cf_cpI n j hj, Nat.zero_add]
        exact cf_Kg hK hj
      have hl : l.length = n := hK.1
      refine ⟨uch, n, P, x, h, pk_us, pk_us, pk_us, pk_us, hh, Nat.le_refl _, t1, by omega, ?_, ?_, ?_, ?_⟩
      · rw [o _ (by omega), t3]; rfl
      · rw [o _ (by omega), t4]; rfl
      · rw [o _ (by omega), t5]; rfl
      · intro j hj n1 n2
        rw [o _ (by omega)]
        exact fun z => t6 j hj n1 n2 ((cf_47 (hb j)).mp z)
theorem cf_IHu {hc uc : Nat} {nl sent uh us : Nat → Int32} {x : Int32} (I : cf_IH hc uc nl sent uh us) : cf_IH hc (uc + 1) nl sent (upd uh uc x) (upd us uc 1) := by
  refine ⟨I.1, fun h hh => ?_⟩
  obtain ⟨a, b⟩ := I.2 h hh
  refine ⟨a, ?_⟩
  have n : ¬ (fun u => upd uh uc x u = nI h ∧ upd us uc 1 u = 2) uc := by
    intro z
    have z2 : upd us uc 1 uc = 2 := z.2
    rw [pk_us] at z2
    exact absurd z2 (by decide)
  rw [b, cf_ctF n]
  refine congrArg nI (cf_ctE uc (fun j hj => ?_))
  show (uh j = nI h ∧ us j = 2) ↔ (upd uh uc x j = nI h ∧ upd us uc 1 j = 2)
  rw [pk_un (by omega), pk_un (by omega)]
theorem cf_IHh {hc uc n : Nat} {nl sent uh us : Nat → Int32} (I : cf_IH hc uc nl sent uh us) (h8 : hc < 8) (hn : n ≤ 16) (hu : ∀ u, u < uc → ∃ h, h < hc ∧ uh u = nI h) : cf_IH (hc + 1) uc (upd nl hc (nI n)) (upd sent hc 0) uh us := by
  refine ⟨h8, fun h hh => ?_⟩
  rcases Nat.lt_or_ge h hc with z | z
  · obtain ⟨a, b⟩ := I.2 h z
    unfold cf_H
    rw [pk_un (by omega), pk_un (by omega)]
    exact ⟨a, b⟩
  · have e : h = hc := by omega
    subst e
    refine ⟨⟨n, hn, pk_us⟩, ?_⟩
    rw [pk_us]
    have z : cf_ct (fun u => uh u = nI h ∧ us u = 2) uc = 0 := by
      rcases Nat.eq_zero_or_pos (cf_ct (fun u => uh u = nI h ∧ us u = 2) uc) with y | y
      · exact y
      · obtain ⟨j, hj, pj, -⟩ := (cf_ctP uc).mp y
        obtain ⟨k, hk, ek⟩ := hu j hj
        rw [pj, nI_eq (by omega) (by omega)] at ek
        omega
    rw [z]
    rfl
theorem cf_IRa {rc rch n : Nat} {rs rl : Nat → Int32} (I : cf_IR rc rch rs rl) (h8 : rc < 8) (hn : rch + n ≤ 128) : cf_IR (rc + 1) (rch + n) (upd rs rc (nI rch)) (upd rl rc (nI n)) := by
  obtain ⟨a, b, c, d⟩ := I
  refine ⟨h8, hn, ?_, fun r hr => ?_⟩
  · show _ = cf_sm (upd rl rc (nI n)) rc + upd rl rc (nI n) rc
    rw [pk_us, cf_smE (g := rl) rc (fun j hj => pk_un (by omega)), ← c, nI_add]
  · rcases Nat.lt_or_ge r rc with z | z
    · obtain ⟨s, m, e1, e2, e3⟩ := d r z
      exact ⟨s, m, by rw [pk_un (by omega)]; exact e1, by rw [pk_un (by omega)]; exact e2, by omega⟩
    · have e : r = rc := by omega
      subst e
      exact ⟨rch, n, pk_us, pk_us, Nat.le_refl _⟩
theorem cf_IHb {hc uc : Nat} {nl sent uh us us' : Nat → Int32} (I : cf_IH hc uc nl sent uh us) (h : ∀ j, us' j = us j ∨ (us j = 1 ∧ us' j = 3)) : cf_IH hc uc nl sent uh us' := by
  refine ⟨I.1, fun k hk => ?_⟩
  obtain ⟨a, b⟩ := I.2 k hk
  refine ⟨a, ?_⟩
  rw [b]
  refine congrArg nI (cf_ctE uc (fun j hj => ?_))
  show (uh j = nI k ∧ us j = 2) ↔ (uh j = nI k ∧ us' j = 2)
  rcases h j with e | ⟨e1, e2⟩
  · rw [e]
  · rw [e1, e2]
    exact ⟨fun z => absurd z.2 (by decide), fun z => absurd z.2 (by decide)⟩
theorem cf_IHd {hc uc a b : Nat} {nl sent uh us : Nat → Int32} (I : cf_IH hc uc nl sent uh us) (ha : a < uc) (hs : us a = 1) (hu : uh a = nI b) (hb : b < hc) : cf_IH hc uc nl (upd sent b (sent b + 1)) uh (upd us a 2) := by
  have h8 := I.1
  refine ⟨h8, fun k hk => ?_⟩
  obtain ⟨x, y⟩ := I.2 k hk
  refine ⟨x, ?_⟩
  by_cases e : k = b
  · subst e
    rw [pk_us, y, nI_1]
    have n1 : ¬ (fun u => uh u = nI k ∧ us u = 2) a := by
      intro z
      have z2 : us a = 2 := z.2
      rw [hs] at z2
      exact absurd z2 (by decide)
    have n2 : (fun u => uh u = nI k ∧ upd us a 2 u = 2) a := ⟨hu, pk_us⟩
    have key := cf_ct1 n1 n2 uc ha (fun j hj n => by
      show (uh j = nI k ∧ us j = 2) ↔ (uh j = nI k ∧ upd us a 2 j = 2)
      rw [pk_un n])
    rw [key]
  · rw [pk_un e, y]
    refine congrArg nI (cf_ctE uc (fun j hj => ?_))
    show (uh j = nI k ∧ us j = 2) ↔ (uh j = nI k ∧ upd us a 2 j = 2)
    by_cases ej : j = a
    · subst ej
      have n : ¬ uh j = nI k := by
        rw [hu, nI_eq (by omega) (by omega)]
        omega
      exact ⟨fun z => absurd z.1 n, fun z => absurd z.1 n⟩
    · rw [pk_un ej]
end
section
/-! the class: characters, append, the end of a part -/
theorem cf_eqc {x : Int32} {A B : Prop} (a b : Nat) (hx : x = nI a) (ha : a ≤ 70000) (f : a = b → A) (g : a ≠ b → B) (hb : b < 2 ^ 31 := by omega) : (x = nI b → A) ∧ (¬ x = nI b → B) := by
  subst hx
  rw [nI_eq (by omega) hb]
  exact ⟨f, g⟩
section
variable {f_maxUrls f_defaultDelay f_clock f_bufferLength f_canonLength f_canonHost f_canonHostLength f_canonPath f_schemePort f_partLength f_urlCount f_urlChars f_hostCount f_ruleCount f_ruleChars : Int32} {a_buffer a_canon a_part a_urlPool a_urlStart a_urlLength a_urlPath a_urlHost a_urlState a_urlTime a_names a_nameLength a_hostDelay a_hostNext a_rulePool a_ruleStart a_ruleLength a_ruleHost : Nat → Int32}
variable {t : Nat → Nat} {L : Nat}
theorem cx_rank {post : Int32 → Prop} {x : Int32} (c : Nat) (hx : x = nI c) (hc : c ≤ 126) (h : ∀ k, k ≤ 5 → (∀ r, 1 ≤ r → r ≤ 4 → (k ≤ r ↔ cf_rk r c)) → post (nI k)) : wpX_delimiterRank post x := by
  subst hx
  refine pk_eq c 35 (fun e => h 1 (by omega) (fun r h1 h2 => by unfold cf_rk; omega)) (fun e1 => pk_eq c 47 (fun e => h 3 (by omega) (fun r h1 h2 => by unfold cf_rk; omega)) (fun e2 => pk_eq c 58 (fun e => h 4 (by omega) (fun r h1 h2 => by unfold cf_rk; omega)) (fun e3 => pk_eq c 63 (fun e => h 2 (by omega) (fun r h1 h2 => by unfold cf_rk; omega)) (fun e4 => h 5 (by omega) (fun r h1 h2 => by unfold cf_rk; omega)))))
theorem cx_partEnd {post : Int32 → Prop} {i r : Nat} (hb : ∀ j, a_buffer j = nI (t j)) (ht : ∀ j, t j ≤ 126) (hi : i ≤ L) (hL : L ≤ 48) (hr : 1 ≤ r ∧ r ≤ 4) (h : ∀ e, cf_IE r t L i e → post (nI e)) : wpX_partEnd post (f_maxUrls, f_defaultDelay, f_clock, nI L, f_canonLength, f_canonHost, f_canonHostLength, f_canonPath, f_schemePort, f_partLength, f_urlCount, f_urlChars, f_hostCount, f_ruleCount, f_ruleChars, a_buffer, a_canon, a_part, a_urlPool, a_urlStart, a_urlLength, a_urlPath, a_urlHost, a_urlState, a_urlTime, a_names, a_nameLength, a_hostDelay, a_hostNext, a_rulePool, a_ruleStart, a_ruleLength, a_ruleHost) (nI i) (nI r) := by
  have key : ∀ d k f, k + d = L → d < f → i ≤ k → (∀ j, i ≤ j → j < k → ¬ cf_rk r (t j)) → wX_partEnd_2 post (nI r) f_maxUrls f_defaultDelay f_clock (nI L) f_canonLength f_canonHost f_canonHostLength f_canonPath f_schemePort f_partLength f_urlCount f_urlChars f_hostCount f_ruleCount f_ruleChars a_buffer a_canon a_part a_urlPool a_urlStart a_urlLength a_urlPath a_urlHost a_urlState a_urlTime a_names a_nameLength a_hostDelay a_hostNext a_rulePool a_ruleStart a_ruleLength a_ruleHost f (nI k) := by
    intro d
    induction d with
    | zero =>
      intro k f hk hf hik hj
      cases f with
      | zero => omega
      | succ f => exact pk_le L k (fun _ => h L ⟨hi, Nat.le_refl _, fun j h1 h2 => hj j h1 (by omega), fun z => by omega⟩) (fun z => by omega)
    | succ d ih =>
      intro k f hk hf hik hj
      cases f with
      | zero => omega
      | succ f =>
        refine pk_le L k (fun z => by omega) (fun z => ⟨pk_in k 48 (by omega), cx_rank (t k) (cf_rd hb k) (ht k) (fun q hq hqr => ?_)⟩)
        have hq2 := hqr r hr.1 hr.2
        refine pk_lt r q (fun z1 => nm_r (nI_1 k) (ih (k + 1) f (by omega) (by omega) (by omega) (fun j h1 h2 => ?_))) (fun z1 => h k ⟨hik, by omega, hj, fun _ => hq2.mp z1⟩)
        rcases Nat.lt_or_ge j k with y | y
        · exact hj j h1 y
        · have e : j = k := by omega
          rw [e]
          exact fun w => absurd (hq2.mpr w) (by omega)
  exact ⟨L - i + 1, key (L - i) i _ (by omega) (by omega) (Nat.le_refl _) (fun j h1 h2 => by omega)⟩
theorem cx_lower {post : Int32 → Prop} {x : Int32} (c : Nat) (hx : x = nI c) (hc : c ≤ 126) (h : post (nI (cf_lo c))) : wpX_lower post x := by
  subst hx
  refine pk_lt c 65 (fun z => ?_) (fun z => pk_lt 90 c (fun z2 => ?_) (fun z2 => ?_))
  · have e : cf_lo c = c := by unfold cf_lo; rw [if_neg (by omega)]
    rw [e] at h
    exact h
  · have e : cf_lo c = c := by unfold cf_lo; rw [if_neg (by omega)]
    rw [e] at h
    exact h
  · have e : cf_lo c = c + 32 := by unfold cf_lo; rw [if_pos (by omega)]
    rw [e, ← nI_add] at h
    exact h
theorem cx_app {post : SX → Prop} {x : Int32} {n : Nat} {l : List Nat} (c : Nat) (hx : x = nI c) (hn : n < 49) (hK : cf_K a_canon n l) (h : ∀ a, cf_K a (n + 1) (l ++ [c]) → post (f_maxUrls, f_defaultDelay, f_clock, f_bufferLength, nI (n + 1), f_canonHost, f_canonHostLength, f_canonPath, f_schemePort, f_partLength, f_urlCount, f_urlChars, f_hostCount, f_ruleCount, f_ruleChars, a_buffer, a, a_part, a_urlPool, a_urlStart, a_urlLength, a_urlPath, a_urlHost, a_urlState, a_urlTime, a_names, a_nameLength, a_hostDelay, a_hostNext, a_rulePool, a_ruleStart, a_ruleLength, a_ruleHost)) : wpX_append post (f_maxUrls, f_defaultDelay, f_clock, f_bufferLength, nI n, f_canonHost, f_canonHostLength, f_canonPath, f_schemePort, f_partLength, f_urlCount, f_urlChars, f_hostCount, f_ruleCount, f_ruleChars, a_buffer, a_canon, a_part, a_urlPool, a_urlStart, a_urlLength, a_urlPath, a_urlHost, a_urlState, a_urlTime, a_names, a_nameLength, a_hostDelay, a_hostNext, a_rulePool, a_ruleStart, a_ruleLength, a_ruleHost) x := by
  subst hx
  refine pk_le 49 n (fun z => by omega) (fun z => ⟨pk_in n 49 hn, ?_⟩)
  refine nm_r (e' := upd a_canon n (nI c)) (by rw [pk_cl n]) (nm_r (nI_1 n) (h _ (cf_Ka c hK)))
theorem cx_addp {post : SX → Prop} {x : Int32} {n : Nat} {l : List Nat} (c : Nat) (hx : x = nI c) (hn : n < 48) (hK : cf_K a_part n l) (h : ∀ a, cf_K a (n + 1) (l ++ [c]) → post (f_maxUrls, f_defaultDelay, f_clock, f_bufferLength, f_canonLength, f_canonHost, f_canonHostLength, f_canonPath, f_schemePort, nI (n + 1), f_urlCount, f_urlChars, f_hostCount, f_ruleCount, f_ruleChars, a_buffer, a_canon, a, a_urlPool, a_urlStart, a_urlLength, a_urlPath, a_urlHost, a_urlState, a_urlTime, a_names, a_nameLength, a_hostDelay, a_hostNext, a_rulePool, a_ruleStart, a_ruleLength, a_ruleHost)) : wpX_addToPart post (f_maxUrls, f_defaultDelay, f_clock, f_bufferLength, f_canonLength, f_canonHost, f_canonHostLength, f_canonPath, f_schemePort, nI n, f_urlCount, f_urlChars, f_hostCount, f_ruleCount, f_ruleChars, a_buffer, a_canon, a_part, a_urlPool, a_urlStart, a_urlLength, a_urlPath, a_urlHost, a_urlState, a_urlTime, a_names, a_nameLength, a_hostDelay, a_hostNext, a_rulePool, a_ruleStart, a_ruleLength, a_ruleHost) x := by
  subst hx
  refine pk_le 48 n (fun z => by omega) (fun z => ⟨pk_in n 48 hn, ?_⟩)
  refine nm_r (e' := upd a_part n (nI c)) (by rw [pk_cl n]) (nm_r (nI_1 n) (h _ (cf_Ka c hK)))
theorem cx_isDigit {post : Int32 → Prop} {x : Int32} (c : Nat) (hx : x = nI c) (hc : c ≤ 126) (h1 : 48 ≤ c ∧ c ≤ 57 → post 1) (h0 : ¬ (48 ≤ c ∧ c ≤ 57) → post 0) : wpX_isDigit post x := by
  subst hx
  exact pk_lt c 48 (fun z => h0 (by omega)) (fun z => pk_lt 57 c (fun z2 => h0 (by omega)) (fun z2 => h1 (by omega)))
theorem cx_host36 {post : Int32 → Prop} {c : Nat} (hc : c ≤ 255) (hn : ¬ ((97 ≤ c ∧ c ≤ 122) ∨ (65 ≤ c ∧ c ≤ 90) ∨ (48 ≤ c ∧ c ≤ 57))) (h1 : cf_HC c → post 1) (h0 : ¬ cf_HC c → post 0) : wX_isHostCharacter_36 post (nI c) :=
  pk_eq c 45 (fun z => h1 (by unfold cf_HC; omega)) (fun z => pk_eq c 46 (fun z2 => h1 (by unfold cf_HC; omega)) (fun z2 => h0 (by unfold cf_HC; omega)))
theorem cx_host24 {post : Int32 → Prop} {c : Nat} (hc : c ≤ 255) (hn : ¬ ((97 ≤ c ∧ c ≤ 122) ∨ (65 ≤ c ∧ c ≤ 90))) (h1 : cf_HC c → post 1) (h0 : ¬ cf_HC c → post 0) : wX_isHostCharacter_24 post (nI c) :=
  pk_lt c 48 (fun z => cx_host36 hc (by omega) h1 h0) (fun z => pk_le c 57 (fun z2 => h1 (by unfold cf_HC; omega)) (fun z2 => cx_host36 hc (by omega) h1 h0))
theorem cx_host12 {post : Int32 → Prop} {c : Nat} (hc : c ≤ 255) (hn : ¬ (97 ≤ c ∧ c ≤ 122)) (h1 : cf_HC c → post 1) (h0 : ¬ cf_HC c → post 0) : wX_isHostCharacter_12 post (nI c) :=
  pk_lt c 65 (fun z => cx_host24 hc (by omega) h1 h0) (fun z => pk_le c 90 (fun z2 => h1 (by unfold cf_HC; omega)) (fun z2 => cx_host24 hc (by omega) h1 h0))
theorem cx_isHost {post : Int32 → Prop} {x : Int32} (c : Nat) (hx : x = nI c) (hc : c ≤ 255) (h1 : cf_HC c → post 1) (h0 : ¬ cf_HC c → post 0) : wpX_isHostCharacter post x := by
  subst hx
  exact pk_lt c 97 (fun z => cx_host12 hc (by omega) h1 h0) (fun z => pk_le c 122 (fun z2 => h1 (by unfold cf_HC; omega)) (fun z2 => cx_host12 hc (by omega) h1 h0))
theorem cx_hex32 {post : Int32 → Prop} {c : Nat} (hc : c ≤ 126) (hn : ¬ (48 ≤ c ∧ c ≤ 57) ∧ ¬ (65 ≤ c ∧ c ≤ 70)) (h1 : cf_hv c < 16 → post (nI (cf_hv c))) (h0 : ¬ cf_hv c < 16 → post (-1)) : wX_hexValue_32 post (nI c) := by
  refine pk_lt c 97 (fun z => h0 ?_) (fun z => pk_lt 102 c (fun z2 => h0 ?_) (fun z2 => ?_))
  · unfold cf_hv; rw [if_neg hn.1, if_neg hn.2, if_neg (by omega)]; omega
  · unfold cf_hv; rw [if_neg hn.1, if_neg hn.2, if_neg (by omega)]; omega
  · have e : cf_hv c = c - 97 + 10 := by unfold cf_hv; rw [if_neg hn.1, if_neg hn.2, if_pos (by omega)]; omega
    have h := h1 (by omega)
    rw [e, ← nI_add, ← pk_sub (by omega)] at h
    exact h
theorem cx_hex {post : Int32 → Prop} {x : Int32} (c : Nat) (hx : x = nI c) (hc : c ≤ 126) (h1 : cf_hv c < 16 → post (nI (cf_hv c))) (h0 : ¬ cf_hv c < 16 → post (-1)) : wpX_hexValue post x := by
  subst hx
  refine cx_isDigit c rfl hc (fun z => br_f (by decide) ?_) (fun z => br_t rfl (pk_lt c 65 (fun z1 => cx_hex32 hc ⟨z, by omega⟩ h1 h0) (fun z1 => pk_lt 70 c (fun z2 => cx_hex32 hc ⟨z, by omega⟩ h1 h0) (fun z2 => ?_))))
  · have e : cf_hv c = c - 48 := by unfold cf_hv; rw [if_pos z]
    have h := h1 (by omega)
    rw [e, ← pk_sub (by omega)] at h
    exact h
  · have e : cf_hv c = c - 65 + 10 := by unfold cf_hv; rw [if_neg z, if_pos (by omega)]; omega
    have h := h1 (by omega)
    rw [e, ← nI_add, ← pk_sub (by omega)] at h
    exact h
theorem cx_hexd {post : Int32 → Prop} {v : Nat} (hv : v < 16) (h : post (nI (cf_hd v))) : wpX_hexDigit post (nI v) := by
  refine pk_le 10 v (fun z => ?_) (fun z => ?_)
  · have e : cf_hd v = 65 + v - 10 := by unfold cf_hd; rw [if_neg (by omega)]; omega
    rw [e, ← pk_sub (by omega), ← nI_add] at h
    exact h
  · have e : cf_hd v = 48 + v := by unfold cf_hd; rw [if_pos z]
    rw [e, ← nI_add] at h
    exact h
end
end
section
/-! the class: scheme and host -/
theorem cf_ix {a : Nat → Int32} {x y : Int32} (i : Nat) (hx : x = nI i) (hi : i < 2 ^ 31) (h : a i = y) : a x.toNatClampNeg = y := by
  rw [pk_cl i hx hi]
  exact h
section
variable {f_maxUrls f_defaultDelay f_clock f_bufferLength f_canonLength f_canonHost f_canonHostLength f_canonPath f_schemePort f_partLength f_urlCount f_urlChars f_hostCount f_ruleCount f_ruleChars : Int32} {a_buffer a_canon a_part a_urlPool a_urlStart a_urlLength a_urlPath a_urlHost a_urlState a_urlTime a_names a_nameLength a_hostDelay a_hostNext a_rulePool a_ruleStart a_ruleLength a_ruleHost : Nat → Int32}
variable {t : Nat → Nat} {L : Nat}
theorem cx_s0 {post : Int32 → SX → Prop} {e m : Nat} {s : Int32} (he : e ≤ 5) (h : post (-1) (f_maxUrls, f_defaultDelay, f_clock, f_bufferLength, f_canonLength, f_canonHost, f_canonHostLength, f_canonPath, f_schemePort, f_partLength, f_urlCount, f_urlChars, f_hostCount, f_ruleCount, f_ruleChars, a_buffer, a_canon, a_part, a_urlPool, a_urlStart, a_urlLength, a_urlPath, a_urlHost, a_urlState, a_urlTime, a_names, a_nameLength, a_hostDelay, a_hostNext, a_rulePool, a_ruleStart, a_ruleLength, a_ruleHost)) : wX_takeScheme_121 post (nI e) (nI m) 0 s f_maxUrls f_defaultDelay f_clock f_bufferLength f_canonLength f_canonHost f_canonHostLength f_canonPath f_schemePort f_partLength f_urlCount f_urlChars f_hostCount f_ruleCount f_ruleChars a_buffer a_canon a_part a_urlPool a_urlStart a_urlLength a_urlPath a_urlHost a_urlState a_urlTime a_names a_nameLength a_hostDelay a_hostNext a_rulePool a_ruleStart a_ruleLength a_ruleHost :=
  ⟨pk_in e 49 (by omega), br_c (fun _ => ⟨pk_in (e + 1) 49 (by omega) (nI_1 e), br_c (fun _ => ⟨pk_in (e + 2) 49 (by omega) (nI_add e 2), br_c (fun _ => br_t rfl h) (fun _ => br_t rfl h)⟩) (fun _ => br_t rfl h)⟩) (fun _ => br_t rfl h)⟩
theorem cx_s1 {post : Int32 → SX → Prop} {e m : Nat} {s : Int32} (hs : (s = 0 ∧ e = 4) ∨ (s = 1 ∧ e = 5)) (hm : m = e + 3) (hL : m ≤ L) (ht : ∀ j, t j ≤ 126) (q : ∀ k, k < m → a_canon k = nI (cf_lo (t k))) (hH : cf_lo (t 0) = 104 ∧ cf_lo (t 1) = 116 ∧ cf_lo (t 2) = 116 ∧ cf_lo (t 3) = 112) (hN : ¬ cf_Sch t L e → post (-1) (f_maxUrls, f_defaultDelay, f_clock, f_bufferLength, f_canonLength, f_canonHost, f_canonHostLength, f_canonPath, f_schemePort, f_partLength, f_urlCount, f_urlChars, f_hostCount, f_ruleCount, f_ruleChars, a_buffer, a_canon, a_part, a_urlPool, a_urlStart, a_urlLength, a_urlPath, a_urlHost, a_urlState, a_urlTime, a_names, a_nameLength, a_hostDelay, a_hostNext, a_rulePool, a_ruleStart, a_ruleLength, a_ruleHost)) (hY : cf_Sch t L e → post (nI m) (f_maxUrls, f_defaultDelay, f_clock, f_bufferLength, f_canonLength, f_canonHost, f_canonHostLength, f_canonPath, nI (cf_dp e), f_partLength, f_urlCount, f_urlChars, f_hostCount, f_ruleCount, f_ruleChars, a_buffer, a_canon, a_part, a_urlPool, a_urlStart, a_urlLength, a_urlPath, a_urlHost, a_urlState, a_urlTime, a_names, a_nameLength, a_hostDelay, a_hostNext, a_rulePool, a_ruleStart, a_ruleLength, a_ruleHost)) : wX_takeScheme_121 post (nI e) (nI m) 1 s f_maxUrls f_defaultDelay f_clock f_bufferLength f_canonLength f_canonHost f_canonHostLength f_canonPath f_schemePort f_partLength f_urlCount f_urlChars f_hostCount f_ruleCount f_ruleChars a_buffer a_canon a_part a_urlPool a_urlStart a_urlLength a_urlPath a_urlHost a_urlState a_urlTime a_names a_nameLength a_hostDelay a_hostNext a_rulePool a_ruleStart a_ruleLength a_ruleHost := by
  have hl : ∀ k, cf_lo (t k) ≤ 70000 := fun k => Nat.le_trans (cf_loB (ht k)) (by decide)
  have he : e = 4 ∨ e = 5 := by rcases hs with ⟨-, h⟩ | ⟨-, h⟩ <;> omega
  refine ⟨pk_in e 49 (by omega), cf_eqc (cf_lo (t e)) 58 (cf_ix e rfl (by omega) (q e (by omega))) (hl e) (fun z1 => ⟨pk_in (e + 1) 49 (by omega) (nI_1 e), cf_eqc (cf_lo (t (e + 1))) 47 (cf_ix (e + 1) (nI_1 e) (by omega) (q (e + 1) (by omega))) (hl _) (fun z2 => ⟨pk_in (e + 2) 49 (by omega) (nI_add e 2), cf_eqc (cf_lo (t (e + 2))) 47 (cf_ix (e + 2) (nI_add e 2) (by omega) (q (e + 2) (by omega))) (hl _) (fun z3 => br_f (by decide) (br_f (by decide) ?_)) (fun z3 => br_f (by decide) (br_t rfl (hN (fun w => z3 (cf_lo47.mpr w.2.2.2.2.2.2.2.2.2)))))⟩) (fun z2 => br_f (by decide) (br_t rfl (hN (fun w => z2 (cf_lo47.mpr w.2.2.2.2.2.2.2.2.1)))))⟩) (fun z1 => br_f (by decide) (br_t rfl (hN (fun w => z1 (cf_lo58.mpr w.2.2.2.2.2.2.2.1)))))⟩
  rcases hs with ⟨rfl, rfl⟩ | ⟨rfl, rfl⟩
  · exact br_t rfl (br_t rfl (hY ⟨Or.inl rfl, by omega, hH.1, hH.2.1, hH.2.2.1, hH.2.2.2, fun z => by omega, cf_lo58.mp z1, cf_lo47.mp z2, cf_lo47.mp z3⟩))
  · exact br_f (by decide) (cf_eqc (cf_lo (t 4)) 115 (q 4 (by omega)) (hl 4) (fun z4 => br_f (by decide) (hY ⟨Or.inr rfl, by omega, hH.1, hH.2.1, hH.2.2.1, hH.2.2.2, fun _ => z4, cf_lo58.mp z1, cf_lo47.mp z2, cf_lo47.mp z3⟩)) (fun z4 => hN (fun w => z4 (w.2.2.2.2.2.2.1 rfl))))
theorem cx_schExit {post : Int32 → SX → Prop} {e m : Nat} (he : e = 4 ∨ e = 5) (hm : m = e + 3) (hL : m ≤ L) (ht : ∀ j, t j ≤ 126) (q : ∀ k, k < m → a_canon k = nI (cf_lo (t k))) (hN : ¬ cf_Sch t L e → post (-1) (f_maxUrls, f_defaultDelay, f_clock, f_bufferLength, f_canonLength, f_canonHost, f_canonHostLength, f_canonPath, f_schemePort, f_partLength, f_urlCount, f_urlChars, f_hostCount, f_ruleCount, f_ruleChars, a_buffer, a_canon, a_part, a_urlPool, a_urlStart, a_urlLength, a_urlPath, a_urlHost, a_urlState, a_urlTime, a_names, a_nameLength, a_hostDelay, a_hostNext, a_rulePool, a_ruleStart, a_ruleLength, a_ruleHost)) (hY : cf_Sch t L e → post (nI m) (f_maxUrls, f_defaultDelay, f_clock, f_bufferLength, f_canonLength, f_canonHost, f_canonHostLength, f_canonPath, nI (cf_dp e), f_partLength, f_urlCount, f_urlChars, f_hostCount, f_ruleCount, f_ruleChars, a_buffer, a_canon, a_part, a_urlPool, a_urlStart, a_urlLength, a_urlPath, a_urlHost, a_urlState, a_urlTime, a_names, a_nameLength, a_hostDelay, a_hostNext, a_rulePool, a_ruleStart, a_ruleLength, a_ruleHost)) (f : Nat) : wX_takeScheme_33 post (nI e) (nI m) (f + 1) (nI m) f_maxUrls f_defaultDelay f_clock f_bufferLength f_canonLength f_canonHost f_canonHostLength f_canonPath f_schemePort f_partLength f_urlCount f_urlChars f_hostCount f_ruleCount f_ruleChars a_buffer a_canon a_part a_urlPool a_urlStart a_urlLength a_urlPath a_urlHost a_urlState a_urlTime a_names a_nameLength a_hostDelay a_hostNext a_rulePool a_ruleStart a_ruleLength a_ruleHost := by
  have hl : ∀ k, cf_lo (t k) ≤ 70000 := fun k => Nat.le_trans (cf_loB (ht k)) (by decide)
  have s0 : ¬ cf_Sch t L e → wX_takeScheme_109 post (nI e) (nI m) f_maxUrls f_defaultDelay f_clock f_bufferLength f_canonLength f_canonHost f_canonHostLength f_canonPath f_schemePort f_partLength f_urlCount f_urlChars f_hostCount f_ruleCount f_ruleChars a_buffer a_canon a_part a_urlPool a_urlStart a_urlLength a_urlPath a_urlHost a_urlState a_urlTime a_names a_nameLength a_hostDelay a_hostNext a_rulePool a_ruleStart a_ruleLength a_ruleHost := fun h => br_c (fun _ => cx_s0 (by omega) (hN h)) (fun _ => cx_s0 (by omega) (hN h))
  exact pk_le m m (fun _ => cf_eqc (cf_lo (t 0)) 104 (q 0 (by omega)) (hl 0) (fun y0 => cf_eqc (cf_lo (t 1)) 116 (q 1 (by omega)) (hl 1) (fun y1 => cf_eqc (cf_lo (t 2)) 116 (q 2 (by omega)) (hl 2) (fun y2 => cf_eqc (cf_lo (t 3)) 112 (q 3 (by omega)) (hl 3) (fun y3 => pk_eq e 5 (fun z => cx_s1 (Or.inr ⟨rfl, z⟩) hm hL ht q ⟨y0, y1, y2, y3⟩ hN hY) (fun z => cx_s1 (Or.inl ⟨rfl, by omega⟩) hm hL ht q ⟨y0, y1, y2, y3⟩ hN hY)) (fun y3 => s0 (fun w => y3 w.2.2.2.2.2.1))) (fun y2 => s0 (fun w => y2 w.2.2.2.2.1))) (fun y1 => s0 (fun w => y1 w.2.2.2.1))) (fun y0 => s0 (fun w => y0 w.2.2.1))) (fun z => by omega)
theorem cx_schLoop {post : Int32 → SX → Prop} {e m : Nat} (he : e = 4 ∨ e = 5) (hm : m = e + 3) (hL1 : m ≤ L) (hb : ∀ j, a_buffer j = nI (t j)) (ht : ∀ j, t j ≤ 126) (hN : ¬ cf_Sch t L e → ∀ a n, post (-1) (f_maxUrls, f_defaultDelay, f_clock, f_bufferLength, n, f_canonHost, f_canonHostLength, f_canonPath, f_schemePort, f_partLength, f_urlCount, f_urlChars, f_hostCount, f_ruleCount, f_ruleChars, a_buffer, a, a_part, a_urlPool, a_urlStart, a_urlLength, a_urlPath, a_urlHost, a_urlState, a_urlTime, a_names, a_nameLength, a_hostDelay, a_hostNext, a_rulePool, a_ruleStart, a_ruleLength, a_ruleHost)) (hY : cf_Sch t L e → ∀ a, cf_K a m (cf_sb (fun j => cf_lo (t j)) 0 m) → post (nI m) (f_maxUrls, f_defaultDelay, f_clock, f_bufferLength, nI m, f_canonHost, f_canonHostLength, f_canonPath, nI (cf_dp e), f_partLength, f_urlCount, f_urlChars, f_hostCount, f_ruleCount, f_ruleChars, a_buffer, a, a_part, a_urlPool, a_urlStart, a_urlLength, a_urlPath, a_urlHost, a_urlState, a_urlTime, a_names, a_nameLength, a_hostDelay, a_hostNext, a_rulePool, a_ruleStart, a_ruleLength, a_ruleHost)) : ∀ d i f a, i + d = m → d < f → cf_K a i (cf_sb (fun j => cf_lo (t j)) 0 i) → wX_takeScheme_33 post (nI e) (nI m) f (nI i) f_maxUrls f_defaultDelay f_clock f_bufferLength (nI i) f_canonHost f_canonHostLength f_canonPath f_schemePort f_partLength f_urlCount f_urlChars f_hostCount f_ruleCount f_ruleChars a_buffer a a_part a_urlPool a_urlStart a_urlLength a_urlPath a_urlHost a_urlState a_urlTime a_names a_nameLength a_hostDelay a_hostNext a_rulePool a_ruleStart a_ruleLength a_ruleHost := by
  intro d
  induction d with
  | zero =>
    intro i f a hi hf hK
    have ei : i = m := by omega
    subst ei
    cases f with
    | zero => omega
    | succ f =>
      refine cx_schExit he hm hL1 ht (fun k hk => ?_) (fun h => hN h _ _) (fun h => hY h _ hK) f
      rw [cf_Kg hK hk, cf_sbG _ _ _ _ hk, Nat.zero_add]
  | succ d ih =>
    intro i f a hi hf hK
    cases f with
    | zero => omega
    | succ f =>
      refine pk_le m i (fun z => by omega) (fun z => ⟨pk_in i 48 (by omega), cx_lower (t i) (cf_rd hb i) (ht i) (cx_app (cf_lo (t i)) rfl (by omega) hK (fun a' hK' => nm_r (nI_1 i) (ih (i + 1) f a' (by omega) (by omega) ?_)))⟩)
      rw [cf_sb1, Nat.zero_add]
      exact hK'
theorem cx_takeScheme {post : Int32 → SX → Prop} (hL : L ≤ 48) (hb : ∀ j, a_buffer j = nI (t j)) (ht : ∀ j, t j ≤ 126) (hN : (∀ c, ¬ cf_Sch t L c) → ∀ a n, post (-1) (f_maxUrls, f_defaultDelay, f_clock, nI L, n, f_canonHost, f_canonHostLength, f_canonPath, f_schemePort, f_partLength, f_urlCount, f_urlChars, f_hostCount, f_ruleCount, f_ruleChars, a_buffer, a, a_part, a_urlPool, a_urlStart, a_urlLength, a_urlPath, a_urlHost, a_urlState, a_urlTime, a_names, a_nameLength, a_hostDelay, a_hostNext, a_rulePool, a_ruleStart, a_ruleLength, a_ruleHost)) (hY : ∀ c, cf_Sch t L c → ∀ a, cf_K a (c + 3) (cf_sb (fun j => cf_lo (t j)) 0 (c + 3)) → post (nI (c + 3)) (f_maxUrls, f_defaultDelay, f_clock, nI L, nI (c + 3), f_canonHost, f_canonHostLength, f_canonPath, nI (cf_dp c), f_partLength, f_urlCount, f_urlChars, f_hostCount, f_ruleCount, f_ruleChars, a_buffer, a, a_part, a_urlPool, a_urlStart, a_urlLength, a_urlPath, a_urlHost, a_urlState, a_urlTime, a_names, a_nameLength, a_hostDelay, a_hostNext, a_rulePool, a_ruleStart, a_ruleLength, a_ruleHost)) : wpX_takeScheme post (f_maxUrls, f_defaultDelay, f_clock, nI L, 0, f_canonHost, f_canonHostLength, f_canonPath, f_schemePort, f_partLength, f_urlCount, f_urlChars, f_hostCount, f_ruleCount, f_ruleChars, a_buffer, a_canon, a_part, a_urlPool, a_urlStart, a_urlLength, a_urlPath, a_urlHost, a_urlState, a_urlTime, a_names, a_nameLength, a_hostDelay, a_hostNext, a_rulePool, a_ruleStart, a_ruleLength, a_ruleHost) := by
  refine cx_partEnd (i := 0) (r := 4) hb ht (Nat.zero_le _) hL (by omega) (fun e hE => ?_)
  have hE2 := hE.2.1
  have no : ∀ c, cf_Sch t L c → c = e ∧ (c = 4 ∨ c = 5) ∧ c + 2 < L := fun c h => ⟨cf_IEu (cf_SchE h) hE, h.1, h.2.1⟩
  refine nm_r (nI_add e 3) (pk_lt e 4 (fun z => hN (fun c h => ?_) _ _) (fun z1 => pk_lt 5 e (fun z => hN (fun c h => ?_) _ _) (fun z2 => pk_le (e + 3) L (fun z3 => ⟨e + 3 + 1, ?_⟩) (fun z3 => hN (fun c h => ?_) _ _))))
  · have := no c h; omega
  · have := no c h; omega
  · refine cx_schLoop (L := L) (by omega) rfl z3 hb ht (fun h a n => hN (fun c hc => ?_) a n) (fun h a hK => hY e h a hK) (e + 3) 0 _ a_canon (by omega) (by omega) (cf_K0 a_canon)
    have ec := (no c hc).1
    subst ec
    exact h hc
  · have := no c h; omega
theorem cx_hostLoop {post : Int32 → SX → Prop} {he fr n0 : Nat} {l : List Nat} (hb : ∀ j, a_buffer j = nI (t j)) (ht : ∀ j, t j ≤ 126) (h48 : he ≤ 48) (hB : n0 + (he - fr) ≤ 49) (hN : ¬ (∀ j, fr ≤ j → j < he → cf_HC (t j)) → ∀ a n, post (-1) (f_maxUrls, f_defaultDelay, f_clock, f_bufferLength, n, f_canonHost, f_canonHostLength, f_canonPath, f_schemePort, f_partLength, f_urlCount, f_urlChars, f_hostCount, f_ruleCount, f_ruleChars, a_buffer, a, a_part, a_urlPool, a_urlStart, a_urlLength, a_urlPath, a_urlHost, a_urlState, a_urlTime, a_names, a_nameLength, a_hostDelay, a_hostNext, a_rulePool, a_ruleStart, a_ruleLength, a_ruleHost)) (hY : (∀ j, fr ≤ j → j < he → cf_HC (t j)) → ∀ a, cf_K a (n0 + (he - fr)) (l ++ cf_sb (fun j => cf_lo (t j)) fr (he - fr)) → post (nI he) (f_maxUrls, f_defaultDelay, f_clock, f_bufferLength, nI (n0 + (he - fr)), f_canonHost, f_canonHostLength, f_canonPath, f_schemePort, f_partLength, f_urlCount, f_urlChars, f_hostCount, f_ruleCount, f_ruleChars, a_buffer, a, a_part, a_urlPool, a_urlStart, a_urlLength, a_urlPath, a_urlHost, a_urlState, a_urlTime, a_names, a_nameLength, a_hostDelay, a_hostNext, a_rulePool, a_ruleStart, a_ruleLength, a_ruleHost)) : ∀ d k f a, fr + k + d = he → d < f → (∀ j, fr ≤ j → j < fr + k → cf_HC (t j)) → cf_K a (n0 + k) (l ++ cf_sb (fun j => cf_lo (t j)) fr k) → wX_takeHost_40 post (nI he) f (nI (fr + k)) f_maxUrls f_defaultDelay f_clock f_bufferLength (nI (n0 + k)) f_canonHost f_canonHostLength f_canonPath f_schemePort f_partLength f_urlCount f_urlChars f_hostCount f_ruleCount f_ruleChars a_buffer a a_part a_urlPool a_urlStart a_urlLength a_urlPath a_urlHost a_urlState a_urlTime a_names a_nameLength a_hostDelay a_hostNext a_rulePool a_ruleStart a_ruleLength a_ruleHost := by
  intro d
  induction d with
  | zero =>
    intro k f a hk hf hj hK
    have e : he - fr = k := by omega
    cases f with
    | zero => omega
    | succ f =>
      rw [e] at hY
      exact pk_le he (fr + k) (fun _ => hY (fun j h1 h2 => hj j h1 (by omega)) a hK) (fun z => by omega)
  | succ d ih =>
    intro k f a hk hf hj hK
    cases f with
    | zero => omega
    | succ f =>
      refine pk_le he (fr + k) (fun z => by omega) (fun z => ⟨pk_in (fr + k) 48 (by omega), cx_isHost (t (fr + k)) (cf_rd hb (fr + k)) (by have := ht (fr + k); omega) (fun c => br_f (by decide) ⟨pk_in (fr + k) 48 (by omega), cx_lower (t (fr + k)) (cf_rd hb (fr + k)) (ht _) (cx_app (cf_lo (t (fr + k))) rfl (by omega) hK (fun a' hK' => nm_r (nI_1 (fr + k)) (ih (k + 1) f a' (by omega) (by omega) (fun j h1 h2 => ?_) ?_)))⟩) (fun c => br_t rfl (hN (fun w => c (w (fr + k) (by omega) (by omega))) _ _))⟩)
      · rcases Nat.lt_or_ge j (fr + k) with y | y
        · exact hj j h1 y
        · have e : j = fr + k := by omega
          rw [e]
          exact c
      · rw [cf_sb1, ← List.append_assoc]
        exact hK'
theorem cx_takeHost {post : Int32 → SX → Prop} {fr : Nat} {l : List Nat} (hL : L ≤ 48) (hfr : fr ≤ L) (h8 : fr ≤ 30) (hb : ∀ j, a_buffer j = nI (t j)) (ht : ∀ j, t j ≤ 126) (hK : cf_K a_canon fr l) (hN : (∀ he, cf_IE 4 t L fr he → ¬ cf_Ho t fr he) → ∀ a n h hl, post (-1) (f_maxUrls, f_defaultDelay, f_clock, nI L, n, h, hl, f_canonPath, f_schemePort, f_partLength, f_urlCount, f_urlChars, f_hostCount, f_ruleCount, f_ruleChars, a_buffer, a, a_part, a_urlPool, a_urlStart, a_urlLength, a_urlPath, a_urlHost, a_urlState, a_urlTime, a_names, a_nameLength, a_hostDelay, a_hostNext, a_rulePool, a_ruleStart, a_ruleLength, a_ruleHost)) (hY : ∀ he, cf_IE 4 t L fr he → cf_Ho t fr he → ∀ a, cf_K a he (l ++ cf_sb (fun j => cf_lo (t j)) fr (he - fr)) → post (nI he) (f_maxUrls, f_defaultDelay, f_clock, nI L, nI he, nI fr, nI (he - fr), f_canonPath, f_schemePort, f_partLength, f_urlCount, f_urlChars, f_hostCount, f_ruleCount, f_ruleChars, a_buffer, a, a_part, a_urlPool, a_urlStart, a_urlLength, a_urlPath, a_urlHost, a_urlState, a_urlTime, a_names, a_nameLength, a_hostDelay, a_hostNext, a_rulePool, a_ruleStart, a_ruleLength, a_ruleHost)) : wpX_takeHost post (f_maxUrls, f_defaultDelay, f_clock, nI L, nI fr, f_canonHost, f_canonHostLength, f_canonPath, f_schemePort, f_partLength, f_urlCount, f_urlChars, f_hostCount, f_ruleCount, f_ruleChars, a_buffer, a_canon, a_part, a_urlPool, a_urlStart, a_urlLength, a_urlPath, a_urlHost, a_urlState, a_urlTime, a_names, a_nameLength, a_hostDelay, a_hostNext, a_rulePool, a_ruleStart, a_ruleLength, a_ruleHost) (nI fr) := by
  refine cx_partEnd (r := 4) hb ht hfr hL (by omega) (fun he hE => ?_)
  have hE1 := hE.1
  have hE2 := hE.2.1
  have no : ∀ he', cf_IE 4 t L fr he' → he' = he := fun he' h' => cf_IEu h' hE
  refine nm_r (pk_sub hE.1) (pk_lt (he - fr) 1 (fun z => hN (fun he' h' w => ?_) _ _ _ _) (fun z1 => pk_le (he - fr) 16 (fun z2 => ⟨he - fr + 1, ?_⟩) (fun z2 => hN (fun he' h' w => ?_) _ _ _ _)))
  · have := no he' h'; have := w.1; omega
  · refine cx_hostLoop (n0 := fr) (fr := fr) (l := l) hb ht (by omega) (by omega) (fun h a n => hN (fun he' h' w => ?_) _ _ _ _) (fun h a hK' => ?_) (he - fr) 0 _ a_canon (by omega) (by omega) (fun j h1 h2 => by omega) ?_
    · have e := no he' h'
      subst e
      exact h w.2.2
    · have e : fr + (he - fr) = he := by omega
      rw [e] at hK'
      have g := hY he hE ⟨by omega, by omega, h⟩ a hK'
      rw [e]
      exact g
    · show cf_K a_canon (fr + 0) (l ++ [])
      rw [List.append_nil]
      exact hK
  · have := no he' h'; have := w.2.1; omega
end
end
section
/-! the class: the port -/
section
variable {f_maxUrls f_defaultDelay f_clock f_bufferLength f_canonLength f_canonHost f_canonHostLength f_canonPath f_schemePort f_partLength f_urlCount f_urlChars f_hostCount f_ruleCount f_ruleChars : Int32} {a_buffer a_canon a_part a_urlPool a_urlStart a_urlLength a_urlPath a_urlHost a_urlState a_urlTime a_names a_nameLength a_hostDelay a_hostNext a_rulePool a_ruleStart a_ruleLength a_ruleHost : Nat → Int32}
variable {t : Nat → Nat} {L : Nat}
theorem cx_p25 {post : SX → Prop} {J : Int32 → Int32 → Int32 → Int32 → Int32 → Int32 → Int32 → Int32 → Int32 → Int32 → Int32 → Int32 → Int32 → Int32 → Int32 → Int32 → (Nat → Int32) → (Nat → Int32) → (Nat → Int32) → (Nat → Int32) → (Nat → Int32) → (Nat → Int32) → (Nat → Int32) → (Nat → Int32) → (Nat → Int32) → (Nat → Int32) → (Nat → Int32) → (Nat → Int32) → (Nat → Int32) → (Nat → Int32) → (Nat → Int32) → (Nat → Int32) → (Nat → Int32) → (Nat → Int32) → Prop} {v un n : Nat} {l : List Nat} (hv : v ≤ 65535) (hu : 0 < un) (hu2 : un ≤ 10000) (hn : n < 49) (hK : cf_K a_canon n l) (h : ∀ a, cf_K a (n + 1) (l ++ [48 + v / un % 10]) → J (nI (un / 10)) f_maxUrls f_defaultDelay f_clock f_bufferLength (nI (n + 1)) f_canonHost f_canonHostLength f_canonPath f_schemePort f_partLength f_urlCount f_urlChars f_hostCount f_ruleCount f_ruleChars a_buffer a a_part a_urlPool a_urlStart a_urlLength a_urlPath a_urlHost a_urlState a_urlTime a_names a_nameLength a_hostDelay a_hostNext a_rulePool a_ruleStart a_ruleLength a_ruleHost) : wX_appendPort_25 post J (nI v) (nI un) f_maxUrls f_defaultDelay f_clock f_bufferLength (nI n) f_canonHost f_canonHostLength f_canonPath f_schemePort f_partLength f_urlCount f_urlChars f_hostCount f_ruleCount f_ruleChars a_buffer a_canon a_part a_urlPool a_urlStart a_urlLength a_urlPath a_urlHost a_urlState a_urlTime a_names a_nameLength a_hostDelay a_hostNext a_rulePool a_ruleStart a_ruleLength a_ruleHost := by
  have hq : v / un ≤ v := Nat.div_le_self _ _
  have e : (48 : Int32) + ((nI v / nI un) - (nI v / nI un) / 10 * 10) = nI (48 + v / un % 10) := by
    rw [pk_div (by omega) hu (by omega)]
    exact (congrArg (fun z => nI 48 + z) (pk_rem (a := v / un) (d := 10) (by omega) (by decide) (by decide))).trans (nI_add 48 _)
  exact ⟨nI_ne0 hu (by omega), by decide, cx_app (48 + v / un % 10) e hn hK (fun a hK' => ⟨by decide, nm_r (pk_div (d := 10) (by omega) (by decide) (by decide)) (h a hK')⟩)⟩
theorem cx_portLoop {post : SX → Prop} {v : Nat} (hv : v ≤ 65535) : ∀ m n l a f, m ≤ 4 → cf_K a n l → n + m + 1 ≤ 49 → m + 1 < f → (∀ a', cf_K a' (n + (cf_dy m v).length) (l ++ cf_dy m v) → post (f_maxUrls, f_defaultDelay, f_clock, f_bufferLength, nI (n + (cf_dy m v).length), f_canonHost, f_canonHostLength, f_canonPath, f_schemePort, f_partLength, f_urlCount, f_urlChars, f_hostCount, f_ruleCount, f_ruleChars, a_buffer, a', a_part, a_urlPool, a_urlStart, a_urlLength, a_urlPath, a_urlHost, a_urlState, a_urlTime, a_names, a_nameLength, a_hostDelay, a_hostNext, a_rulePool, a_ruleStart, a_ruleLength, a_ruleHost)) → wX_appendPort_10 post (nI v) f (nI (10 ^ m)) f_maxUrls f_defaultDelay f_clock f_bufferLength (nI n) f_canonHost f_canonHostLength f_canonPath f_schemePort f_partLength f_urlCount f_urlChars f_hostCount f_ruleCount f_ruleChars a_buffer a a_part a_urlPool a_urlStart a_urlLength a_urlPath a_urlHost a_urlState a_urlTime a_names a_nameLength a_hostDelay a_hostNext a_rulePool a_ruleStart a_ruleLength a_ruleHost := by
  intro m
  induction m with
  | zero =>
    intro n l a f hm hK hn hf h
    obtain ⟨g, rfl⟩ : ∃ g, f = g + 1 + 1 := ⟨f - 2, by omega⟩
    have fin : wX_appendPort_25 post (wX_appendPort_10 post (nI v) (g + 1)) (nI v) (nI 1) f_maxUrls f_defaultDelay f_clock f_bufferLength (nI n) f_canonHost f_canonHostLength f_canonPath f_schemePort f_partLength f_urlCount f_urlChars f_hostCount f_ruleCount f_ruleChars a_buffer a a_part a_urlPool a_urlStart a_urlLength a_urlPath a_urlHost a_urlState a_urlTime a_names a_nameLength a_hostDelay a_hostNext a_rulePool a_ruleStart a_ruleLength a_ruleHost := by
      refine cx_p25 hv (by omega) (by omega) (by omega) hK (fun a' hK' => ?_)
      rw [Nat.div_one] at hK'
      exact pk_lt 0 1 (fun _ => h a' hK') (fun z => by omega)
    exact pk_lt 1 1 (fun z => by omega) (fun _ => br_c (fun _ => fin) (fun _ => br_t rfl fin))
  | succ m ih =>
    intro n l a f hm hK hn hf h
    obtain ⟨g, rfl⟩ : ∃ g, f = g + 1 := ⟨f - 1, by omega⟩
    have p0 : 0 < 10 ^ m := Nat.pow_pos (by decide)
    have p4 : 10 ^ m ≤ 10 ^ 3 := Nat.pow_le_pow_right (by decide) (by omega)
    have ps : 10 ^ (m + 1) = 10 ^ m * 10 := Nat.pow_succ 10 m
    have pd : 10 ^ (m + 1) / 10 = 10 ^ m := by rw [ps]; exact Nat.mul_div_cancel _ (by decide)
    have p5 : 10 ^ (m + 1) ≤ 10000 := by omega
    refine pk_lt (10 ^ (m + 1)) 1 (fun z => by omega) (fun _ => pk_le (10 ^ (m + 1)) v (fun z => ?_) (fun z => pk_eq (10 ^ (m + 1)) 1 (fun z2 => by omega) (fun z2 => ⟨by decide, ?_⟩)))
    · refine cx_p25 hv (by omega) p5 (by omega) hK (fun a' hK' => ?_)
      rw [pd]
      refine ih (n + 1) _ a' g (by omega) hK' (by omega) (by omega) (fun a2 hK2 => ?_)
      have e : cf_dy (m + 1) v = (48 + v / 10 ^ (m + 1) % 10) :: cf_dy m v := cf_dyT z
      have e2 : n + (cf_dy (m + 1) v).length = n + 1 + (cf_dy m v).length := by rw [e, List.length_cons]; omega
      have h' := h a2
      rw [e2, e] at h'
      rw [List.append_assoc] at hK2
      exact h' hK2
    · refine nm_r (e' := nI (10 ^ m)) ((pk_div (a := 10 ^ (m + 1)) (d := 10) (by omega) (by decide) (by decide)).trans (by rw [pd])) (ih n l a g (by omega) hK (by omega) (by omega) (fun a2 hK2 => ?_))
      have e : cf_dy (m + 1) v = cf_dy m v := cf_dyF (by omega)
      have h' := h a2
      rw [e] at h'
      exact h' hK2
theorem cx_appendPort {post : SX → Prop} {v n : Nat} {l : List Nat} (hv : v ≤ 65535) (hn : n ≤ 40) (hK : cf_K a_canon n l) (h : ∀ a, cf_K a (n + (58 :: cf_dy 4 v).length) (l ++ (58 :: cf_dy 4 v)) → post (f_maxUrls, f_defaultDelay, f_clock, f_bufferLength, nI (n + (58 :: cf_dy 4 v).length), f_canonHost, f_canonHostLength, f_canonPath, f_schemePort, f_partLength, f_urlCount, f_urlChars, f_hostCount, f_ruleCount, f_ruleChars, a_buffer, a, a_part, a_urlPool, a_urlStart, a_urlLength, a_urlPath, a_urlHost, a_urlState, a_urlTime, a_names, a_nameLength, a_hostDelay, a_hostNext, a_rulePool, a_ruleStart, a_ruleLength, a_ruleHost)) : wpX_appendPort post (f_maxUrls, f_defaultDelay, f_clock, f_bufferLength, nI n, f_canonHost, f_canonHostLength, f_canonPath, f_schemePort, f_partLength, f_urlCount, f_urlChars, f_hostCount, f_ruleCount, f_ruleChars, a_buffer, a_canon, a_part, a_urlPool, a_urlStart, a_urlLength, a_urlPath, a_urlHost, a_urlState, a_urlTime, a_names, a_nameLength, a_hostDelay, a_hostNext, a_rulePool, a_ruleStart, a_ruleLength, a_ruleHost) (nI v) := by
  unfold wpX_appendPort
  dsimp only
  refine cx_app 58 rfl (by omega) hK (fun a hK' => ⟨7, cx_portLoop hv 4 (n + 1) (l ++ [58]) a 7 (by omega) hK' (by omega) (by omega) (fun a2 hK2 => ?_)⟩)
  have h' := h a2
  have e : n + (58 :: cf_dy 4 v).length = n + 1 + (cf_dy 4 v).length := by rw [List.length_cons]; omega
  rw [e] at h'
  rw [List.append_assoc] at hK2
  exact h' hK2
theorem cx_portDigits {post : Int32 → SX → Prop} {fr p c n : Nat} {l : List Nat} (hb : ∀ j, a_buffer j = nI (t j)) (ht : ∀ j, t j ≤ 126) (hp : p ≤ 48) (h5 : p ≤ fr + 5) (hn : n ≤ 40) (hK : cf_K a_canon n l) (hN : ¬ ((∀ j, fr ≤ j → j < p → 48 ≤ t j ∧ t j ≤ 57) ∧ cf_pv t fr (p - fr) ≤ 65535) → post (-1) (f_maxUrls, f_defaultDelay, f_clock, f_bufferLength, nI n, f_canonHost, f_canonHostLength, f_canonPath, nI (cf_dp c), f_partLength, f_urlCount, f_urlChars, f_hostCount, f_ruleCount, f_ruleChars, a_buffer, a_canon, a_part, a_urlPool, a_urlStart, a_urlLength, a_urlPath, a_urlHost, a_urlState, a_urlTime, a_names, a_nameLength, a_hostDelay, a_hostNext, a_rulePool, a_ruleStart, a_ruleLength, a_ruleHost)) (hY : (∀ j, fr ≤ j → j < p → 48 ≤ t j ∧ t j ≤ 57) → cf_pv t fr (p - fr) ≤ 65535 → ∀ a, cf_K a (n + (cf_po c (cf_pv t fr (p - fr))).length) (l ++ cf_po c (cf_pv t fr (p - fr))) → post (nI p) (f_maxUrls, f_defaultDelay, f_clock, f_bufferLength, nI (n + (cf_po c (cf_pv t fr (p - fr))).length), f_canonHost, f_canonHostLength, f_canonPath, nI (cf_dp c), f_partLength, f_urlCount, f_urlChars, f_hostCount, f_ruleCount, f_ruleChars, a_buffer, a, a_part, a_urlPool, a_urlStart, a_urlLength, a_urlPath, a_urlHost, a_urlState, a_urlTime, a_names, a_nameLength, a_hostDelay, a_hostNext, a_rulePool, a_ruleStart, a_ruleLength, a_ruleHost)) : ∀ d k f, fr + k + d = p → d < f → (∀ j, fr ≤ j → j < fr + k → 48 ≤ t j ∧ t j ≤ 57) → wX_takePort_54 post (nI p) f_maxUrls f_defaultDelay f_clock f_bufferLength (nI n) f_canonHost f_canonHostLength f_canonPath (nI (cf_dp c)) f_partLength f_urlCount f_urlChars f_hostCount f_ruleCount f_ruleChars a_buffer a_canon a_part a_urlPool a_urlStart a_urlLength a_urlPath a_urlHost a_urlState a_urlTime a_names a_nameLength a_hostDelay a_hostNext a_rulePool a_ruleStart a_ruleLength a_ruleHost f (nI (cf_pv t fr k)) (nI (fr + k)) := by
  intro d
  induction d with
  | zero =>
    intro k f hk hf hj
    have e : p - fr = k := by omega
    cases f with
    | zero => omega
    | succ f =>
      have b1 : cf_pv t fr k < 10 ^ k := cf_pvB k (fun j h => (hj (fr + j) (by omega) (by omega)).2)
      have b2 : 10 ^ k ≤ 10 ^ 5 := Nat.pow_le_pow_right (by decide) (by omega)
      have b3 : cf_dp c ≤ 443 := by unfold cf_dp; split <;> omega
      rw [e] at hN hY
      have hj' : ∀ j, fr ≤ j → j < p → 48 ≤ t j ∧ t j ≤ 57 := fun j h1 h2 => hj j h1 (by omega)
      refine pk_le p (fr + k) (fun _ => pk_le (cf_pv t fr k) 65535 (fun z => pk_eq (cf_pv t fr k) (cf_dp c) (fun z2 => ?_) (fun z2 => ?_)) (fun z => hN (fun w => by omega))) (fun z => by omega)
      · have g := hY hj' z a_canon
        have e2 : cf_po c (cf_pv t fr k) = [] := by unfold cf_po; rw [if_pos z2]
        rw [e2, List.append_nil] at g
        exact g hK
      · have e2 : cf_po c (cf_pv t fr k) = 58 :: cf_dy 4 (cf_pv t fr k) := by unfold cf_po; rw [if_neg z2]
        refine cx_appendPort z hn hK (fun a hK' => ?_)
        have g := hY hj' z a
        rw [e2] at g
        exact g hK'
  | succ d ih =>
    intro k f hk hf hj
    cases f with
    | zero => omega
    | succ f =>
      refine pk_le p (fr + k) (fun z => by omega) (fun z => ⟨pk_in (fr + k) 48 (by omega), cx_isDigit (t (fr + k)) (cf_rd hb (fr + k)) (ht _) (fun c1 => br_f (by decide) ⟨pk_in (fr + k) 48 (by omega), ?_⟩) (fun c1 => br_t rfl (hN (fun w => c1 (w.1 (fr + k) (by omega) (by omega)))))⟩)
      have e : ((nI (cf_pv t fr k) * 10) + (a_buffer (nI (fr + k)).toNatClampNeg)) - 48 = nI (cf_pv t fr (k + 1)) := by
        rw [cf_rd hb (fr + k)]
        refine (congrArg (fun z => z + nI (t (fr + k)) - 48) (pk_mul (cf_pv t fr k) 10)).trans ?_
        show nI (cf_pv t fr k * 10) + nI (t (fr + k)) - nI 48 = _
        rw [nI_add, pk_sub (by omega)]
        refine congrArg nI ?_
        show _ = cf_pv t fr k * 10 + (t (fr + k) - 48)
        omega
      refine nm_r e (nm_r (nI_1 (fr + k)) (ih (k + 1) f (by omega) (by omega) (fun j h1 h2 => ?_)))
      rcases Nat.lt_or_ge j (fr + k) with y | y
      · exact hj j h1 y
      · have ej : j = fr + k := by omega
        rw [ej]
        exact c1
theorem cx_takePort {post : Int32 → SX → Prop} {he c : Nat} {l : List Nat} (hL : L ≤ 48) (hhe : he ≤ L) (h8 : he ≤ 30) (hb : ∀ j, a_buffer j = nI (t j)) (ht : ∀ j, t j ≤ 126) (hK : cf_K a_canon he l) (hN : (∀ p po, ¬ cf_PO t L c he p po) → post (-1) (f_maxUrls, f_defaultDelay, f_clock, nI L, nI he, f_canonHost, f_canonHostLength, f_canonPath, nI (cf_dp c), f_partLength, f_urlCount, f_urlChars, f_hostCount, f_ruleCount, f_ruleChars, a_buffer, a_canon, a_part, a_urlPool, a_urlStart, a_urlLength, a_urlPath, a_urlHost, a_urlState, a_urlTime, a_names, a_nameLength, a_hostDelay, a_hostNext, a_rulePool, a_ruleStart, a_ruleLength, a_ruleHost)) (hY : ∀ p po, cf_PO t L c he p po → ∀ a, cf_K a (he + po.length) (l ++ po) → post (nI p) (f_maxUrls, f_defaultDelay, f_clock, nI L, nI (he + po.length), f_canonHost, f_canonHostLength, f_canonPath, nI (cf_dp c), f_partLength, f_urlCount, f_urlChars, f_hostCount, f_ruleCount, f_ruleChars, a_buffer, a, a_part, a_urlPool, a_urlStart, a_urlLength, a_urlPath, a_urlHost, a_urlState, a_urlTime, a_names, a_nameLength, a_hostDelay, a_hostNext, a_rulePool, a_ruleStart, a_ruleLength, a_ruleHost)) : wpX_takePort post (f_maxUrls, f_defaultDelay, f_clock, nI L, nI he, f_canonHost, f_canonHostLength, f_canonPath, nI (cf_dp c), f_partLength, f_urlCount, f_urlChars, f_hostCount, f_ruleCount, f_ruleChars, a_buffer, a_canon, a_part, a_urlPool, a_urlStart, a_urlLength, a_urlPath, a_urlHost, a_urlState, a_urlTime, a_names, a_nameLength, a_hostDelay, a_hostNext, a_rulePool, a_ruleStart, a_ruleLength, a_ruleHost) (nI he) := by
  have h0 : cf_PO t L c he he [] → post (nI he) (f_maxUrls, f_defaultDelay, f_clock, nI L, nI he, f_canonHost, f_canonHostLength, f_canonPath, nI (cf_dp c), f_partLength, f_urlCount, f_urlChars, f_hostCount, f_ruleCount, f_ruleChars, a_buffer, a_canon, a_part, a_urlPool, a_urlStart, a_urlLength, a_urlPath, a_urlHost, a_urlState, a_urlTime, a_names, a_nameLength, a_hostDelay, a_hostNext, a_rulePool, a_ruleStart, a_ruleLength, a_ruleHost) := fun h => hY he [] h a_canon (by rw [List.append_nil]; exact hK)
  refine pk_le L he (fun z => h0 (Or.inl ⟨fun w => absurd w.1 (by omega), rfl, rfl⟩)) (fun z => ⟨pk_in he 48 (by omega), cf_eqc (t he) 58 (cf_rd hb he) (by have := ht he; omega) (fun z1 => nm_r (nI_1 he) (cx_partEnd (r := 3) hb ht (by omega) hL (by omega) (fun p hE => ?_))) (fun z1 => h0 (Or.inl ⟨fun w => z1 w.2, rfl, rfl⟩))⟩)
  have hE1 := hE.1
  have hE2 := hE.2.1
  have no : ∀ p' po, cf_PO t L c he p' po → cf_Po t L (he + 1) p := by
    intro p' po h
    rcases h with ⟨w, -, -⟩ | ⟨-, w, -⟩
    · exact absurd ⟨z, z1⟩ w
    · have e := cf_IEu w.1 hE
      subst e
      exact w
  have es : nI p - nI (he + 1) = nI (p - (he + 1)) := pk_sub hE1
  refine pk_lt (p - (he + 1)) 1 (fun z2 => hN (fun p' po h => ?_)) (fun z2 => pk_le (p - (he + 1)) 5 (fun z3 => ⟨p - (he + 1) + 1, ?_⟩) (fun z3 => hN (fun p' po h => ?_)) es) es
  · have := (no p' po h).2.1; omega
  · refine cx_portDigits (fr := he + 1) (p := p) (c := c) (n := he) (l := l) hb ht (by omega) (by omega) (by omega) hK (fun w => hN (fun p' po h => w ⟨(no p' po h).2.2.2.1, (no p' po h).2.2.2.2⟩)) (fun w1 w2 a hK' => hY p _ (Or.inr ⟨⟨z, z1⟩, ⟨hE, by omega, by omega, w1, w2⟩, rfl⟩) a hK') (p - (he + 1)) 0 _ (by omega) (by omega) (fun j h1 h2 => by omega)
  · have := (no p' po h).2.2.1; omega
end
end
section
/-! the class: the percent rule -/
section
variable {f_maxUrls f_defaultDelay f_clock f_bufferLength f_canonLength f_canonHost f_canonHostLength f_canonPath f_schemePort f_partLength f_urlCount f_urlChars f_hostCount f_ruleCount f_ruleChars : Int32} {a_buffer a_canon a_part a_urlPool a_urlStart a_urlLength a_urlPath a_urlHost a_urlState a_urlTime a_names a_nameLength a_hostDelay a_hostNext a_rulePool a_ruleStart a_ruleLength a_ruleHost : Nat → Int32}
variable {t : Nat → Nat} {L : Nat}
theorem cx_triple {post : SX → Prop} {h l n : Nat} {D : List Nat} (hh : cf_hv h < 16) (hl : cf_hv l < 16) (hn : n + 3 ≤ 48) (hK : cf_K a_part n D) (hp : ∀ a, cf_K a (n + (cf_tr h l).length) (D ++ cf_tr h l) → post (f_maxUrls, f_defaultDelay, f_clock, f_bufferLength, f_canonLength, f_canonHost, f_canonHostLength, f_canonPath, f_schemePort, nI (n + (cf_tr h l).length), f_urlCount, f_urlChars, f_hostCount, f_ruleCount, f_ruleChars, a_buffer, a_canon, a, a_urlPool, a_urlStart, a_urlLength, a_urlPath, a_urlHost, a_urlState, a_urlTime, a_names, a_nameLength, a_hostDelay, a_hostNext, a_rulePool, a_ruleStart, a_ruleLength, a_ruleHost)) : wpX_addTriple post (f_maxUrls, f_defaultDelay, f_clock, f_bufferLength, f_canonLength, f_canonHost, f_canonHostLength, f_canonPath, f_schemePort, nI n, f_urlCount, f_urlChars, f_hostCount, f_ruleCount, f_ruleChars, a_buffer, a_canon, a_part, a_urlPool, a_urlStart, a_urlLength, a_urlPath, a_urlHost, a_urlState, a_urlTime, a_names, a_nameLength, a_hostDelay, a_hostNext, a_rulePool, a_ruleStart, a_ruleLength, a_ruleHost) (nI (cf_hv h)) (nI (cf_hv l)) := by
  have e : (nI (cf_hv h) * 16) + nI (cf_hv l) = nI (cf_hv h * 16 + cf_hv l) := (congrArg (fun z => z + nI (cf_hv l)) (pk_mul (cf_hv h) 16)).trans (nI_add _ _)
  have one : cf_UN (cf_hv h * 16 + cf_hv l) → wX_addTriple_26 post (nI (cf_hv h * 16 + cf_hv l)) f_maxUrls f_defaultDelay f_clock f_bufferLength f_canonLength f_canonHost f_canonHostLength f_canonPath f_schemePort (nI n) f_urlCount f_urlChars f_hostCount f_ruleCount f_ruleChars a_buffer a_canon a_part a_urlPool a_urlStart a_urlLength a_urlPath a_urlHost a_urlState a_urlTime a_names a_nameLength a_hostDelay a_hostNext a_rulePool a_ruleStart a_ruleLength a_ruleHost := by
    intro u
    rw [cf_trP u] at hp
    exact cx_addp _ rfl (by omega) hK (fun a hK' => hp a hK')
  refine nm_r e (cx_isHost (cf_hv h * 16 + cf_hv l) rfl (by omega) (fun c => br_f (by decide) (one (Or.inl c))) (fun c => br_t rfl (pk_eq (cf_hv h * 16 + cf_hv l) 95 (fun z => one (Or.inr (Or.inl z))) (fun z1 => pk_eq (cf_hv h * 16 + cf_hv l) 126 (fun z => one (Or.inr (Or.inr z))) (fun z2 => ?_)))))
  have un : ¬ cf_UN (cf_hv h * 16 + cf_hv l) := by
    intro w
    rcases w with w | w | w
    · exact c w
    · exact z1 w
    · exact z2 w
  rw [cf_trN un] at hp
  refine cx_hexd hh (cx_hexd hl (cx_addp 37 rfl (by omega) hK (fun a1 k1 => cx_addp (cf_up h) (by rw [cf_hdup hh]) (by omega) k1 (fun a2 k2 => cx_addp (cf_up l) (by rw [cf_hdup hl]) (by omega) k2 (fun a3 k3 => hp a3 ?_)))))
  rw [List.append_assoc, List.append_assoc] at k3
  exact k3
theorem cx_decLoop {post : Int32 → SX → Prop} {e : Nat} (he : e ≤ 48) (hb : ∀ j, a_buffer j = nI (t j)) (ht : ∀ j, t j ≤ 126) : ∀ n i f m D a, i ≤ e → e - i ≤ n → n < f → m ≤ i → cf_K a m D → (cf_dc t e n i = none → ∀ a n, post 0 (f_maxUrls, f_defaultDelay, f_clock, f_bufferLength, f_canonLength, f_canonHost, f_canonHostLength, f_canonPath, f_schemePort, n, f_urlCount, f_urlChars, f_hostCount, f_ruleCount, f_ruleChars, a_buffer, a_canon, a, a_urlPool, a_urlStart, a_urlLength, a_urlPath, a_urlHost, a_urlState, a_urlTime, a_names, a_nameLength, a_hostDelay, a_hostNext, a_rulePool, a_ruleStart, a_ruleLength, a_ruleHost)) → (∀ D', cf_dc t e n i = some D' → ∀ a, cf_K a (m + D'.length) (D ++ D') → post 1 (f_maxUrls, f_defaultDelay, f_clock, f_bufferLength, f_canonLength, f_canonHost, f_canonHostLength, f_canonPath, f_schemePort, nI (m + D'.length), f_urlCount, f_urlChars, f_hostCount, f_ruleCount, f_ruleChars, a_buffer, a_canon, a, a_urlPool, a_urlStart, a_urlLength, a_urlPath, a_urlHost, a_urlState, a_urlTime, a_names, a_nameLength, a_hostDelay, a_hostNext, a_rulePool, a_ruleStart, a_ruleLength, a_ruleHost)) → wX_decode_7 post (nI e) f (nI i) f_maxUrls f_defaultDelay f_clock f_bufferLength f_canonLength f_canonHost f_canonHostLength f_canonPath f_schemePort (nI m) f_urlCount f_urlChars f_hostCount f_ruleCount f_ruleChars a_buffer a_canon a a_urlPool a_urlStart a_urlLength a_urlPath a_urlHost a_urlState a_urlTime a_names a_nameLength a_hostDelay a_hostNext a_rulePool a_ruleStart a_ruleLength a_ruleHost := by
  intro n
  induction n with
  | zero =>
    intro i f m D a hi hn hf hm hK hN hY
    cases f with
    | zero => omega
    | succ f =>
      have g := hY [] (cf_dcE (by omega)) a
      rw [List.append_nil] at g
      exact pk_le e i (fun _ => g hK) (fun z => by omega)
  | succ n ih =>
    intro i f m D a hi hn hf hm hK hN hY
    cases f with
    | zero => omega
    | succ f =>
      refine pk_le e i (fun z => ?_) (fun z => ⟨pk_in i 48 (by omega), cf_eqc (t i) 37 (cf_rd hb i) (by have := ht i; omega) (fun z1 => pk_lt (i + 2) e (fun z2 => ⟨pk_in (i + 1) 48 (by omega) (nI_1 i), cx_hex (t (i + 1)) (cf_rd hb (i + 1) (nI_1 i)) (ht _) (fun x1 => ⟨pk_in (i + 2) 48 (by omega) (nI_add i 2), cx_hex (t (i + 2)) (cf_rd hb (i + 2) (nI_add i 2)) (ht _) (fun x2 => br_f (cf_m1 (by omega)) (br_f (cf_m1 (by omega)) (cx_triple x1 x2 (by omega) hK (fun a' hK' => nm_r (nI_add i 3) ?_)))) (fun x2 => br_f (cf_m1 (by omega)) (br_t rfl (hN (cf_dcX z2 z1 (fun w => x2 w.2)) _ _)))⟩) (fun x1 => ⟨pk_in (i + 2) 48 (by omega) (nI_add i 2), cx_hex (t (i + 2)) (cf_rd hb (i + 2) (nI_add i 2)) (ht _) (fun x2 => br_t rfl (hN (cf_dcX z2 z1 (fun w => x1 w.1)) _ _)) (fun x2 => br_t rfl (hN (cf_dcX z2 z1 (fun w => x1 w.1)) _ _))⟩)⟩) (fun z2 => hN (cf_dcS z z1 z2) _ _) (nI_add i 2)) (fun z1 => ⟨pk_in i 48 (by omega), cx_addp (t i) (cf_rd hb i) (by omega) hK (fun a' hK' => nm_r (nI_1 i) ?_)⟩)⟩)
      · have g := hY [] (cf_dcE z) a
        rw [List.append_nil] at g
        exact g hK
      · have tl := cf_trL (t (i + 1)) (t (i + 2))
        refine ih (i + 3) f (m + (cf_tr (t (i + 1)) (t (i + 2))).length) _ a' (by omega) (by omega) (by omega) (by omega) hK' (fun h => hN (by rw [cf_dcT z2 z1 ⟨x1, x2⟩, h]; rfl)) (fun D' h a2 hK2 => ?_)
        have g := hY (cf_tr (t (i + 1)) (t (i + 2)) ++ D') (by rw [cf_dcT z2 z1 ⟨x1, x2⟩, h]; rfl) a2
        have e2 : m + (cf_tr (t (i + 1)) (t (i + 2)) ++ D').length = m + (cf_tr (t (i + 1)) (t (i + 2))).length + D'.length := by rw [List.length_append]; omega
        rw [e2, ← List.append_assoc] at g
        exact g hK2
      · refine ih (i + 1) f (m + 1) _ a' (by omega) (by omega) (by omega) (by omega) hK' (fun h => hN (by rw [cf_dcC z z1, h]; rfl)) (fun D' h a2 hK2 => ?_)
        have g := hY (t i :: D') (by rw [cf_dcC z z1, h]; rfl) a2
        have e2 : m + (t i :: D').length = m + 1 + D'.length := by rw [List.length_cons]; omega
        rw [e2] at g
        rw [List.append_assoc] at hK2
        exact g hK2
theorem cx_decode {post : Int32 → SX → Prop} {i e : Nat} (hi : i ≤ e) (he : e ≤ 48) (hb : ∀ j, a_buffer j = nI (t j)) (ht : ∀ j, t j ≤ 126) (hN : cf_dc t e (e - i) i = none → ∀ a n, post 0 (f_maxUrls, f_defaultDelay, f_clock, f_bufferLength, f_canonLength, f_canonHost, f_canonHostLength, f_canonPath, f_schemePort, n, f_urlCount, f_urlChars, f_hostCount, f_ruleCount, f_ruleChars, a_buffer, a_canon, a, a_urlPool, a_urlStart, a_urlLength, a_urlPath, a_urlHost, a_urlState, a_urlTime, a_names, a_nameLength, a_hostDelay, a_hostNext, a_rulePool, a_ruleStart, a_ruleLength, a_ruleHost)) (hY : ∀ D, cf_dc t e (e - i) i = some D → ∀ a, cf_K a D.length D → post 1 (f_maxUrls, f_defaultDelay, f_clock, f_bufferLength, f_canonLength, f_canonHost, f_canonHostLength, f_canonPath, f_schemePort, nI D.length, f_urlCount, f_urlChars, f_hostCount, f_ruleCount, f_ruleChars, a_buffer, a_canon, a, a_urlPool, a_urlStart, a_urlLength, a_urlPath, a_urlHost, a_urlState, a_urlTime, a_names, a_nameLength, a_hostDelay, a_hostNext, a_rulePool, a_ruleStart, a_ruleLength, a_ruleHost)) : wpX_decode post (f_maxUrls, f_defaultDelay, f_clock, f_bufferLength, f_canonLength, f_canonHost, f_canonHostLength, f_canonPath, f_schemePort, f_partLength, f_urlCount, f_urlChars, f_hostCount, f_ruleCount, f_ruleChars, a_buffer, a_canon, a_part, a_urlPool, a_urlStart, a_urlLength, a_urlPath, a_urlHost, a_urlState, a_urlTime, a_names, a_nameLength, a_hostDelay, a_hostNext, a_rulePool, a_ruleStart, a_ruleLength, a_ruleHost) (nI i) (nI e) := by
  refine ⟨e - i + 1, cx_decLoop he hb ht (e - i) i _ 0 [] a_part hi (Nat.le_refl _) (by omega) (Nat.zero_le _) (cf_K0 _) hN (fun D h a hK => ?_)⟩
  rw [Nat.zero_add] at hK
  rw [Nat.zero_add]
  exact hY D h a hK
end
end
section
/-! the class: the path -/
theorem cf_Kl {a : Nat → Int32} {m n : Nat} {l w : List Nat} (hK : cf_K a n (l ++ w)) (hl : l.length = m) : cf_K a m l := ⟨hl, cf_Tl hK.2⟩
section
variable {f_maxUrls f_defaultDelay f_clock f_bufferLength f_canonLength f_canonHost f_canonHostLength f_canonPath f_schemePort f_partLength f_urlCount f_urlChars f_hostCount f_ruleCount f_ruleChars : Int32} {a_buffer a_canon a_part a_urlPool a_urlStart a_urlLength a_urlPath a_urlHost a_urlState a_urlTime a_names a_nameLength a_hostDelay a_hostNext a_rulePool a_ruleStart a_ruleLength a_ruleHost : Nat → Int32}
variable {t : Nat → Nat} {L : Nat}
theorem cx_drop1 {post : SX → Prop} {m P : Nat} {l0 w : List Nat} (hP : P ≤ m) (hl : l0.length = m) (hK : cf_K a_canon (m + 1 + w.length) (l0 ++ (47 :: w))) (hw : ∀ k, k < w.length → w.getD k 0 ≠ 47 ∧ w.getD k 0 ≤ 126) (h49 : m + 1 + w.length ≤ 49) (h : post (f_maxUrls, f_defaultDelay, f_clock, f_bufferLength, nI m, f_canonHost, f_canonHostLength, nI P, f_schemePort, f_partLength, f_urlCount, f_urlChars, f_hostCount, f_ruleCount, f_ruleChars, a_buffer, a_canon, a_part, a_urlPool, a_urlStart, a_urlLength, a_urlPath, a_urlHost, a_urlState, a_urlTime, a_names, a_nameLength, a_hostDelay, a_hostNext, a_rulePool, a_ruleStart, a_ruleLength, a_ruleHost)) : ∀ k f, k ≤ w.length → k + 2 ≤ f → wX_dropSegment_2 post f_maxUrls f_defaultDelay f_clock f_bufferLength f_canonHost f_canonHostLength (nI P) f_schemePort f_partLength f_urlCount f_urlChars f_hostCount f_ruleCount f_ruleChars a_buffer a_canon a_part a_urlPool a_urlStart a_urlLength a_urlPath a_urlHost a_urlState a_urlTime a_names a_nameLength a_hostDelay a_hostNext a_rulePool a_ruleStart a_ruleLength a_ruleHost f 0 (nI (m + 1 + k)) := by
  intro k
  induction k with
  | zero =>
    intro f hk hf
    obtain ⟨g, rfl⟩ : ∃ g, f = g + 1 + 1 := ⟨f - 2, by omega⟩
    have e : a_canon m = nI 47 := by
      rw [cf_Kg hK (by omega), cf_gdr (by omega), hl, Nat.sub_self]
      rfl
    exact pk_le (m + 1) P (fun z => by omega) (fun _ => br_t rfl (nm_r (e' := nI m) (nI_pred m) ⟨pk_in m 49 (by omega), br_t (cf_ix m rfl (by omega) e) (pk_le m P (fun _ => h) (fun _ => br_f (by decide) h))⟩))
  | succ k ih =>
    intro f hk hf
    obtain ⟨g, rfl⟩ : ∃ g, f = g + 1 := ⟨f - 1, by omega⟩
    have e : a_canon (m + 1 + k) = nI (w.getD k 0) := by
      rw [cf_Kg hK (by omega), cf_gdr (by omega), hl, show m + 1 + k - m = k + 1 by omega, List.getD_cons_succ]
    have q := hw k (by omega)
    exact pk_le (m + 1 + (k + 1)) P (fun z => by omega) (fun _ => br_t rfl (nm_r (e' := nI (m + 1 + k)) (nI_pred (m + 1 + k)) ⟨pk_in (m + 1 + k) 49 (by omega), cf_eqc (w.getD k 0) 47 (cf_ix (m + 1 + k) rfl (by omega) e) (by omega) (fun z => absurd z q.1) (fun _ => ih g (by omega) (by omega))⟩))
theorem cx_drop {post : SX → Prop} {dd : Nat → Nat} {n N s : Nat} {g : List (Nat × Nat)} {l : List Nat} (hl : l.length = n) (hG : cf_G dd N s g) (hB : ∀ j, dd j ≤ 126) (h49 : n + (cf_fl dd g).length ≤ 49) (hK : cf_K a_canon (n + (cf_fl dd g).length) (l ++ cf_fl dd g)) (h : cf_K a_canon (n + (cf_fl dd (g.take (g.length - 1))).length) (l ++ cf_fl dd (g.take (g.length - 1))) → post (f_maxUrls, f_defaultDelay, f_clock, f_bufferLength, nI (n + (cf_fl dd (g.take (g.length - 1))).length), f_canonHost, f_canonHostLength, nI n, f_schemePort, f_partLength, f_urlCount, f_urlChars, f_hostCount, f_ruleCount, f_ruleChars, a_buffer, a_canon, a_part, a_urlPool, a_urlStart, a_urlLength, a_urlPath, a_urlHost, a_urlState, a_urlTime, a_names, a_nameLength, a_hostDelay, a_hostNext, a_rulePool, a_ruleStart, a_ruleLength, a_ruleHost)) : wpX_dropSegment post (f_maxUrls, f_defaultDelay, f_clock, f_bufferLength, nI (n + (cf_fl dd g).length), f_canonHost, f_canonHostLength, nI n, f_schemePort, f_partLength, f_urlCount, f_urlChars, f_hostCount, f_ruleCount, f_ruleChars, a_buffer, a_canon, a_part, a_urlPool, a_urlStart, a_urlLength, a_urlPath, a_urlHost, a_urlState, a_urlTime, a_names, a_nameLength, a_hostDelay, a_hostNext, a_rulePool, a_ruleStart, a_ruleLength, a_ruleHost) := by
  by_cases hg : g = []
  · subst hg
    exact ⟨1, pk_le n n (fun _ => h hK) (fun z => by omega)⟩
  · obtain ⟨p, hp, eg⟩ := cf_tkL hg
    have ef : cf_fl dd g = cf_fl dd (g.take (g.length - 1)) ++ (47 :: cf_sb dd p.1 p.2) := (congrArg (cf_fl dd) eg).trans (cf_fla dd _ p)
    have en : n + (cf_fl dd g).length = n + (cf_fl dd (g.take (g.length - 1))).length + 1 + (cf_sb dd p.1 p.2).length := by
      rw [ef, List.length_append, List.length_cons]
      omega
    rw [en] at hK h49 ⊢
    rw [ef, ← List.append_assoc] at hK
    have hl2 : (l ++ cf_fl dd (g.take (g.length - 1))).length = n + (cf_fl dd (g.take (g.length - 1))).length := by rw [List.length_append, hl]
    refine ⟨(cf_sb dd p.1 p.2).length + 2, cx_drop1 (by omega) hl2 hK (fun k hk => ?_) h49 (h (cf_Kl hK hl2)) _ _ (Nat.le_refl _) (Nat.le_refl _)⟩
    rw [cf_sbL] at hk
    rw [cf_sbG _ _ _ _ hk]
    exact ⟨(hG.2 p hp).2 k hk, hB _⟩
theorem cx_seg111 {post : SX → Prop} {dd : Nat → Nat} {n N i s : Nat} {g : List (Nat × Nat)} {l : List Nat} (hi : i ≤ N) (hN : N ≤ 48) (h49 : n + (cf_fl dd g).length < 49) (hK : cf_K a_canon (n + (cf_fl dd g).length) (l ++ cf_fl dd g)) (hT : i = N → ∀ a, cf_K a (n + (cf_fl dd (g ++ [(s, 0)])).length) (l ++ cf_fl dd (g ++ [(s, 0)])) → post (f_maxUrls, f_defaultDelay, f_clock, f_bufferLength, nI (n + (cf_fl dd (g ++ [(s, 0)])).length), f_canonHost, f_canonHostLength, f_canonPath, f_schemePort, nI N, f_urlCount, f_urlChars, f_hostCount, f_ruleCount, f_ruleChars, a_buffer, a, a_part, a_urlPool, a_urlStart, a_urlLength, a_urlPath, a_urlHost, a_urlState, a_urlTime, a_names, a_nameLength, a_hostDelay, a_hostNext, a_rulePool, a_ruleStart, a_ruleLength, a_ruleHost)) (hF : i ≠ N → post (f_maxUrls, f_defaultDelay, f_clock, f_bufferLength, nI (n + (cf_fl dd g).length), f_canonHost, f_canonHostLength, f_canonPath, f_schemePort, nI N, f_urlCount, f_urlChars, f_hostCount, f_ruleCount, f_ruleChars, a_buffer, a_canon, a_part, a_urlPool, a_urlStart, a_urlLength, a_urlPath, a_urlHost, a_urlState, a_urlTime, a_names, a_nameLength, a_hostDelay, a_hostNext, a_rulePool, a_ruleStart, a_ruleLength, a_ruleHost)) : wX_appendSegment_111 post (nI i) f_maxUrls f_defaultDelay f_clock f_bufferLength (nI (n + (cf_fl dd g).length)) f_canonHost f_canonHostLength f_canonPath f_schemePort (nI N) f_urlCount f_urlChars f_hostCount f_ruleCount f_ruleChars a_buffer a_canon a_part a_urlPool a_urlStart a_urlLength a_urlPath a_urlHost a_urlState a_urlTime a_names a_nameLength a_hostDelay a_hostNext a_rulePool a_ruleStart a_ruleLength a_ruleHost := by
  refine pk_eq i N (fun z => cx_app 47 rfl h49 hK (fun a hK' => ?_)) (fun z => hF z)
  have g1 := hT z a
  have e : cf_fl dd (g ++ [(s, 0)]) = cf_fl dd g ++ [47] := cf_fla dd g (s, 0)
  have en : n + (cf_fl dd (g ++ [(s, 0)])).length = n + (cf_fl dd g).length + 1 := by
    rw [e, List.length_append]
    exact (Nat.add_assoc _ _ _).symm
  rw [en, e, ← List.append_assoc] at g1
  exact g1 hK'
theorem cx_seg85 {post : SX → Prop} {D l : List Nat} {n s i : Nat} (hP : cf_K a_part D.length D) (hi : i ≤ D.length) (hD : D.length ≤ 48) (hn : n + (i - s) ≤ 49) (h : ∀ a, cf_K a (n + (i - s)) (l ++ cf_sb (cf_dD D) s (i - s)) → post (f_maxUrls, f_defaultDelay, f_clock, f_bufferLength, nI (n + (i - s)), f_canonHost, f_canonHostLength, f_canonPath, f_schemePort, f_partLength, f_urlCount, f_urlChars, f_hostCount, f_ruleCount, f_ruleChars, a_buffer, a, a_part, a_urlPool, a_urlStart, a_urlLength, a_urlPath, a_urlHost, a_urlState, a_urlTime, a_names, a_nameLength, a_hostDelay, a_hostNext, a_rulePool, a_ruleStart, a_ruleLength, a_ruleHost)) : ∀ d k f a, s + k + d = i → d < f → cf_K a (n + k) (l ++ cf_sb (cf_dD D) s k) → wX_appendSegment_85 post (nI i) f (nI (s + k)) f_maxUrls f_defaultDelay f_clock f_bufferLength (nI (n + k)) f_canonHost f_canonHostLength f_canonPath f_schemePort f_partLength f_urlCount f_urlChars f_hostCount f_ruleCount f_ruleChars a_buffer a a_part a_urlPool a_urlStart a_urlLength a_urlPath a_urlHost a_urlState a_urlTime a_names a_nameLength a_hostDelay a_hostNext a_rulePool a_ruleStart a_ruleLength a_ruleHost := by
  intro d
  induction d with
  | zero =>
    intro k f a hk hf hK
    have e : i - s = k := by omega
    rw [e] at h
    cases f with
    | zero => omega
    | succ f => exact pk_le i (s + k) (fun _ => h a hK) (fun z => by omega)
  | succ d ih =>
    intro k f a hk hf hK
    cases f with
    | zero => omega
    | succ f =>
      refine pk_le i (s + k) (fun z => by omega) (fun z => ⟨pk_in (s + k) 48 (by omega), cx_app (cf_dD D (s + k)) (cf_rK hP (s + k) (by omega)) (by omega) hK (fun a' hK' => nm_r (nI_1 (s + k)) (ih (k + 1) f a' (by omega) (by omega) ?_))⟩)
      rw [cf_sb1, ← List.append_assoc]
      exact hK'
theorem cx_seg {post : SX → Prop} {D l : List Nat} {n s i : Nat} {g : List (Nat × Nat)} (hP : cf_K a_part D.length D) (hD : D.length ≤ 48) (hB : ∀ j, cf_dD D j ≤ 126) (hs1 : 1 ≤ s) (hsi : s ≤ i) (hi : i ≤ D.length) (h47 : cf_dD D (s - 1) = 47) (hG : cf_G (cf_dD D) D.length s g) (hl : l.length = n) (hn : n + D.length ≤ 49) (hK : cf_K a_canon (n + (cf_fl (cf_dD D) g).length) (l ++ cf_fl (cf_dD D) g)) (h : ∀ a, cf_K a (n + (cf_fl (cf_dD D) (cf_st (cf_dD D) D.length i s g)).length) (l ++ cf_fl (cf_dD D) (cf_st (cf_dD D) D.length i s g)) → post (f_maxUrls, f_defaultDelay, f_clock, f_bufferLength, nI (n + (cf_fl (cf_dD D) (cf_st (cf_dD D) D.length i s g)).length), f_canonHost, f_canonHostLength, nI n, f_schemePort, nI D.length, f_urlCount, f_urlChars, f_hostCount, f_ruleCount, f_ruleChars, a_buffer, a, a_part, a_urlPool, a_urlStart, a_urlLength, a_urlPath, a_urlHost, a_urlState, a_urlTime, a_names, a_nameLength, a_hostDelay, a_hostNext, a_rulePool, a_ruleStart, a_ruleLength, a_ruleHost)) : wpX_appendSegment post (f_maxUrls, f_defaultDelay, f_clock, f_bufferLength, nI (n + (cf_fl (cf_dD D) g).length), f_canonHost, f_canonHostLength, nI n, f_schemePort, nI D.length, f_urlCount, f_urlChars, f_hostCount, f_ruleCount, f_ruleChars, a_buffer, a_canon, a_part, a_urlPool, a_urlStart, a_urlLength, a_urlPath, a_urlHost, a_urlState, a_urlTime, a_names, a_nameLength, a_hostDelay, a_hostNext, a_rulePool, a_ruleStart, a_ruleLength, a_ruleHost) (nI s) (nI i) := by
  have hg1 := hG.1
  have es : nI i - nI s = nI (i - s) := pk_sub hsi
  have rd : ∀ j, j < D.length → a_part j = nI (cf_dD D j) := fun j hj => cf_Kg hP hj
  by_cases cA : i - s = 1 ∧ cf_dD D s = 46
  · have est : cf_st (cf_dD D) D.length i s g = if i = D.length then g ++ [(s, 0)] else g := by unfold cf_st; rw [if_pos cA]
    have fin : wX_appendSegment_111 post (nI i) f_maxUrls f_defaultDelay f_clock f_bufferLength (nI (n + (cf_fl (cf_dD D) g).length)) f_canonHost f_canonHostLength (nI n) f_schemePort (nI D.length) f_urlCount f_urlChars f_hostCount f_ruleCount f_ruleChars a_buffer a_canon a_part a_urlPool a_urlStart a_urlLength a_urlPath a_urlHost a_urlState a_urlTime a_names a_nameLength a_hostDelay a_hostNext a_rulePool a_ruleStart a_ruleLength a_ruleHost := by
      refine cx_seg111 (s := s) hi hD (by omega) hK (fun z a hK' => ?_) (fun z => ?_)
      · rw [if_pos z] at est
        rw [est] at h
        exact h a hK'
      · rw [if_neg z] at est
        rw [est] at h
        exact h a_canon hK
    exact pk_eq (i - s) 1 (fun _ => ⟨pk_in s 48 (by omega), br_t (cf_ix s rfl (by omega) ((rd s (by omega)).trans (congrArg nI cA.2))) (pk_eq (i - s) 2 (fun z => by omega) (fun _ => br_t rfl (br_f (by decide) fin)) es)⟩) (fun z => absurd cA.1 z) es
  · by_cases cB : i - s = 2 ∧ cf_dD D s = 46 ∧ cf_dD D (s + 1) = 46
    · have est : cf_st (cf_dD D) D.length i s g = if i = D.length then g.take (g.length - 1) ++ [(s, 0)] else g.take (g.length - 1) := by unfold cf_st; rw [if_neg cA, if_pos cB]
      have tl := cf_flT (cf_dD D) g (g.length - 1)
      refine pk_eq (i - s) 1 (fun z => by omega) (fun _ => pk_eq (i - s) 2 (fun _ => ⟨pk_in s 48 (by omega), br_t (cf_ix s rfl (by omega) ((rd s (by omega)).trans (congrArg nI cB.2.1))) ⟨pk_in (s + 1) 48 (by omega) (nI_1 s), br_t (cf_ix (s + 1) (nI_1 s) (by omega) ((rd (s + 1) (by omega)).trans (congrArg nI cB.2.2))) (br_f (by decide) (cx_drop hl hG hB (by omega) hK (fun hK2 => br_t rfl (br_f (by decide) ?_))))⟩⟩) (fun z => absurd cB.1 z) es) es
      refine cx_seg111 (s := s) hi hD (by omega) hK2 (fun z a hK' => ?_) (fun z => ?_)
      · rw [if_pos z] at est
        rw [est] at h
        exact h a hK'
      · rw [if_neg z] at est
        rw [est] at h
        exact h a_canon hK2
    · have est : cf_st (cf_dD D) D.length i s g = g ++ [(s, i - s)] := by unfold cf_st; rw [if_neg cA, if_neg cB]
      rw [est] at h
      have ef : cf_fl (cf_dD D) (g ++ [(s, i - s)]) = cf_fl (cf_dD D) g ++ cf_sb (cf_dD D) (s - 1) (i - (s - 1)) := by
        rw [cf_fla, show i - (s - 1) = 1 + (i - s) by omega, cf_sbA, show s - 1 + 1 = s by omega]
        show _ = cf_fl (cf_dD D) g ++ ([cf_dD D (s - 1 + 0)] ++ _)
        rw [Nat.add_zero, h47]
        rfl
      have en : n + (cf_fl (cf_dD D) (g ++ [(s, i - s)])).length = n + (cf_fl (cf_dD D) g).length + (i - (s - 1)) := by
        rw [ef, List.length_append, cf_sbL]
        omega
      have fin : wX_appendSegment_71 post (nI s) (nI i) 0 0 f_maxUrls f_defaultDelay f_clock f_bufferLength (nI (n + (cf_fl (cf_dD D) g).length)) f_canonHost f_canonHostLength (nI n) f_schemePort (nI D.length) f_urlCount f_urlChars f_hostCount f_ruleCount f_ruleChars a_buffer a_canon a_part a_urlPool a_urlStart a_urlLength a_urlPath a_urlHost a_urlState a_urlTime a_names a_nameLength a_hostDelay a_hostNext a_rulePool a_ruleStart a_ruleLength a_ruleHost := by
        refine br_t rfl (br_t rfl (nm_r (e' := nI (s - 1)) (pk_sub (b := 1) hs1) ⟨i - (s - 1) + 1, cx_seg85 (s := s - 1) (n := n + (cf_fl (cf_dD D) g).length) (l := l ++ cf_fl (cf_dD D) g) hP hi hD (by omega) (fun a hK' => ?_) (i - (s - 1)) 0 _ a_canon (by omega) (by omega) ?_⟩))
        · have h' := h a
          rw [en, ef, ← List.append_assoc] at h'
          exact h' hK'
        · show cf_K a_canon _ (_ ++ [])
          rw [List.append_nil]
          exact hK
      have f60 : wX_appendSegment_59 post (nI s) (nI i) 0 f_maxUrls f_defaultDelay f_clock f_bufferLength (nI (n + (cf_fl (cf_dD D) g).length)) f_canonHost f_canonHostLength (nI n) f_schemePort (nI D.length) f_urlCount f_urlChars f_hostCount f_ruleCount f_ruleChars a_buffer a_canon a_part a_urlPool a_urlStart a_urlLength a_urlPath a_urlHost a_urlState a_urlTime a_names a_nameLength a_hostDelay a_hostNext a_rulePool a_ruleStart a_ruleLength a_ruleHost := br_t rfl fin
      have f22 : wX_appendSegment_22 post (nI s) (nI i) f_maxUrls f_defaultDelay f_clock f_bufferLength (nI (n + (cf_fl (cf_dD D) g).length)) f_canonHost f_canonHostLength (nI n) f_schemePort (nI D.length) f_urlCount f_urlChars f_hostCount f_ruleCount f_ruleChars a_buffer a_canon a_part a_urlPool a_urlStart a_urlLength a_urlPath a_urlHost a_urlState a_urlTime a_names a_nameLength a_hostDelay a_hostNext a_rulePool a_ruleStart a_ruleLength a_ruleHost := by
        refine pk_eq (i - s) 2 (fun z => ⟨pk_in s 48 (by omega), cf_eqc (cf_dD D s) 46 (cf_ix s rfl (by omega) (rd s (by omega))) (by have := hB s; omega) (fun z1 => ⟨pk_in (s + 1) 48 (by omega) (nI_1 s), cf_eqc (cf_dD D (s + 1)) 46 (cf_ix (s + 1) (nI_1 s) (by omega) (rd (s + 1) (by omega))) (by have := hB (s + 1); omega) (fun z2 => absurd ⟨z, z1, z2⟩ cB) (fun z2 => f60)⟩) (fun z1 => f60)⟩) (fun z => f60) es
      exact pk_eq (i - s) 1 (fun z => ⟨pk_in s 48 (by omega), cf_eqc (cf_dD D s) 46 (cf_ix s rfl (by omega) (rd s (by omega))) (by have := hB s; omega) (fun z1 => absurd ⟨z, z1⟩ cA) (fun z1 => f22)⟩) (fun z => f22) es
theorem cx_pathLoop {post : SX → Prop} {D l : List Nat} {n : Nat} (hP : cf_K a_part D.length D) (hD : D.length ≤ 48) (hB : ∀ j, cf_dD D j ≤ 126) (hl : l.length = n) (hn : n + D.length ≤ 49) : ∀ d i s g f a, i + d = D.length + 1 → d < f → 1 ≤ s → s ≤ i → cf_dD D (s - 1) = 47 → (∀ j, s ≤ j → j < i → cf_dD D j ≠ 47) → cf_G (cf_dD D) D.length s g → cf_K a (n + (cf_fl (cf_dD D) g).length) (l ++ cf_fl (cf_dD D) g) → (∀ a', cf_K a' (n + (cf_fl (cf_dD D) (cf_sg (cf_dD D) D.length d i s g)).length) (l ++ cf_fl (cf_dD D) (cf_sg (cf_dD D) D.length d i s g)) → post (f_maxUrls, f_defaultDelay, f_clock, f_bufferLength, nI (n + (cf_fl (cf_dD D) (cf_sg (cf_dD D) D.length d i s g)).length), f_canonHost, f_canonHostLength, nI n, f_schemePort, nI D.length, f_urlCount, f_urlChars, f_hostCount, f_ruleCount, f_ruleChars, a_buffer, a', a_part, a_urlPool, a_urlStart, a_urlLength, a_urlPath, a_urlHost, a_urlState, a_urlTime, a_names, a_nameLength, a_hostDelay, a_hostNext, a_rulePool, a_ruleStart, a_ruleLength, a_ruleHost)) → wX_appendPath_25 post f (nI s) (nI i) f_maxUrls f_defaultDelay f_clock f_bufferLength (nI (n + (cf_fl (cf_dD D) g).length)) f_canonHost f_canonHostLength (nI n) f_schemePort (nI D.length) f_urlCount f_urlChars f_hostCount f_ruleCount f_ruleChars a_buffer a a_part a_urlPool a_urlStart a_urlLength a_urlPath a_urlHost a_urlState a_urlTime a_names a_nameLength a_hostDelay a_hostNext a_rulePool a_ruleStart a_ruleLength a_ruleHost := by
  intro d
  induction d with
  | zero =>
    intro i s g f a hi hf hs1 hsi h47 hj hG hK h
    cases f with
    | zero => omega
    | succ f => exact pk_lt D.length i (fun _ => h a hK) (fun z => by omega)
  | succ d ih =>
    intro i s g f a hi hf hs1 hsi h47 hj hG hK h
    cases f with
    | zero => omega
    | succ f =>
      have seg : ¬ (i < D.length ∧ cf_dD D i ≠ 47) → (i < D.length → cf_dD D i = 47) → wX_appendPath_52 post (wX_appendPath_25 post f) (nI s) (nI i) f_maxUrls f_defaultDelay f_clock f_bufferLength (nI (n + (cf_fl (cf_dD D) g).length)) f_canonHost f_canonHostLength (nI n) f_schemePort (nI D.length) f_urlCount f_urlChars f_hostCount f_ruleCount f_ruleChars a_buffer a a_part a_urlPool a_urlStart a_urlLength a_urlPath a_urlHost a_urlState a_urlTime a_names a_nameLength a_hostDelay a_hostNext a_rulePool a_ruleStart a_ruleLength a_ruleHost := by
        intro c c2
        rw [cf_sgS c] at h
        refine cx_seg hP hD hB hs1 hsi (by omega) h47 hG hl hn hK (fun a' hK' => nm_r (nI_1 i) (nm_r (nI_1 i) ?_))
        rcases Nat.lt_or_ge i D.length with z | z
        · refine ih (i + 1) (i + 1) _ f a' (by omega) (by omega) (by omega) (Nat.le_refl _) ?_ (fun j h1 h2 => by omega) (cf_Gs hG hsi (by omega) hj) hK' h
          rw [Nat.add_sub_cancel]
          exact c2 z
        · have d0 : d = 0 := by omega
          subst d0
          cases f with
          | zero => omega
          | succ f => exact pk_lt D.length (i + 1) (fun _ => h a' hK') (fun z => by omega)
      refine pk_lt D.length i (fun z => by omega) (fun _ => pk_eq i D.length (fun z => seg (fun w => by omega) (fun w => by omega)) (fun z => ⟨pk_in i 48 (by omega), cf_eqc (cf_dD D i) 47 (cf_rK hP i (by omega)) (by have := hB i; omega) (fun z1 => seg (fun w => w.2 z1) (fun _ => z1)) (fun z1 => nm_r (nI_1 i) ?_)⟩))
      rw [cf_sgC ⟨by omega, z1⟩] at h
      refine ih (i + 1) s g f a (by omega) (by omega) hs1 (by omega) h47 (fun j h1 h2 => ?_) hG hK h
      rcases Nat.lt_or_ge j i with y | y
      · exact hj j h1 y
      · have ej : j = i := by omega
        rw [ej]
        exact z1
theorem cx_appendPath {post : SX → Prop} {D l : List Nat} {n : Nat} (hP : cf_K a_part D.length D) (hD : D.length ≤ 48) (hB : ∀ j, cf_dD D j ≤ 126) (h47 : 0 < D.length → cf_dD D 0 = 47) (hn : n + D.length ≤ 49) (hn1 : n + 1 ≤ 49) (hK : cf_K a_canon n l) (h : ∀ a, cf_K a (n + (cf_pa D).length) (l ++ cf_pa D) → post (f_maxUrls, f_defaultDelay, f_clock, f_bufferLength, nI (n + (cf_pa D).length), f_canonHost, f_canonHostLength, nI n, f_schemePort, nI D.length, f_urlCount, f_urlChars, f_hostCount, f_ruleCount, f_ruleChars, a_buffer, a, a_part, a_urlPool, a_urlStart, a_urlLength, a_urlPath, a_urlHost, a_urlState, a_urlTime, a_names, a_nameLength, a_hostDelay, a_hostNext, a_rulePool, a_ruleStart, a_ruleLength, a_ruleHost)) : wpX_appendPath post (f_maxUrls, f_defaultDelay, f_clock, f_bufferLength, nI n, f_canonHost, f_canonHostLength, f_canonPath, f_schemePort, nI D.length, f_urlCount, f_urlChars, f_hostCount, f_ruleCount, f_ruleChars, a_buffer, a_canon, a_part, a_urlPool, a_urlStart, a_urlLength, a_urlPath, a_urlHost, a_urlState, a_urlTime, a_names, a_nameLength, a_hostDelay, a_hostNext, a_rulePool, a_ruleStart, a_ruleLength, a_ruleHost) := by
  refine pk_eq D.length 0 (fun z => cx_app 47 rfl (by omega) hK (fun a hK' => ⟨1, ?_⟩)) (fun z => ⟨D.length + 1, ?_⟩)
  · have e : D = [] := List.eq_nil_of_length_eq_zero z
    subst e
    exact pk_lt 0 1 (fun _ => h a hK') (fun z => by omega)
  · have e : cf_pa D = cf_fl (cf_dD D) (cf_gs D) := cf_ptN (cf_gsN (by omega))
    rw [e] at h
    refine cx_pathLoop hP hD hB hK.1 hn D.length 1 1 [] _ a_canon (by omega) (by omega) (Nat.le_refl _) (Nat.le_refl _) (h47 (by omega)) (fun j h1 h2 => by omega) (cf_G0 _ _) ?_ h
    show cf_K a_canon (n + 0) (l ++ [])
    rw [List.append_nil]
    exact hK
end
end
section
/-! the class: the canonical text -/
theorem cf_dDB {D : List Nat} (h : ∀ c, c ∈ D → c ≤ 126) (j : Nat) : cf_dD D j ≤ 126 := by
  unfold cf_dD
  rcases Nat.lt_or_ge j D.length with z | z
  · exact h _ (cf_gdm z)
  · rw [List.getD_eq_getElem?_getD, List.getElem?_eq_none z]
    exact Nat.zero_le _
theorem cf_D47 {t : Nat → Nat} {L c he p pE : Nat} {po D : List Nat} (ht : ∀ j, t j ≤ 126) (h2 : cf_IE 4 t L (c + 3) he) (h4 : cf_PO t L c he p po) (h5 : cf_IE 2 t L p pE) (h6 : cf_dc t pE (pE - p) p = some D) (h : 0 < D.length) : cf_dD D 0 = 47 := by
  have l := (cf_dcF ht _ _ _ (Nat.le_refl _) h6).1
  have hp : p < pE := by omega
  obtain ⟨D', rfl⟩ := cf_dc47 hp (Nat.le_refl _) (cf_PSp h2 h4 h5 hp) h6
  rfl
section
variable {f_maxUrls f_defaultDelay f_clock f_bufferLength f_canonLength f_canonHost f_canonHostLength f_canonPath f_schemePort f_partLength f_urlCount f_urlChars f_hostCount f_ruleCount f_ruleChars : Int32} {a_buffer a_canon a_part a_urlPool a_urlStart a_urlLength a_urlPath a_urlHost a_urlState a_urlTime a_names a_nameLength a_hostDelay a_hostNext a_rulePool a_ruleStart a_ruleLength a_ruleHost : Nat → Int32}
variable {t : Nat → Nat} {L : Nat}
theorem cx_queryLoop {post : SX → Prop} {D l : List Nat} {n : Nat} (hP : cf_K a_part D.length D) (hD : D.length ≤ 48) (hn : n + D.length ≤ 49) (h : ∀ a, cf_K a (n + D.length) (l ++ D) → post (f_maxUrls, f_defaultDelay, f_clock, f_bufferLength, nI (n + D.length), f_canonHost, f_canonHostLength, f_canonPath, f_schemePort, nI D.length, f_urlCount, f_urlChars, f_hostCount, f_ruleCount, f_ruleChars, a_buffer, a, a_part, a_urlPool, a_urlStart, a_urlLength, a_urlPath, a_urlHost, a_urlState, a_urlTime, a_names, a_nameLength, a_hostDelay, a_hostNext, a_rulePool, a_ruleStart, a_ruleLength, a_ruleHost)) : ∀ d k f a, k + d = D.length → d < f → cf_K a (n + k) (l ++ cf_sb (cf_dD D) 0 k) → wX_appendQuery_2 post f (nI k) f_maxUrls f_defaultDelay f_clock f_bufferLength (nI (n + k)) f_canonHost f_canonHostLength f_canonPath f_schemePort (nI D.length) f_urlCount f_urlChars f_hostCount f_ruleCount f_ruleChars a_buffer a a_part a_urlPool a_urlStart a_urlLength a_urlPath a_urlHost a_urlState a_urlTime a_names a_nameLength a_hostDelay a_hostNext a_rulePool a_ruleStart a_ruleLength a_ruleHost := by
  intro d
  induction d with
  | zero =>
    intro k f a hk hf hK
    have e : k = D.length := by omega
    subst e
    rw [cf_sbD] at hK
    cases f with
    | zero => omega
    | succ f => exact pk_le D.length D.length (fun _ => h a hK) (fun z => by omega)
  | succ d ih =>
    intro k f a hk hf hK
    cases f with
    | zero => omega
    | succ f =>
      refine pk_le D.length k (fun z => by omega) (fun z => ⟨pk_in k 48 (by omega), cx_app (cf_dD D k) (cf_rK hP k (by omega)) (by omega) hK (fun a' hK' => nm_r (nI_1 k) (ih (k + 1) f a' (by omega) (by omega) ?_))⟩)
      rw [cf_sb1, ← List.append_assoc, Nat.zero_add]
      exact hK'
theorem cx_appendQuery {post : SX → Prop} {D l : List Nat} {n : Nat} (hP : cf_K a_part D.length D) (hD : D.length ≤ 48) (hn : n + D.length ≤ 49) (hK : cf_K a_canon n l) (h : ∀ a, cf_K a (n + D.length) (l ++ D) → post (f_maxUrls, f_defaultDelay, f_clock, f_bufferLength, nI (n + D.length), f_canonHost, f_canonHostLength, f_canonPath, f_schemePort, nI D.length, f_urlCount, f_urlChars, f_hostCount, f_ruleCount, f_ruleChars, a_buffer, a, a_part, a_urlPool, a_urlStart, a_urlLength, a_urlPath, a_urlHost, a_urlState, a_urlTime, a_names, a_nameLength, a_hostDelay, a_hostNext, a_rulePool, a_ruleStart, a_ruleLength, a_ruleHost)) : wpX_appendQuery post (f_maxUrls, f_defaultDelay, f_clock, f_bufferLength, nI n, f_canonHost, f_canonHostLength, f_canonPath, f_schemePort, nI D.length, f_urlCount, f_urlChars, f_hostCount, f_ruleCount, f_ruleChars, a_buffer, a_canon, a_part, a_urlPool, a_urlStart, a_urlLength, a_urlPath, a_urlHost, a_urlState, a_urlTime, a_names, a_nameLength, a_hostDelay, a_hostNext, a_rulePool, a_ruleStart, a_ruleLength, a_ruleHost) := by
  refine ⟨D.length + 1, cx_queryLoop hP hD hn h D.length 0 _ a_canon (by omega) (by omega) ?_⟩
  show cf_K a_canon (n + 0) (l ++ [])
  rw [List.append_nil]
  exact hK
theorem cx_canon {post : Int32 → SX → Prop} (hL : L ≤ 48) (hb : ∀ j, a_buffer j = nI (t j)) (ht : ∀ j, t j ≤ 126) (hN : (∀ c he p pE qE po D1 D2, ¬ cf_PS t L c he p pE qE po D1 D2) → ∀ a1 a2 n1 n2 n3 n4 n5 n6, post 0 (f_maxUrls, f_defaultDelay, f_clock, nI L, n1, n2, n3, n4, n5, n6, f_urlCount, f_urlChars, f_hostCount, f_ruleCount, f_ruleChars, a_buffer, a1, a2, a_urlPool, a_urlStart, a_urlLength, a_urlPath, a_urlHost, a_urlState, a_urlTime, a_names, a_nameLength, a_hostDelay, a_hostNext, a_rulePool, a_ruleStart, a_ruleLength, a_ruleHost)) (hY : ∀ c he p pE qE po D1 D2, cf_PS t L c he p pE qE po D1 D2 → ∀ a1 a2 n5 n6, cf_K a1 (cf_out t he po D1 D2).length (cf_out t he po D1 D2) → post 1 (f_maxUrls, f_defaultDelay, f_clock, nI L, nI (cf_out t he po D1 D2).length, nI (c + 3), nI (he - (c + 3)), nI (he + po.length), n5, n6, f_urlCount, f_urlChars, f_hostCount, f_ruleCount, f_ruleChars, a_buffer, a1, a2, a_urlPool, a_urlStart, a_urlLength, a_urlPath, a_urlHost, a_urlState, a_urlTime, a_names, a_nameLength, a_hostDelay, a_hostNext, a_rulePool, a_ruleStart, a_ruleLength, a_ruleHost)) : wpX_canonicalise post (f_maxUrls, f_defaultDelay, f_clock, nI L, f_canonLength, f_canonHost, f_canonHostLength, f_canonPath, f_schemePort, f_partLength, f_urlCount, f_urlChars, f_hostCount, f_ruleCount, f_ruleChars, a_buffer, a_canon, a_part, a_urlPool, a_urlStart, a_urlLength, a_urlPath, a_urlHost, a_urlState, a_urlTime, a_names, a_nameLength, a_hostDelay, a_hostNext, a_rulePool, a_ruleStart, a_ruleLength, a_ruleHost) := by
  unfold wpX_canonicalise
  dsimp only
  refine cx_takeScheme hL hb ht (fun h a n => br_t rfl (hN (fun c he p pE qE po D1 D2 w => h c w.1) _ _ _ _ _ _ _ _)) (fun c hc a1 hK1 => br_f (cf_m1 (j := c + 3) (by have := hc.2.1; omega)) ?_)
  have c5 : c ≤ 5 := by have := hc.1; omega
  have cL := hc.2.1
  refine cx_takeHost hL (by omega) (by omega) hb ht hK1 (fun h a n x y => br_t rfl (hN (fun c' he p pE qE po D1 D2 w => ?_) _ _ _ _ _ _ _ _)) (fun he hE hH a2 hK2 => ?_)
  · have e := cf_Schu w.1 hc
    subst e
    exact h he w.2.1 w.2.2.1
  have he1 := hE.1
  have he2 := hE.2.1
  have he3 := hH.2.1
  refine br_f (cf_m1 (j := he) (by omega)) ?_
  have eh : cf_sb (fun j => cf_lo (t j)) 0 (c + 3) ++ cf_sb (fun j => cf_lo (t j)) (c + 3) (he - (c + 3)) = cf_sb (fun j => cf_lo (t j)) 0 he := by
    have q := cf_sbA (fun j => cf_lo (t j)) 0 (c + 3) (he - (c + 3))
    rw [Nat.zero_add, show c + 3 + (he - (c + 3)) = he by omega] at q
    exact q.symm
  rw [eh] at hK2
  refine cx_takePort hL he2 (by omega) hb ht hK2 (fun h => br_t rfl (hN (fun c' he' p pE qE po D1 D2 w => ?_) _ _ _ _ _ _ _ _)) (fun p po hPO a3 hK3 => ?_)
  · have e := cf_Schu w.1 hc
    subst e
    have e := cf_IEu w.2.1 hE
    subst e
    exact h p po w.2.2.2.1
  have pp := cf_POl he2 hPO
  have p1 := pp.1
  have p2 := pp.2.1
  refine br_f (cf_m1 (j := p) (by omega)) (cx_partEnd (r := 2) hb ht p2 hL (by omega) (fun pE hpE => ?_))
  have pE1 := hpE.1
  have pE2 := hpE.2.1
  refine cx_decode pE1 (by omega) hb ht (fun h a n => br_t rfl (hN (fun c' he' p' pE' qE po' D1 D2 w => ?_) _ _ _ _ _ _ _ _)) (fun D1 hD1 a4 hK4 => br_f (by decide) ?_)
  · have e := cf_Schu w.1 hc
    subst e
    have e := cf_IEu w.2.1 hE
    subst e
    have e := (cf_POu w.2.2.2.1 hPO).1
    subst e
    have e := cf_IEu w.2.2.2.2.1 hpE
    subst e
    have w6 := w.2.2.2.2.2.1
    rw [h] at w6
    cases w6
  have dd1 := cf_dcF ht (pE - p) p D1 (Nat.le_refl _) hD1
  have d1 := dd1.1
  have d2 := dd1.2
  refine cx_appendPath hK4 (by omega) (cf_dDB d2) (cf_D47 ht hE hPO hpE hD1) (by omega) (by omega) hK3 (fun a5 hK5 => ?_)
  refine cx_partEnd (r := 1) hb ht pE2 hL (by omega) (fun qE hqE => ?_)
  have qE1 := hqE.1
  have qE2 := hqE.2.1
  refine cx_decode qE1 (by omega) hb ht (fun h a n => br_t rfl (hN (fun c' he' p' pE' qE' po' D1' D2 w => ?_) _ _ _ _ _ _ _ _)) (fun D2 hD2 a6 hK6 => br_f (by decide) ?_)
  · have e := cf_Schu w.1 hc
    subst e
    have e := cf_IEu w.2.1 hE
    subst e
    have e := (cf_POu w.2.2.2.1 hPO).1
    subst e
    have e := cf_IEu w.2.2.2.2.1 hpE
    subst e
    have e := cf_IEu w.2.2.2.2.2.2.1 hqE
    subst e
    have w8 := w.2.2.2.2.2.2.2
    rw [h] at w8
    cases w8
  have ps : cf_PS t L c he p pE qE po D1 D2 := ⟨hc, hE, hH, hPO, hpE, hD1, hqE, hD2⟩
  have bo := cf_outB ht hL ps
  have f1 := (cf_dcF ht (qE - pE) pE D2 (Nat.le_refl _) hD2).1
  refine cx_appendQuery hK6 (by omega) (by omega) hK5 (fun a7 hK7 => ?_)
  have g := hY c he p pE qE po D1 D2 ps a7 a6
  rw [cf_outL] at g
  exact g _ _ hK7
end
end
section
/-! the reference: characters, emit, decode -/
section
variable {f_maxUrls f_defaultDelay f_clock f_bufferLength f_urlCount f_hostCount f_ruleCount f_cLen f_cHost f_cHostLen f_cPq f_decLen f_segN : Int32} {a_buffer a_urlPool a_urlStart a_urlLength a_urlState a_urlHost a_urlTime a_names a_nameLength a_hostDelay a_hostNext a_hostSent a_rulePool a_ruleStart a_ruleLength a_ruleHost a_ycanon a_dec a_segS a_segL : Nat → Int32}
variable {t : Nat → Nat} {L : Nat}
theorem cy_low {post : Int32 → Prop} {x : Int32} (c : Nat) (hx : x = nI c) (hc : c ≤ 126) (h : post (nI (cf_lo c))) : wpY_low post (f_maxUrls, f_defaultDelay, f_clock, f_bufferLength, f_urlCount, f_hostCount, f_ruleCount, f_cLen, f_cHost, f_cHostLen, f_cPq, f_decLen, f_segN, a_buffer, a_urlPool, a_urlStart, a_urlLength, a_urlState, a_urlHost, a_urlTime, a_names, a_nameLength, a_hostDelay, a_hostNext, a_hostSent, a_rulePool, a_ruleStart, a_ruleLength, a_ruleHost, a_ycanon, a_dec, a_segS, a_segL) x := by
  subst hx
  refine pk_lt c 65 (fun z => ?_) (fun z => pk_lt 90 c (fun z2 => ?_) (fun z2 => ?_))
  · have e : cf_lo c = c := by unfold cf_lo; rw [if_neg (by omega)]
    rw [e] at h
    exact h
  · have e : cf_lo c = c := by unfold cf_lo; rw [if_neg (by omega)]
    rw [e] at h
    exact h
  · have e : cf_lo c = c + 32 := by unfold cf_lo; rw [if_pos (by omega)]
    rw [e, ← nI_add] at h
    exact h
theorem cy_up {post : Int32 → Prop} {x : Int32} (c : Nat) (hx : x = nI c) (hc : c ≤ 126) (h : post (nI (cf_up c))) : wpY_up post (f_maxUrls, f_defaultDelay, f_clock, f_bufferLength, f_urlCount, f_hostCount, f_ruleCount, f_cLen, f_cHost, f_cHostLen, f_cPq, f_decLen, f_segN, a_buffer, a_urlPool, a_urlStart, a_urlLength, a_urlState, a_urlHost, a_urlTime, a_names, a_nameLength, a_hostDelay, a_hostNext, a_hostSent, a_rulePool, a_ruleStart, a_ruleLength, a_ruleHost, a_ycanon, a_dec, a_segS, a_segL) x := by
  subst hx
  refine pk_lt c 97 (fun z => ?_) (fun z => pk_lt 102 c (fun z2 => ?_) (fun z2 => ?_))
  · have e : cf_up c = c := by unfold cf_up; rw [if_neg (by omega)]
    rw [e] at h
    exact h
  · have e : cf_up c = c := by unfold cf_up; rw [if_neg (by omega)]
    rw [e] at h
    exact h
  · have e : cf_up c = c - 32 := by unfold cf_up; rw [if_pos (by omega)]
    rw [e, ← pk_sub (by omega)] at h
    exact h
theorem cy_isDigit {post : Int32 → Prop} {x : Int32} (c : Nat) (hx : x = nI c) (hc : c ≤ 255) (h1 : 48 ≤ c ∧ c ≤ 57 → post 1) (h0 : ¬ (48 ≤ c ∧ c ≤ 57) → post 0) : wpY_isDigit post (f_maxUrls, f_defaultDelay, f_clock, f_bufferLength, f_urlCount, f_hostCount, f_ruleCount, f_cLen, f_cHost, f_cHostLen, f_cPq, f_decLen, f_segN, a_buffer, a_urlPool, a_urlStart, a_urlLength, a_urlState, a_urlHost, a_urlTime, a_names, a_nameLength, a_hostDelay, a_hostNext, a_hostSent, a_rulePool, a_ruleStart, a_ruleLength, a_ruleHost, a_ycanon, a_dec, a_segS, a_segL) x := by
  subst hx
  exact pk_lt c 48 (fun z => h0 (by omega)) (fun z => pk_lt 57 c (fun z2 => h0 (by omega)) (fun z2 => h1 (by omega)))
theorem cy_hex37 {post : Int32 → Prop} {c : Nat} (hc : c ≤ 126) (hn : ¬ (48 ≤ c ∧ c ≤ 57) ∧ ¬ (97 ≤ c ∧ c ≤ 102)) (h1 : cf_hv c < 16 → post (nI (cf_hv c))) (h0 : ¬ cf_hv c < 16 → post (-1)) : wY_hexVal_37 post (nI c) f_maxUrls f_defaultDelay f_clock f_bufferLength f_urlCount f_hostCount f_ruleCount f_cLen f_cHost f_cHostLen f_cPq f_decLen f_segN a_buffer a_urlPool a_urlStart a_urlLength a_urlState a_urlHost a_urlTime a_names a_nameLength a_hostDelay a_hostNext a_hostSent a_rulePool a_ruleStart a_ruleLength a_ruleHost a_ycanon a_dec a_segS a_segL := by
  refine pk_lt c 65 (fun z => h0 ?_) (fun z => pk_lt 70 c (fun z2 => h0 ?_) (fun z2 => ?_))
  · unfold cf_hv; rw [if_neg hn.1, if_neg (by omega), if_neg hn.2]; omega
  · unfold cf_hv; rw [if_neg hn.1, if_neg (by omega), if_neg hn.2]; omega
  · have e : cf_hv c = c - 65 + 10 := by unfold cf_hv; rw [if_neg hn.1, if_pos (by omega)]; omega
    have h := h1 (by omega)
    rw [e, ← nI_add, ← pk_sub (by omega)] at h
    exact h
theorem cy_hex17 {post : Int32 → Prop} {c : Nat} (hc : c ≤ 126) (hn : ¬ (48 ≤ c ∧ c ≤ 57)) (h1 : cf_hv c < 16 → post (nI (cf_hv c))) (h0 : ¬ cf_hv c < 16 → post (-1)) : wY_hexVal_17 post (nI c) f_maxUrls f_defaultDelay f_clock f_bufferLength f_urlCount f_hostCount f_ruleCount f_cLen f_cHost f_cHostLen f_cPq f_decLen f_segN a_buffer a_urlPool a_urlStart a_urlLength a_urlState a_urlHost a_urlTime a_names a_nameLength a_hostDelay a_hostNext a_hostSent a_rulePool a_ruleStart a_ruleLength a_ruleHost a_ycanon a_dec a_segS a_segL := by
  refine pk_lt c 97 (fun z => cy_hex37 hc ⟨hn, by omega⟩ h1 h0) (fun z => pk_lt 102 c (fun z2 => cy_hex37 hc ⟨hn, by omega⟩ h1 h0) (fun z2 => ?_))
  have e : cf_hv c = c - 97 + 10 := by unfold cf_hv; rw [if_neg hn, if_neg (by omega), if_pos (by omega)]; omega
  have h := h1 (by omega)
  rw [e, ← nI_add, ← pk_sub (by omega)] at h
  exact h
theorem cy_hex {post : Int32 → Prop} {x : Int32} (c : Nat) (hx : x = nI c) (hc : c ≤ 126) (h1 : cf_hv c < 16 → post (nI (cf_hv c))) (h0 : ¬ cf_hv c < 16 → post (-1)) : wpY_hexVal post (f_maxUrls, f_defaultDelay, f_clock, f_bufferLength, f_urlCount, f_hostCount, f_ruleCount, f_cLen, f_cHost, f_cHostLen, f_cPq, f_decLen, f_segN, a_buffer, a_urlPool, a_urlStart, a_urlLength, a_urlState, a_urlHost, a_urlTime, a_names, a_nameLength, a_hostDelay, a_hostNext, a_hostSent, a_rulePool, a_ruleStart, a_ruleLength, a_ruleHost, a_ycanon, a_dec, a_segS, a_segL) x := by
  subst hx
  refine pk_lt c 48 (fun z => cy_hex17 hc (by omega) h1 h0) (fun z => pk_lt 57 c (fun z2 => cy_hex17 hc (by omega) h1 h0) (fun z2 => ?_))
  have e : cf_hv c = c - 48 := by unfold cf_hv; rw [if_pos (by omega)]
  have h := h1 (by omega)
  rw [e, ← pk_sub (by omega)] at h
  exact h
theorem cy_un24 {post : Int32 → Prop} {c : Nat} (hc : c ≤ 255) (hn : ¬ ((97 ≤ c ∧ c ≤ 122) ∨ (65 ≤ c ∧ c ≤ 90))) (h1 : cf_UN c → post 1) (h0 : ¬ cf_UN c → post 0) : wY_unreserved_24 post (nI c) f_maxUrls f_defaultDelay f_clock f_bufferLength f_urlCount f_hostCount f_ruleCount f_cLen f_cHost f_cHostLen f_cPq f_decLen f_segN a_buffer a_urlPool a_urlStart a_urlLength a_urlState a_urlHost a_urlTime a_names a_nameLength a_hostDelay a_hostNext a_hostSent a_rulePool a_ruleStart a_ruleLength a_ruleHost a_ycanon a_dec a_segS a_segL :=
  cy_isDigit c rfl hc (fun z => br_f (by decide) (h1 (by unfold cf_UN cf_HC; omega))) (fun z => br_t rfl (pk_eq c 45 (fun y => h1 (by unfold cf_UN cf_HC; omega)) (fun y1 => pk_eq c 46 (fun y => h1 (by unfold cf_UN cf_HC; omega)) (fun y2 => pk_eq c 95 (fun y => h1 (by unfold cf_UN cf_HC; omega)) (fun y3 => pk_eq c 126 (fun y => h1 (by unfold cf_UN cf_HC; omega)) (fun y4 => h0 (by unfold cf_UN cf_HC; omega)))))))
theorem cy_un12 {post : Int32 → Prop} {c : Nat} (hc : c ≤ 255) (hn : ¬ (65 ≤ c ∧ c ≤ 90)) (h1 : cf_UN c → post 1) (h0 : ¬ cf_UN c → post 0) : wY_unreserved_12 post (nI c) f_maxUrls f_defaultDelay f_clock f_bufferLength f_urlCount f_hostCount f_ruleCount f_cLen f_cHost f_cHostLen f_cPq f_decLen f_segN a_buffer a_urlPool a_urlStart a_urlLength a_urlState a_urlHost a_urlTime a_names a_nameLength a_hostDelay a_hostNext a_hostSent a_rulePool a_ruleStart a_ruleLength a_ruleHost a_ycanon a_dec a_segS a_segL :=
  pk_lt c 97 (fun z => cy_un24 hc (by omega) h1 h0) (fun z => pk_le c 122 (fun z2 => h1 (by unfold cf_UN cf_HC; omega)) (fun z2 => cy_un24 hc (by omega) h1 h0))
theorem cy_unres {post : Int32 → Prop} {c : Nat} (hc : c ≤ 255) (h1 : cf_UN c → post 1) (h0 : ¬ cf_UN c → post 0) : wpY_unreserved post (f_maxUrls, f_defaultDelay, f_clock, f_bufferLength, f_urlCount, f_hostCount, f_ruleCount, f_cLen, f_cHost, f_cHostLen, f_cPq, f_decLen, f_segN, a_buffer, a_urlPool, a_urlStart, a_urlLength, a_urlState, a_urlHost, a_urlTime, a_names, a_nameLength, a_hostDelay, a_hostNext, a_hostSent, a_rulePool, a_ruleStart, a_ruleLength, a_ruleHost, a_ycanon, a_dec, a_segS, a_segL) (nI c) :=
  pk_lt c 65 (fun z => cy_un12 hc (by omega) h1 h0) (fun z => pk_le c 90 (fun z2 => h1 (by unfold cf_UN cf_HC; omega)) (fun z2 => cy_un12 hc (by omega) h1 h0))
theorem cy_emit {post : SY → Prop} {x : Int32} {n : Nat} {l : List Nat} (c : Nat) (hx : x = nI c) (hn : n < 64) (hK : cf_K a_ycanon n l) (h : ∀ a, cf_K a (n + 1) (l ++ [c]) → post (f_maxUrls, f_defaultDelay, f_clock, f_bufferLength, f_urlCount, f_hostCount, f_ruleCount, nI (n + 1), f_cHost, f_cHostLen, f_cPq, f_decLen, f_segN, a_buffer, a_urlPool, a_urlStart, a_urlLength, a_urlState, a_urlHost, a_urlTime, a_names, a_nameLength, a_hostDelay, a_hostNext, a_hostSent, a_rulePool, a_ruleStart, a_ruleLength, a_ruleHost, a, a_dec, a_segS, a_segL)) : wpY_emit post (f_maxUrls, f_defaultDelay, f_clock, f_bufferLength, f_urlCount, f_hostCount, f_ruleCount, nI n, f_cHost, f_cHostLen, f_cPq, f_decLen, f_segN, a_buffer, a_urlPool, a_urlStart, a_urlLength, a_urlState, a_urlHost, a_urlTime, a_names, a_nameLength, a_hostDelay, a_hostNext, a_hostSent, a_rulePool, a_ruleStart, a_ruleLength, a_ruleHost, a_ycanon, a_dec, a_segS, a_segL) x := by
  subst hx
  refine pk_le 64 n (fun z => by omega) (fun z => ⟨pk_in n 64 hn, ?_⟩)
  refine nm_r (e' := upd a_ycanon n (nI c)) (by rw [pk_cl n]) (nm_r (nI_1 n) (h _ (cf_Ka c hK)))
theorem cy_add {post : SY → Prop} {x : Int32} {n : Nat} {l : List Nat} (c : Nat) (hx : x = nI c) (hn : n < 64) (hK : cf_K a_dec n l) (h : ∀ a, cf_K a (n + 1) (l ++ [c]) → post (f_maxUrls, f_defaultDelay, f_clock, f_bufferLength, f_urlCount, f_hostCount, f_ruleCount, f_cLen, f_cHost, f_cHostLen, f_cPq, nI (n + 1), f_segN, a_buffer, a_urlPool, a_urlStart, a_urlLength, a_urlState, a_urlHost, a_urlTime, a_names, a_nameLength, a_hostDelay, a_hostNext, a_hostSent, a_rulePool, a_ruleStart, a_ruleLength, a_ruleHost, a_ycanon, a, a_segS, a_segL)) : wpY_addDec post (f_maxUrls, f_defaultDelay, f_clock, f_bufferLength, f_urlCount, f_hostCount, f_ruleCount, f_cLen, f_cHost, f_cHostLen, f_cPq, nI n, f_segN, a_buffer, a_urlPool, a_urlStart, a_urlLength, a_urlState, a_urlHost, a_urlTime, a_names, a_nameLength, a_hostDelay, a_hostNext, a_hostSent, a_rulePool, a_ruleStart, a_ruleLength, a_ruleHost, a_ycanon, a_dec, a_segS, a_segL) x := by
  subst hx
  refine pk_le 64 n (fun z => by omega) (fun z => ⟨pk_in n 64 hn, ?_⟩)
  refine nm_r (e' := upd a_dec n (nI c)) (by rw [pk_cl n]) (nm_r (nI_1 n) (h _ (cf_Ka c hK)))
theorem cy_skip {post : Int32 → SY → Prop} {e i f : Nat} (he : e ≤ 48) (hi : i + 2 < e) (h : wY_decode_5 post (nI e) f 0 (nI (i + 3)) f_maxUrls f_defaultDelay f_clock f_bufferLength f_urlCount f_hostCount f_ruleCount f_cLen f_cHost f_cHostLen f_cPq f_decLen f_segN a_buffer a_urlPool a_urlStart a_urlLength a_urlState a_urlHost a_urlTime a_names a_nameLength a_hostDelay a_hostNext a_hostSent a_rulePool a_ruleStart a_ruleLength a_ruleHost a_ycanon a_dec a_segS a_segL) : wY_decode_5 post (nI e) (f + 1 + 1) 2 (nI (i + 1)) f_maxUrls f_defaultDelay f_clock f_bufferLength f_urlCount f_hostCount f_ruleCount f_cLen f_cHost f_cHostLen f_cPq f_decLen f_segN a_buffer a_urlPool a_urlStart a_urlLength a_urlState a_urlHost a_urlTime a_names a_nameLength a_hostDelay a_hostNext a_hostSent a_rulePool a_ruleStart a_ruleLength a_ruleHost a_ycanon a_dec a_segS a_segL :=
  pk_le e (i + 1) (fun z => by omega) (fun _ => br_f (by decide) (nm_r (e' := 1) (by decide) (nm_r (nI_1 (i + 1)) (pk_le e (i + 2) (fun z => by omega) (fun _ => br_f (by decide) (nm_r (e' := 0) (by decide) (nm_r (nI_1 (i + 2)) h)))))))
theorem cy_decLoop {post : Int32 → SY → Prop} {e : Nat} (he : e ≤ 48) (hb : ∀ j, a_buffer j = nI (t j)) (ht : ∀ j, t j ≤ 126) : ∀ n i f m D a, i ≤ e → e - i ≤ n → e - i < f → m ≤ i → cf_K a m D → (cf_dc t e n i = none → ∀ a n, post 0 (f_maxUrls, f_defaultDelay, f_clock, f_bufferLength, f_urlCount, f_hostCount, f_ruleCount, f_cLen, f_cHost, f_cHostLen, f_cPq, n, f_segN, a_buffer, a_urlPool, a_urlStart, a_urlLength, a_urlState, a_urlHost, a_urlTime, a_names, a_nameLength, a_hostDelay, a_hostNext, a_hostSent, a_rulePool, a_ruleStart, a_ruleLength, a_ruleHost, a_ycanon, a, a_segS, a_segL)) → (∀ D', cf_dc t e n i = some D' → ∀ a, cf_K a (m + D'.length) (D ++ D') → post 1 (f_maxUrls, f_defaultDelay, f_clock, f_bufferLength, f_urlCount, f_hostCount, f_ruleCount, f_cLen, f_cHost, f_cHostLen, f_cPq, nI (m + D'.length), f_segN, a_buffer, a_urlPool, a_urlStart, a_urlLength, a_urlState, a_urlHost, a_urlTime, a_names, a_nameLength, a_hostDelay, a_hostNext, a_hostSent, a_rulePool, a_ruleStart, a_ruleLength, a_ruleHost, a_ycanon, a, a_segS, a_segL)) → wY_decode_5 post (nI e) f 0 (nI i) f_maxUrls f_defaultDelay f_clock f_bufferLength f_urlCount f_hostCount f_ruleCount f_cLen f_cHost f_cHostLen f_cPq (nI m) f_segN a_buffer a_urlPool a_urlStart a_urlLength a_urlState a_urlHost a_urlTime a_names a_nameLength a_hostDelay a_hostNext a_hostSent a_rulePool a_ruleStart a_ruleLength a_ruleHost a_ycanon a a_segS a_segL := by
  intro n
  induction n with
  | zero =>
    intro i f m D a hi hn hf hm hK hN hY
    cases f with
    | zero => omega
    | succ f =>
      have g := hY [] (cf_dcE (by omega)) a
      rw [List.append_nil] at g
      exact pk_le e i (fun _ => g hK) (fun z => by omega)
  | succ n ih =>
    intro i f m D a hi hn hf hm hK hN hY
    rcases Nat.lt_or_ge i e with z | z
    · by_cases z1 : t i = 37
      · rcases Nat.lt_or_ge (i + 2) e with z2 | z2
        · obtain ⟨g, rfl⟩ : ∃ g, f = g + 1 + 1 + 1 := ⟨f - 3, by omega⟩
          by_cases x1 : cf_hv (t (i + 1)) < 16
          · by_cases x2 : cf_hv (t (i + 2)) < 16
            · have tl := cf_trL (t (i + 1)) (t (i + 2))
              have e8 : (nI (cf_hv (t (i + 1))) * 16) + nI (cf_hv (t (i + 2))) = nI (cf_hv (t (i + 1)) * 16 + cf_hv (t (i + 2))) := (congrArg (fun z => z + nI (cf_hv (t (i + 2)))) (pk_mul (cf_hv (t (i + 1))) 16)).trans (nI_add _ _)
              have nx : ∀ a', cf_K a' (m + (cf_tr (t (i + 1)) (t (i + 2))).length) (D ++ cf_tr (t (i + 1)) (t (i + 2))) → wY_decode_5 post (nI e) (g + 1 + 1) 2 (nI (i + 1)) f_maxUrls f_defaultDelay f_clock f_bufferLength f_urlCount f_hostCount f_ruleCount f_cLen f_cHost f_cHostLen f_cPq (nI (m + (cf_tr (t (i + 1)) (t (i + 2))).length)) f_segN a_buffer a_urlPool a_urlStart a_urlLength a_urlState a_urlHost a_urlTime a_names a_nameLength a_hostDelay a_hostNext a_hostSent a_rulePool a_ruleStart a_ruleLength a_ruleHost a_ycanon a' a_segS a_segL := by
                intro a' hK'
                refine cy_skip he z2 (ih (i + 3) g (m + (cf_tr (t (i + 1)) (t (i + 2))).length) _ a' (by omega) (by omega) (by omega) (by omega) hK' (fun h => hN (by rw [cf_dcT z2 z1 ⟨x1, x2⟩, h]; rfl)) (fun D' h a2 hK2 => ?_))
                have g := hY (cf_tr (t (i + 1)) (t (i + 2)) ++ D') (by rw [cf_dcT z2 z1 ⟨x1, x2⟩, h]; rfl) a2
                have e2 : m + (cf_tr (t (i + 1)) (t (i + 2)) ++ D').length = m + (cf_tr (t (i + 1)) (t (i + 2))).length + D'.length := by rw [List.length_append]; omega
                rw [e2, ← List.append_assoc] at g
                exact g hK2
              refine pk_le e i (fun z => by omega) (fun _ => br_t (by decide) ⟨pk_in i 48 (by omega), nm_r (cf_rd hb i) (cf_eqc (t i) 37 rfl (by omega) (fun _ => pk_lt (i + 2) e (fun _ => ⟨pk_in (i + 1) 48 (by omega) (nI_1 i), cy_hex (t (i + 1)) (cf_rd hb (i + 1) (nI_1 i)) (ht _) (fun _ => ⟨pk_in (i + 2) 48 (by omega) (nI_add i 2), cy_hex (t (i + 2)) (cf_rd hb (i + 2) (nI_add i 2)) (ht _) (fun _ => br_f (nI_pos (by omega)) (br_t (nI_pos' (by omega)) (nm_r e8 (cy_unres (by omega) (fun u => br_f (by decide) ?_) (fun u => br_t rfl ?_))))) (fun w => absurd x2 w)⟩) (fun w => absurd x1 w)⟩) (fun z3 => by omega) (nI_add i 2)) (fun w => absurd z1 w))⟩)
              · rw [cf_trP u] at nx
                exact cy_add _ rfl (by omega) hK (fun a' hK' => nm_r (nI_1 i) (nx a' hK'))
              · rw [cf_trN u] at nx
                refine cy_add 37 rfl (by omega) hK (fun a1 k1 => ⟨pk_in (i + 1) 48 (by omega) (nI_1 i), cy_up (t (i + 1)) (cf_rd hb (i + 1) (nI_1 i)) (ht _) (cy_add (cf_up (t (i + 1))) rfl (by omega) k1 (fun a2 k2 => ⟨pk_in (i + 2) 48 (by omega) (nI_add i 2), cy_up (t (i + 2)) (cf_rd hb (i + 2) (nI_add i 2)) (ht _) (cy_add (cf_up (t (i + 2))) rfl (by omega) k2 (fun a3 k3 => nm_r (nI_1 i) (nx a3 ?_)))⟩))⟩)
                rw [List.append_assoc, List.append_assoc] at k3
                exact k3
            · exact pk_le e i (fun z => by omega) (fun _ => br_t (by decide) ⟨pk_in i 48 (by omega), nm_r (cf_rd hb i) (cf_eqc (t i) 37 rfl (by omega) (fun _ => pk_lt (i + 2) e (fun _ => ⟨pk_in (i + 1) 48 (by omega) (nI_1 i), cy_hex (t (i + 1)) (cf_rd hb (i + 1) (nI_1 i)) (ht _) (fun _ => ⟨pk_in (i + 2) 48 (by omega) (nI_add i 2), cy_hex (t (i + 2)) (cf_rd hb (i + 2) (nI_add i 2)) (ht _) (fun w => absurd w x2) (fun _ => br_f (nI_pos (by omega)) (br_f (by decide) (hN (cf_dcX z2 z1 (fun w => x2 w.2)) _ _)))⟩) (fun w => absurd x1 w)⟩) (fun z3 => by omega) (nI_add i 2)) (fun w => absurd z1 w))⟩)
          · exact pk_le e i (fun z => by omega) (fun _ => br_t (by decide) ⟨pk_in i 48 (by omega), nm_r (cf_rd hb i) (cf_eqc (t i) 37 rfl (by omega) (fun _ => pk_lt (i + 2) e (fun _ => ⟨pk_in (i + 1) 48 (by omega) (nI_1 i), cy_hex (t (i + 1)) (cf_rd hb (i + 1) (nI_1 i)) (ht _) (fun w => absurd w x1) (fun _ => ⟨pk_in (i + 2) 48 (by omega) (nI_add i 2), cy_hex (t (i + 2)) (cf_rd hb (i + 2) (nI_add i 2)) (ht _) (fun _ => br_t cf_m0 (hN (cf_dcX z2 z1 (fun w => x1 w.1)) _ _)) (fun _ => br_t cf_m0 (hN (cf_dcX z2 z1 (fun w => x1 w.1)) _ _))⟩)⟩) (fun z3 => by omega) (nI_add i 2)) (fun w => absurd z1 w))⟩)
        · obtain ⟨g, rfl⟩ : ∃ g, f = g + 1 := ⟨f - 1, by omega⟩
          exact pk_le e i (fun z => by omega) (fun _ => br_t (by decide) ⟨pk_in i 48 (by omega), nm_r (cf_rd hb i) (cf_eqc (t i) 37 rfl (by omega) (fun _ => pk_lt (i + 2) e (fun z3 => by omega) (fun _ => hN (cf_dcS z z1 z2) _ _) (nI_add i 2)) (fun w => absurd z1 w))⟩)
      · obtain ⟨g, rfl⟩ : ∃ g, f = g + 1 := ⟨f - 1, by omega⟩
        refine pk_le e i (fun z => by omega) (fun _ => br_t (by decide) ⟨pk_in i 48 (by omega), nm_r (cf_rd hb i) (cf_eqc (t i) 37 rfl (by have := ht i; omega) (fun w => absurd w z1) (fun _ => cy_add (t i) rfl (by omega) hK (fun a' hK' => nm_r (nI_1 i) ?_)))⟩)
        refine ih (i + 1) g (m + 1) _ a' (by omega) (by omega) (by omega) (by omega) hK' (fun h => hN (by rw [cf_dcC z z1, h]; rfl)) (fun D' h a2 hK2 => ?_)
        have g := hY (t i :: D') (by rw [cf_dcC z z1, h]; rfl) a2
        have e2 : m + (t i :: D').length = m + 1 + D'.length := by rw [List.length_cons]; omega
        rw [e2] at g
        rw [List.append_assoc] at hK2
        exact g hK2
    · obtain ⟨g, rfl⟩ : ∃ g, f = g + 1 := ⟨f - 1, by omega⟩
      have g := hY [] (cf_dcE z) a
      rw [List.append_nil] at g
      exact pk_le e i (fun _ => g hK) (fun z => by omega)
theorem cy_decode {post : Int32 → SY → Prop} {i e m : Nat} {D : List Nat} (hi : i ≤ e) (he : e ≤ 48) (hm : m ≤ i) (hb : ∀ j, a_buffer j = nI (t j)) (ht : ∀ j, t j ≤ 126) (hK : cf_K a_dec m D) (hN : cf_dc t e (e - i) i = none → ∀ a n, post 0 (f_maxUrls, f_defaultDelay, f_clock, f_bufferLength, f_urlCount, f_hostCount, f_ruleCount, f_cLen, f_cHost, f_cHostLen, f_cPq, n, f_segN, a_buffer, a_urlPool, a_urlStart, a_urlLength, a_urlState, a_urlHost, a_urlTime, a_names, a_nameLength, a_hostDelay, a_hostNext, a_hostSent, a_rulePool, a_ruleStart, a_ruleLength, a_ruleHost, a_ycanon, a, a_segS, a_segL)) (hY : ∀ D', cf_dc t e (e - i) i = some D' → ∀ a, cf_K a (m + D'.length) (D ++ D') → post 1 (f_maxUrls, f_defaultDelay, f_clock, f_bufferLength, f_urlCount, f_hostCount, f_ruleCount, f_cLen, f_cHost, f_cHostLen, f_cPq, nI (m + D'.length), f_segN, a_buffer, a_urlPool, a_urlStart, a_urlLength, a_urlState, a_urlHost, a_urlTime, a_names, a_nameLength, a_hostDelay, a_hostNext, a_hostSent, a_rulePool, a_ruleStart, a_ruleLength, a_ruleHost, a_ycanon, a, a_segS, a_segL)) : wpY_decode post (f_maxUrls, f_defaultDelay, f_clock, f_bufferLength, f_urlCount, f_hostCount, f_ruleCount, f_cLen, f_cHost, f_cHostLen, f_cPq, nI m, f_segN, a_buffer, a_urlPool, a_urlStart, a_urlLength, a_urlState, a_urlHost, a_urlTime, a_names, a_nameLength, a_hostDelay, a_hostNext, a_hostSent, a_rulePool, a_ruleStart, a_ruleLength, a_ruleHost, a_ycanon, a_dec, a_segS, a_segL) (nI i) (nI e) :=
  ⟨e - i + 1, cy_decLoop he hb ht (e - i) i _ m D a_dec hi (Nat.le_refl _) (by omega) hm hK hN hY⟩
end
end
section
/-! the reference: the port's digits -/
section
variable {f_maxUrls f_defaultDelay f_clock f_bufferLength f_urlCount f_hostCount f_ruleCount f_cLen f_cHost f_cHostLen f_cPq f_decLen f_segN : Int32} {a_buffer a_urlPool a_urlStart a_urlLength a_urlState a_urlHost a_urlTime a_names a_nameLength a_hostDelay a_hostNext a_hostSent a_rulePool a_ruleStart a_ruleLength a_ruleHost a_ycanon a_dec a_segS a_segL : Nat → Int32}
variable {t : Nat → Nat} {L : Nat}
theorem cy_num0 {post : SY → Prop} {x : Int32} (h : post (f_maxUrls, f_defaultDelay, f_clock, f_bufferLength, f_urlCount, f_hostCount, f_ruleCount, f_cLen, f_cHost, f_cHostLen, f_cPq, f_decLen, f_segN, a_buffer, a_urlPool, a_urlStart, a_urlLength, a_urlState, a_urlHost, a_urlTime, a_names, a_nameLength, a_hostDelay, a_hostNext, a_hostSent, a_rulePool, a_ruleStart, a_ruleLength, a_ruleHost, a_ycanon, a_dec, a_segS, a_segL)) : ∀ r k f, k + r = 6 → r < f → wY_emitNumber_30 post x f 0 (nI k) f_maxUrls f_defaultDelay f_clock f_bufferLength f_urlCount f_hostCount f_ruleCount f_cLen f_cHost f_cHostLen f_cPq f_decLen f_segN a_buffer a_urlPool a_urlStart a_urlLength a_urlState a_urlHost a_urlTime a_names a_nameLength a_hostDelay a_hostNext a_hostSent a_rulePool a_ruleStart a_ruleLength a_ruleHost a_ycanon a_dec a_segS a_segL := by
  intro r
  induction r with
  | zero =>
    intro k f hk hf
    cases f with
    | zero => omega
    | succ f => exact pk_le 6 k (fun _ => h) (fun z => by omega)
  | succ r ih =>
    intro k f hk hf
    cases f with
    | zero => omega
    | succ f => exact pk_le 6 k (fun z => by omega) (fun _ => br_t (by decide) (nm_r (nI_1 k) (ih (k + 1) f (by omega) (by omega))))
theorem cy_num30 {post : SY → Prop} {v : Nat} (hv : v ≤ 65535) : ∀ m n l a k f, m ≤ 4 → m + k ≤ 5 → cf_K a n l → n + m + 1 ≤ 64 → 6 - k < f → (∀ a', cf_K a' (n + (cf_dg m v).length) (l ++ cf_dg m v) → post (f_maxUrls, f_defaultDelay, f_clock, f_bufferLength, f_urlCount, f_hostCount, f_ruleCount, nI (n + (cf_dg m v).length), f_cHost, f_cHostLen, f_cPq, f_decLen, f_segN, a_buffer, a_urlPool, a_urlStart, a_urlLength, a_urlState, a_urlHost, a_urlTime, a_names, a_nameLength, a_hostDelay, a_hostNext, a_hostSent, a_rulePool, a_ruleStart, a_ruleLength, a_ruleHost, a', a_dec, a_segS, a_segL)) → wY_emitNumber_30 post (nI v) f (nI (10 ^ m)) (nI k) f_maxUrls f_defaultDelay f_clock f_bufferLength f_urlCount f_hostCount f_ruleCount (nI n) f_cHost f_cHostLen f_cPq f_decLen f_segN a_buffer a_urlPool a_urlStart a_urlLength a_urlState a_urlHost a_urlTime a_names a_nameLength a_hostDelay a_hostNext a_hostSent a_rulePool a_ruleStart a_ruleLength a_ruleHost a a_dec a_segS a_segL := by
  intro m
  induction m with
  | zero =>
    intro n l a k f hm hk hK hn hf h
    obtain ⟨g, rfl⟩ : ∃ g, f = g + 1 := ⟨f - 1, by omega⟩
    have e : (48 : Int32) + ((nI v / nI 1) - (nI v / nI 1) / 10 * 10) = nI (48 + v % 10) := by
      rw [pk_div (by omega) (by omega) (by omega), Nat.div_one]
      exact (congrArg (fun z => nI 48 + z) (pk_rem (a := v) (d := 10) (by omega) (by decide) (by decide))).trans (nI_add 48 _)
    refine pk_le 6 k (fun z => by omega) (fun _ => br_f (by decide) ⟨by decide, by decide, cy_emit (48 + v % 10) e (by omega) hK (fun a' hK' => ⟨by decide, nm_r (e' := 0) (by decide) (nm_r (nI_1 k) (cy_num0 (h a' hK') (6 - (k + 1)) (k + 1) g (by omega) (by omega)))⟩)⟩)
  | succ m ih =>
    intro n l a k f hm hk hK hn hf h
    obtain ⟨g, rfl⟩ : ∃ g, f = g + 1 := ⟨f - 1, by omega⟩
    have p0 : 0 < 10 ^ m := Nat.pow_pos (by decide)
    have p4 : 10 ^ m ≤ 10 ^ 3 := Nat.pow_le_pow_right (by decide) (by omega)
    have ps : 10 ^ (m + 1) = 10 ^ m * 10 := Nat.pow_succ 10 m
    have pd : 10 ^ (m + 1) / 10 = 10 ^ m := by rw [ps]; exact Nat.mul_div_cancel _ (by decide)
    have p5 : 10 ^ (m + 1) ≤ 10000 := by omega
    have hq : v / 10 ^ (m + 1) ≤ v := Nat.div_le_self _ _
    have e : (48 : Int32) + ((nI v / nI (10 ^ (m + 1))) - (nI v / nI (10 ^ (m + 1))) / 10 * 10) = nI (48 + v / 10 ^ (m + 1) % 10) := by
      rw [pk_div (by omega) (by omega) (by omega)]
      exact (congrArg (fun z => nI 48 + z) (pk_rem (a := v / 10 ^ (m + 1)) (d := 10) (by omega) (by decide) (by decide))).trans (nI_add 48 _)
    refine pk_le 6 k (fun z => by omega) (fun _ => br_f (nI_nle (by omega) (by omega)) ⟨nI_ne0 (by omega) (by omega), by decide, cy_emit (48 + v / 10 ^ (m + 1) % 10) e (by omega) hK (fun a' hK' => ⟨by decide, nm_r (e' := nI (10 ^ m)) ((pk_div (a := 10 ^ (m + 1)) (d := 10) (by omega) (by decide) (by decide)).trans (by rw [pd])) (nm_r (nI_1 k) (ih (n + 1) _ a' (k + 1) g (by omega) (by omega) hK' (by omega) (by omega) (fun a2 hK2 => ?_)))⟩)⟩)
    have e2 : n + (cf_dg (m + 1) v).length = n + 1 + (cf_dg m v).length := by rw [cf_dgL, cf_dgL]; omega
    have h' := h a2
    rw [e2] at h'
    rw [List.append_assoc] at hK2
    exact h' hK2
theorem cy_num4 {post : SY → Prop} {v : Nat} (hv : v ≤ 65535) (h : ∀ j, j ≤ 4 → (j = 0 ∨ 10 ^ j ≤ v) → v < 10 ^ (j + 1) → ∃ f, wY_emitNumber_30 post (nI v) f (nI (10 ^ j)) 0 f_maxUrls f_defaultDelay f_clock f_bufferLength f_urlCount f_hostCount f_ruleCount f_cLen f_cHost f_cHostLen f_cPq f_decLen f_segN a_buffer a_urlPool a_urlStart a_urlLength a_urlState a_urlHost a_urlTime a_names a_nameLength a_hostDelay a_hostNext a_hostSent a_rulePool a_ruleStart a_ruleLength a_ruleHost a_ycanon a_dec a_segS a_segL) : ∀ r k j f, k + r = 5 → r < f → j ≤ k → (j = 0 ∨ 10 ^ j ≤ v) → (j < k → v < 10 ^ (j + 1)) → wY_emitNumber_4 post (nI v) f_maxUrls f_defaultDelay f_clock f_bufferLength f_urlCount f_hostCount f_ruleCount f_cLen f_cHost f_cHostLen f_cPq f_decLen f_segN a_buffer a_urlPool a_urlStart a_urlLength a_urlState a_urlHost a_urlTime a_names a_nameLength a_hostDelay a_hostNext a_hostSent a_rulePool a_ruleStart a_ruleLength a_ruleHost a_ycanon a_dec a_segS a_segL f (nI (10 ^ j)) (nI k) := by
  intro r
  induction r with
  | zero =>
    intro k j f hk hf hj h0 h1
    cases f with
    | zero => omega
    | succ f =>
      have j4 : j ≤ 4 := by
        rcases Nat.lt_or_ge 4 j with z | z
        · have e : j = 5 := by omega
          subst e
          omega
        · exact z
      exact pk_le 5 k (fun _ => h j j4 h0 (h1 (by omega))) (fun z => by omega)
  | succ r ih =>
    intro k j f hk hf hj h0 h1
    cases f with
    | zero => omega
    | succ f =>
      have p0 : 0 < 10 ^ j := Nat.pow_pos (by decide)
      have p4 : 10 ^ j ≤ 10 ^ 4 := Nat.pow_le_pow_right (by decide) (by omega)
      have ps : 10 ^ (j + 1) = 10 ^ j * 10 := Nat.pow_succ 10 j
      have hq : v / 10 ^ j ≤ v := Nat.div_le_self _ _
      refine pk_le 5 k (fun z => by omega) (fun _ => ⟨nI_ne0 p0 (by omega), pk_lt (v / 10 ^ j) 10 (fun z => nm_r (nI_1 k) (ih (k + 1) j f (by omega) (by omega) (by omega) h0 (fun _ => ?_))) (fun z => nm_r (e' := nI (10 ^ (j + 1))) ((pk_mul (10 ^ j) 10).trans (by rw [ps])) (nm_r (nI_1 k) (ih (k + 1) (j + 1) f (by omega) (by omega) (by omega) (Or.inr ?_) (fun y => ?_)))) (pk_div (by omega) p0 (by omega))⟩)
      · have q := (Nat.div_lt_iff_lt_mul p0).mp z
        omega
      · have q := (Nat.le_div_iff_mul_le p0).mp z
        omega
      · have q := (Nat.le_div_iff_mul_le p0).mp z
        have q2 := h1 (by omega)
        omega
theorem cy_num {post : SY → Prop} {v n : Nat} {l : List Nat} (hv : v ≤ 65535) (hn : n ≤ 50) (hK : cf_K a_ycanon n l) (h : ∀ a, cf_K a (n + (cf_dy 4 v).length) (l ++ cf_dy 4 v) → post (f_maxUrls, f_defaultDelay, f_clock, f_bufferLength, f_urlCount, f_hostCount, f_ruleCount, nI (n + (cf_dy 4 v).length), f_cHost, f_cHostLen, f_cPq, f_decLen, f_segN, a_buffer, a_urlPool, a_urlStart, a_urlLength, a_urlState, a_urlHost, a_urlTime, a_names, a_nameLength, a_hostDelay, a_hostNext, a_hostSent, a_rulePool, a_ruleStart, a_ruleLength, a_ruleHost, a, a_dec, a_segS, a_segL)) : wpY_emitNumber post (f_maxUrls, f_defaultDelay, f_clock, f_bufferLength, f_urlCount, f_hostCount, f_ruleCount, nI n, f_cHost, f_cHostLen, f_cPq, f_decLen, f_segN, a_buffer, a_urlPool, a_urlStart, a_urlLength, a_urlState, a_urlHost, a_urlTime, a_names, a_nameLength, a_hostDelay, a_hostNext, a_hostSent, a_rulePool, a_ruleStart, a_ruleLength, a_ruleHost, a_ycanon, a_dec, a_segS, a_segL) (nI v) := by
  refine ⟨6, cy_num4 hv (fun j h4 h0 h1 => ?_) 5 0 0 6 (by omega) (by omega) (by omega) (Or.inl rfl) (fun z => by omega)⟩
  have e : cf_dy 4 v = cf_dg j v := (cf_dyd 4 j v h4 h1).trans (cf_dyg j v h0)
  rw [e] at h
  exact ⟨7, cy_num30 hv j n l a_ycanon 0 7 h4 (by omega) hK (by omega) (by omega) h⟩
end
end
section
/-! the reference: the path -/
theorem cf_pgl {g h : List (Nat × Nat)} {j : Nat} (hj : j < g.length) : (g ++ h).getD j (0, 0) = g.getD j (0, 0) := by
  rw [List.getD_eq_getElem?_getD, List.getD_eq_getElem?_getD, List.getElem?_append_left hj]
theorem cf_pgr {g : List (Nat × Nat)} {p : Nat × Nat} : (g ++ [p]).getD g.length (0, 0) = p := by
  rw [List.getD_eq_getElem?_getD, List.getElem?_append_right (Nat.le_refl _), Nat.sub_self]
  rfl
theorem cf_pgt {g : List (Nat × Nat)} {k j : Nat} (hj : j < k) : (g.take k).getD j (0, 0) = g.getD j (0, 0) := by
  rw [List.getD_eq_getElem?_getD, List.getD_eq_getElem?_getD, List.getElem?_take_of_lt hj]
theorem cf_pgm {g : List (Nat × Nat)} {j : Nat} (h : j < g.length) : g.getD j (0, 0) ∈ g := by
  rw [List.getD_eq_getElem?_getD, List.getElem?_eq_getElem h]
  exact List.getElem_mem h
theorem cf_tks {g : List (Nat × Nat)} {j : Nat} (h : j < g.length) : g.take (j + 1) = g.take j ++ [g.getD j (0, 0)] := by
  rw [List.take_succ, List.getD_eq_getElem?_getD, List.getElem?_eq_getElem h]
  rfl
def cf_Sg (ss sl : Nat → Int32) (g : List (Nat × Nat)) : Prop := ∀ j, j < g.length → ss j = nI (g.getD j (0, 0)).1 ∧ sl j = nI (g.getD j (0, 0)).2
theorem cf_SgP {ss sl : Nat → Int32} {g : List (Nat × Nat)} (p q : Nat) (h : cf_Sg ss sl g) : cf_Sg (upd ss g.length (nI p)) (upd sl g.length (nI q)) (g ++ [(p, q)]) := by
  intro j hj
  rw [List.length_append, List.length_singleton] at hj
  rcases Nat.lt_or_ge j g.length with z | z
  · rw [pk_un (by omega), pk_un (by omega), cf_pgl z]
    exact h j z
  · have e : j = g.length := by omega
    subst e
    rw [pk_us, pk_us, cf_pgr]
    exact ⟨rfl, rfl⟩
theorem cf_SgT {ss sl : Nat → Int32} {g : List (Nat × Nat)} (k : Nat) (h : cf_Sg ss sl g) : cf_Sg ss sl (g.take k) := by
  intro j hj
  rw [List.length_take] at hj
  rw [cf_pgt (by omega)]
  exact h j (by omega)
section
variable {f_maxUrls f_defaultDelay f_clock f_bufferLength f_urlCount f_hostCount f_ruleCount f_cLen f_cHost f_cHostLen f_cPq f_decLen f_segN : Int32} {a_buffer a_urlPool a_urlStart a_urlLength a_urlState a_urlHost a_urlTime a_names a_nameLength a_hostDelay a_hostNext a_hostSent a_rulePool a_ruleStart a_ruleLength a_ruleHost a_ycanon a_dec a_segS a_segL : Nat → Int32}
variable {dd : Nat → Nat} {N : Nat}
theorem cy_push {post : SY → Prop} {g : List (Nat × Nat)} {p q : Nat} (hg : g.length < 64) (hS : cf_Sg a_segS a_segL g) (h : ∀ s1 s2, cf_Sg s1 s2 (g ++ [(p, q)]) → post (f_maxUrls, f_defaultDelay, f_clock, f_bufferLength, f_urlCount, f_hostCount, f_ruleCount, f_cLen, f_cHost, f_cHostLen, f_cPq, f_decLen, nI (g ++ [(p, q)]).length, a_buffer, a_urlPool, a_urlStart, a_urlLength, a_urlState, a_urlHost, a_urlTime, a_names, a_nameLength, a_hostDelay, a_hostNext, a_hostSent, a_rulePool, a_ruleStart, a_ruleLength, a_ruleHost, a_ycanon, a_dec, s1, s2)) : wpY_pushSeg post (f_maxUrls, f_defaultDelay, f_clock, f_bufferLength, f_urlCount, f_hostCount, f_ruleCount, f_cLen, f_cHost, f_cHostLen, f_cPq, f_decLen, nI g.length, a_buffer, a_urlPool, a_urlStart, a_urlLength, a_urlState, a_urlHost, a_urlTime, a_names, a_nameLength, a_hostDelay, a_hostNext, a_hostSent, a_rulePool, a_ruleStart, a_ruleLength, a_ruleHost, a_ycanon, a_dec, a_segS, a_segL) (nI p) (nI q) := by
  have e : (g ++ [(p, q)]).length = g.length + 1 := by rw [List.length_append]; rfl
  rw [e] at h
  exact pk_le 64 g.length (fun z => by omega) (fun _ => ⟨pk_in g.length 64 hg, nm_r (e' := upd a_segS g.length (nI p)) (by rw [pk_cl g.length]) ⟨pk_in g.length 64 hg, nm_r (e' := upd a_segL g.length (nI q)) (by rw [pk_cl g.length]) (nm_r (nI_1 g.length) (h _ _ (cf_SgP p q hS)))⟩⟩)
theorem cy_141 {post : SY → Prop} {J : Int32 → Int32 → Int32 → Int32 → Int32 → Int32 → Int32 → Int32 → Int32 → Int32 → Int32 → Int32 → Int32 → Int32 → Int32 → (Nat → Int32) → (Nat → Int32) → (Nat → Int32) → (Nat → Int32) → (Nat → Int32) → (Nat → Int32) → (Nat → Int32) → (Nat → Int32) → (Nat → Int32) → (Nat → Int32) → (Nat → Int32) → (Nat → Int32) → (Nat → Int32) → (Nat → Int32) → (Nat → Int32) → (Nat → Int32) → (Nat → Int32) → (Nat → Int32) → (Nat → Int32) → (Nat → Int32) → Prop} {g : List (Nat × Nat)} {i s : Nat} (hi : i ≤ N) (hN : N ≤ 48) (hg : g.length < 64) (hS : cf_Sg a_segS a_segL g) (hT : i = N → ∀ s1 s2, cf_Sg s1 s2 (g ++ [(s, 0)]) → J (nI (i + 1)) (nI (i + 1)) f_maxUrls f_defaultDelay f_clock f_bufferLength f_urlCount f_hostCount f_ruleCount f_cLen f_cHost f_cHostLen f_cPq f_decLen (nI (g ++ [(s, 0)]).length) a_buffer a_urlPool a_urlStart a_urlLength a_urlState a_urlHost a_urlTime a_names a_nameLength a_hostDelay a_hostNext a_hostSent a_rulePool a_ruleStart a_ruleLength a_ruleHost a_ycanon a_dec s1 s2) (hF : i ≠ N → J (nI (i + 1)) (nI (i + 1)) f_maxUrls f_defaultDelay f_clock f_bufferLength f_urlCount f_hostCount f_ruleCount f_cLen f_cHost f_cHostLen f_cPq f_decLen (nI g.length) a_buffer a_urlPool a_urlStart a_urlLength a_urlState a_urlHost a_urlTime a_names a_nameLength a_hostDelay a_hostNext a_hostSent a_rulePool a_ruleStart a_ruleLength a_ruleHost a_ycanon a_dec a_segS a_segL) : wY_emitPath_141 post J (nI N) (nI s) (nI i) f_maxUrls f_defaultDelay f_clock f_bufferLength f_urlCount f_hostCount f_ruleCount f_cLen f_cHost f_cHostLen f_cPq f_decLen (nI g.length) a_buffer a_urlPool a_urlStart a_urlLength a_urlState a_urlHost a_urlTime a_names a_nameLength a_hostDelay a_hostNext a_hostSent a_rulePool a_ruleStart a_ruleLength a_ruleHost a_ycanon a_dec a_segS a_segL :=
  pk_eq i N (fun z => cy_push (q := 0) hg hS (fun s1 s2 hS' => nm_r (nI_1 i) (nm_r (nI_1 i) (hT z s1 s2 hS')))) (fun z => nm_r (nI_1 i) (nm_r (nI_1 i) (hF z)))
theorem cy_33 {post : SY → Prop} {J : Int32 → Int32 → Int32 → Int32 → Int32 → Int32 → Int32 → Int32 → Int32 → Int32 → Int32 → Int32 → Int32 → Int32 → Int32 → (Nat → Int32) → (Nat → Int32) → (Nat → Int32) → (Nat → Int32) → (Nat → Int32) → (Nat → Int32) → (Nat → Int32) → (Nat → Int32) → (Nat → Int32) → (Nat → Int32) → (Nat → Int32) → (Nat → Int32) → (Nat → Int32) → (Nat → Int32) → (Nat → Int32) → (Nat → Int32) → (Nat → Int32) → (Nat → Int32) → (Nat → Int32) → (Nat → Int32) → Prop} {g : List (Nat × Nat)} {i s : Nat} (hd : ∀ j, j < N → a_dec j = nI (dd j)) (hB : ∀ j, dd j ≤ 126) (hsi : s ≤ i) (hi : i ≤ N) (hN : N ≤ 48) (hg : g.length < 64) (hS : cf_Sg a_segS a_segL g) (h : ∀ s1 s2, cf_Sg s1 s2 (cf_st dd N i s g) → J (nI (i + 1)) (nI (i + 1)) f_maxUrls f_defaultDelay f_clock f_bufferLength f_urlCount f_hostCount f_ruleCount f_cLen f_cHost f_cHostLen f_cPq f_decLen (nI (cf_st dd N i s g).length) a_buffer a_urlPool a_urlStart a_urlLength a_urlState a_urlHost a_urlTime a_names a_nameLength a_hostDelay a_hostNext a_hostSent a_rulePool a_ruleStart a_ruleLength a_ruleHost a_ycanon a_dec s1 s2) : wY_emitPath_33 post J (nI N) (nI s) (nI i) f_maxUrls f_defaultDelay f_clock f_bufferLength f_urlCount f_hostCount f_ruleCount f_cLen f_cHost f_cHostLen f_cPq f_decLen (nI g.length) a_buffer a_urlPool a_urlStart a_urlLength a_urlState a_urlHost a_urlTime a_names a_nameLength a_hostDelay a_hostNext a_hostSent a_rulePool a_ruleStart a_ruleLength a_ruleHost a_ycanon a_dec a_segS a_segL := by
  refine nm_r (pk_sub hsi) ?_
  by_cases cA : i - s = 1 ∧ dd s = 46
  · have est : cf_st dd N i s g = if i = N then g ++ [(s, 0)] else g := by unfold cf_st; rw [if_pos cA]
    have fin : wY_emitPath_141 post J (nI N) (nI s) (nI i) f_maxUrls f_defaultDelay f_clock f_bufferLength f_urlCount f_hostCount f_ruleCount f_cLen f_cHost f_cHostLen f_cPq f_decLen (nI g.length) a_buffer a_urlPool a_urlStart a_urlLength a_urlState a_urlHost a_urlTime a_names a_nameLength a_hostDelay a_hostNext a_hostSent a_rulePool a_ruleStart a_ruleLength a_ruleHost a_ycanon a_dec a_segS a_segL := by
      refine cy_141 hi hN hg hS (fun z s1 s2 hS' => ?_) (fun z => ?_)
      · rw [if_pos z] at est
        rw [est] at h
        exact h s1 s2 hS'
      · rw [if_neg z] at est
        rw [est] at h
        exact h _ _ hS
    exact pk_eq (i - s) 1 (fun _ => ⟨pk_in s 64 (by omega), br_t (cf_ix s rfl (by omega) ((hd s (by omega)).trans (congrArg nI cA.2))) (pk_eq (i - s) 2 (fun z => by omega) (fun _ => br_t rfl (br_f (by decide) fin)))⟩) (fun z => absurd cA.1 z)
  · by_cases cB : i - s = 2 ∧ dd s = 46 ∧ dd (s + 1) = 46
    · have est : cf_st dd N i s g = if i = N then g.take (g.length - 1) ++ [(s, 0)] else g.take (g.length - 1) := by unfold cf_st; rw [if_neg cA, if_pos cB]
      have fin : wY_emitPath_141 post J (nI N) (nI s) (nI i) f_maxUrls f_defaultDelay f_clock f_bufferLength f_urlCount f_hostCount f_ruleCount f_cLen f_cHost f_cHostLen f_cPq f_decLen (nI (g.take (g.length - 1)).length) a_buffer a_urlPool a_urlStart a_urlLength a_urlState a_urlHost a_urlTime a_names a_nameLength a_hostDelay a_hostNext a_hostSent a_rulePool a_ruleStart a_ruleLength a_ruleHost a_ycanon a_dec a_segS a_segL := by
        refine cy_141 hi hN (by rw [List.length_take]; omega) (cf_SgT _ hS) (fun z s1 s2 hS' => ?_) (fun z => ?_)
        · rw [if_pos z] at est
          rw [est] at h
          exact h s1 s2 hS'
        · rw [if_neg z] at est
          rw [est] at h
          exact h _ _ (cf_SgT _ hS)
      have el : (g.take (g.length - 1)).length = g.length - 1 := by rw [List.length_take]; omega
      rw [el] at fin
      refine pk_eq (i - s) 1 (fun z => by omega) (fun _ => pk_eq (i - s) 2 (fun _ => ⟨pk_in s 64 (by omega), br_t (cf_ix s rfl (by omega) ((hd s (by omega)).trans (congrArg nI cB.2.1))) ⟨pk_in (s + 1) 64 (by omega) (nI_1 s), br_t (cf_ix (s + 1) (nI_1 s) (by omega) ((hd (s + 1) (by omega)).trans (congrArg nI cB.2.2))) (br_f (by decide) (pk_le g.length 0 (fun z => ?_) (fun z => nm_r (e' := nI (g.length - 1)) (pk_sub (b := 1) z) (br_t rfl (br_f (by decide) fin)))))⟩⟩) (fun z => absurd cB.1 z))
      have e0 : g.length - 1 = g.length := by omega
      rw [e0] at fin
      exact br_t rfl (br_f (by decide) fin)
    · have est : cf_st dd N i s g = g ++ [(s, i - s)] := by unfold cf_st; rw [if_neg cA, if_neg cB]
      rw [est] at h
      have fin : wY_emitPath_121 post J (nI N) (nI s) (nI i) (nI (i - s)) 0 0 f_maxUrls f_defaultDelay f_clock f_bufferLength f_urlCount f_hostCount f_ruleCount f_cLen f_cHost f_cHostLen f_cPq f_decLen (nI g.length) a_buffer a_urlPool a_urlStart a_urlLength a_urlState a_urlHost a_urlTime a_names a_nameLength a_hostDelay a_hostNext a_hostSent a_rulePool a_ruleStart a_ruleLength a_ruleHost a_ycanon a_dec a_segS a_segL :=
        br_t rfl (br_t rfl (cy_push hg hS (fun s1 s2 hS' => nm_r (nI_1 i) (nm_r (nI_1 i) (h s1 s2 hS')))))
      have f96 : wY_emitPath_96 post J (nI N) (nI s) (nI i) (nI (i - s)) 0 f_maxUrls f_defaultDelay f_clock f_bufferLength f_urlCount f_hostCount f_ruleCount f_cLen f_cHost f_cHostLen f_cPq f_decLen (nI g.length) a_buffer a_urlPool a_urlStart a_urlLength a_urlState a_urlHost a_urlTime a_names a_nameLength a_hostDelay a_hostNext a_hostSent a_rulePool a_ruleStart a_ruleLength a_ruleHost a_ycanon a_dec a_segS a_segL := br_t rfl fin
      have f59 : wY_emitPath_59 post J (nI N) (nI s) (nI i) (nI (i - s)) f_maxUrls f_defaultDelay f_clock f_bufferLength f_urlCount f_hostCount f_ruleCount f_cLen f_cHost f_cHostLen f_cPq f_decLen (nI g.length) a_buffer a_urlPool a_urlStart a_urlLength a_urlState a_urlHost a_urlTime a_names a_nameLength a_hostDelay a_hostNext a_hostSent a_rulePool a_ruleStart a_ruleLength a_ruleHost a_ycanon a_dec a_segS a_segL :=
        pk_eq (i - s) 2 (fun z => ⟨pk_in s 64 (by omega), cf_eqc (dd s) 46 (cf_ix s rfl (by omega) (hd s (by omega))) (by have := hB s; omega) (fun z1 => ⟨pk_in (s + 1) 64 (by omega) (nI_1 s), cf_eqc (dd (s + 1)) 46 (cf_ix (s + 1) (nI_1 s) (by omega) (hd (s + 1) (by omega))) (by have := hB (s + 1); omega) (fun z2 => absurd ⟨z, z1, z2⟩ cB) (fun z2 => f96)⟩) (fun z1 => f96)⟩) (fun z => f96)
      exact pk_eq (i - s) 1 (fun z => ⟨pk_in s 64 (by omega), cf_eqc (dd s) 46 (cf_ix s rfl (by omega) (hd s (by omega))) (by have := hB s; omega) (fun z1 => absurd ⟨z, z1⟩ cA) (fun z1 => f59)⟩) (fun z => f59)
theorem cy_path9 {post : SY → Prop} (hd : ∀ j, j < N → a_dec j = nI (dd j)) (hB : ∀ j, dd j ≤ 126) (hN : N ≤ 48) : ∀ d i s g f ss sl, i + d = N + 1 → d < f → 1 ≤ s → s ≤ i → (∀ j, s ≤ j → j < i → dd j ≠ 47) → cf_G dd N s g → cf_Sg ss sl g → (∀ ss sl f s', cf_Sg ss sl (cf_sg dd N d i s g) → wY_emitPath_9 post (nI N) (f + 1) s' (nI (N + 1)) f_maxUrls f_defaultDelay f_clock f_bufferLength f_urlCount f_hostCount f_ruleCount f_cLen f_cHost f_cHostLen f_cPq f_decLen (nI (cf_sg dd N d i s g).length) a_buffer a_urlPool a_urlStart a_urlLength a_urlState a_urlHost a_urlTime a_names a_nameLength a_hostDelay a_hostNext a_hostSent a_rulePool a_ruleStart a_ruleLength a_ruleHost a_ycanon a_dec ss sl) → wY_emitPath_9 post (nI N) f (nI s) (nI i) f_maxUrls f_defaultDelay f_clock f_bufferLength f_urlCount f_hostCount f_ruleCount f_cLen f_cHost f_cHostLen f_cPq f_decLen (nI g.length) a_buffer a_urlPool a_urlStart a_urlLength a_urlState a_urlHost a_urlTime a_names a_nameLength a_hostDelay a_hostNext a_hostSent a_rulePool a_ruleStart a_ruleLength a_ruleHost a_ycanon a_dec ss sl := by
  intro d
  induction d with
  | zero =>
    intro i s g f ss sl hi hf hs1 hsi hj hG hS h
    have e : i = N + 1 := by omega
    subst e
    cases f with
    | zero => omega
    | succ f => exact h ss sl f _ hS
  | succ d ih =>
    intro i s g f ss sl hi hf hs1 hsi hj hG hS h
    cases f with
    | zero => omega
    | succ f =>
      have gl := cf_flG dd g
      have g1 := hG.1
      have seg : ¬ (i < N ∧ dd i ≠ 47) → wY_emitPath_33 post (wY_emitPath_9 post (nI N) f) (nI N) (nI s) (nI i) f_maxUrls f_defaultDelay f_clock f_bufferLength f_urlCount f_hostCount f_ruleCount f_cLen f_cHost f_cHostLen f_cPq f_decLen (nI g.length) a_buffer a_urlPool a_urlStart a_urlLength a_urlState a_urlHost a_urlTime a_names a_nameLength a_hostDelay a_hostNext a_hostSent a_rulePool a_ruleStart a_ruleLength a_ruleHost a_ycanon a_dec ss sl := by
        intro c
        rw [cf_sgS c] at h
        refine cy_33 hd hB hsi (by omega) hN (by omega) hS (fun s1 s2 hS' => ?_)
        exact ih (i + 1) (i + 1) _ f s1 s2 (by omega) (by omega) (by omega) (Nat.le_refl _) (fun j h1 h2 => by omega) (cf_Gs hG hsi (by omega) hj) hS' h
      refine pk_lt N i (fun z => by omega) (fun _ => pk_le N i (fun z => seg (fun w => by omega)) (fun z => ⟨pk_in i 64 (by omega), cf_eqc (dd i) 47 (cf_ix i rfl (by omega) (hd i (by omega))) (by have := hB i; omega) (fun z1 => seg (fun w => w.2 z1)) (fun z1 => nm_r (nI_1 i) ?_)⟩))
      rw [cf_sgC ⟨z, z1⟩] at h
      refine ih (i + 1) s g f ss sl (by omega) (by omega) hs1 (by omega) (fun j h1 h2 => ?_) hG hS h
      rcases Nat.lt_or_ge j i with y | y
      · exact hj j h1 y
      · have ej : j = i := by omega
        rw [ej]
        exact z1
theorem cy_191 {post : SY → Prop} {J : Int32 → Int32 → Int32 → Int32 → Int32 → Int32 → Int32 → Int32 → Int32 → Int32 → Int32 → Int32 → Int32 → Int32 → (Nat → Int32) → (Nat → Int32) → (Nat → Int32) → (Nat → Int32) → (Nat → Int32) → (Nat → Int32) → (Nat → Int32) → (Nat → Int32) → (Nat → Int32) → (Nat → Int32) → (Nat → Int32) → (Nat → Int32) → (Nat → Int32) → (Nat → Int32) → (Nat → Int32) → (Nat → Int32) → (Nat → Int32) → (Nat → Int32) → (Nat → Int32) → (Nat → Int32) → Prop} {l : List Nat} {n j p q : Nat} (hd : ∀ j, j < N → a_dec j = nI (dd j)) (hN : N ≤ 48) (hj : j < 64) (e1 : a_segS j = nI p) (e2 : a_segL j = nI q) (hpq : p + q ≤ N) (hn : n + q ≤ 64) (h : ∀ a, cf_K a (n + q) (l ++ cf_sb dd p q) → J (nI (j + 1)) f_maxUrls f_defaultDelay f_clock f_bufferLength f_urlCount f_hostCount f_ruleCount (nI (n + q)) f_cHost f_cHostLen f_cPq f_decLen f_segN a_buffer a_urlPool a_urlStart a_urlLength a_urlState a_urlHost a_urlTime a_names a_nameLength a_hostDelay a_hostNext a_hostSent a_rulePool a_ruleStart a_ruleLength a_ruleHost a a_dec a_segS a_segL) : ∀ d k f a, k + d = q → d < f → cf_K a (n + k) (l ++ cf_sb dd p k) → wY_emitPath_191 post J (nI j) f (nI k) f_maxUrls f_defaultDelay f_clock f_bufferLength f_urlCount f_hostCount f_ruleCount (nI (n + k)) f_cHost f_cHostLen f_cPq f_decLen f_segN a_buffer a_urlPool a_urlStart a_urlLength a_urlState a_urlHost a_urlTime a_names a_nameLength a_hostDelay a_hostNext a_hostSent a_rulePool a_ruleStart a_ruleLength a_ruleHost a a_dec a_segS a_segL := by
  have c1 : a_segS (nI j).toNatClampNeg = nI p := cf_ix j rfl (by omega) e1
  have c2 : a_segL (nI j).toNatClampNeg = nI q := cf_ix j rfl (by omega) e2
  intro d
  induction d with
  | zero =>
    intro k f a hk hf hK
    have e : k = q := by omega
    subst e
    cases f with
    | zero => omega
    | succ f => exact ⟨pk_in j 64 hj, pk_le k k (fun _ => nm_r (nI_1 j) (h a hK)) (fun z => by omega) c2⟩
  | succ d ih =>
    intro k f a hk hf hK
    cases f with
    | zero => omega
    | succ f =>
      have c3 : a_segS (nI j).toNatClampNeg + nI k = nI (p + k) := by rw [c1, nI_add]
      refine ⟨pk_in j 64 hj, pk_le q k (fun z => by omega) (fun _ => ⟨pk_in j 64 hj, pk_in (p + k) 64 (by omega) c3, cy_emit (dd (p + k)) (cf_ix (p + k) c3 (by omega) (hd (p + k) (by omega))) (by omega) hK (fun a' hK' => nm_r (nI_1 k) (ih (k + 1) f a' (by omega) (by omega) ?_))⟩) c2⟩
      rw [cf_sb1, ← List.append_assoc]
      exact hK'
theorem cy_170 {post : SY → Prop} {l : List Nat} {n : Nat} {G : List (Nat × Nat)} (hd : ∀ j, j < N → a_dec j = nI (dd j)) (hN : N ≤ 48) (hG : cf_G dd N (N + 1) G) (hS : cf_Sg a_segS a_segL G) (hn : n + N ≤ 49) (h : ∀ a, cf_K a (n + (cf_pt dd G).length) (l ++ cf_pt dd G) → post (f_maxUrls, f_defaultDelay, f_clock, f_bufferLength, f_urlCount, f_hostCount, f_ruleCount, nI (n + (cf_pt dd G).length), f_cHost, f_cHostLen, f_cPq, f_decLen, nI G.length, a_buffer, a_urlPool, a_urlStart, a_urlLength, a_urlState, a_urlHost, a_urlTime, a_names, a_nameLength, a_hostDelay, a_hostNext, a_hostSent, a_rulePool, a_ruleStart, a_ruleLength, a_ruleHost, a, a_dec, a_segS, a_segL)) : ∀ r j f a, j + r = G.length → r < f → cf_K a (n + (cf_pt dd (G.take j)).length) (l ++ cf_pt dd (G.take j)) → wY_emitPath_170 post f (nI j) f_maxUrls f_defaultDelay f_clock f_bufferLength f_urlCount f_hostCount f_ruleCount (nI (n + (cf_pt dd (G.take j)).length)) f_cHost f_cHostLen f_cPq f_decLen (nI G.length) a_buffer a_urlPool a_urlStart a_urlLength a_urlState a_urlHost a_urlTime a_names a_nameLength a_hostDelay a_hostNext a_hostSent a_rulePool a_ruleStart a_ruleLength a_ruleHost a a_dec a_segS a_segL := by
  have gl := cf_flG dd G
  have g1 := hG.1
  intro r
  induction r with
  | zero =>
    intro j f a hj hf hK
    have e : j = G.length := by omega
    subst e
    rw [List.take_length] at hK ⊢
    cases f with
    | zero => omega
    | succ f => exact pk_le G.length G.length (fun _ => h a hK) (fun z => by omega)
  | succ r ih =>
    intro j f a hj hf hK
    cases f with
    | zero => omega
    | succ f =>
      have tk := cf_tks (g := G) (j := j) (by omega)
      have sj := hS j (by omega)
      have pj := (hG.2 _ (cf_pgm (g := G) (j := j) (by omega))).1
      have tl := cf_flT dd G (j + 1)
      rw [tk, cf_fla, List.length_append, List.length_cons, cf_sbL] at tl
      refine pk_le G.length j (fun z => by omega) (fun _ => pk_le j 0 (fun z => ?_) (fun z => ?_))
      · have e0 : j = 0 := by omega
        subst e0
        have en : cf_pt dd (G.take (0 + 1)) = cf_pt dd (G.take 0) ++ cf_sb dd (G.getD 0 (0, 0)).1 (G.getD 0 (0, 0)).2 := by
          rw [tk]
          show cf_fl dd [G.getD 0 (0, 0)] = _
          rw [cf_fl1]
          rfl
        have k0 : (cf_pt dd (G.take 0)).length = 1 := rfl
        refine ⟨(G.getD 0 (0, 0)).2 + 1, cy_191 (n := n + (cf_pt dd (G.take 0)).length) (l := l ++ cf_pt dd (G.take 0)) hd hN (by omega) sj.1 sj.2 pj (by omega) (fun a' hK' => ?_) _ 0 _ a (Nat.zero_add _) (by omega) ?_⟩
        · have e3 : n + (cf_pt dd (G.take (0 + 1))).length = n + (cf_pt dd (G.take 0)).length + (G.getD 0 (0, 0)).2 := by
            rw [en, List.length_append, cf_sbL]
            omega
          have i1 := ih (0 + 1) f a' (by omega) (by omega)
          rw [e3, en, ← List.append_assoc] at i1
          exact i1 hK'
        · show cf_K a _ (_ ++ [])
          rw [List.append_nil]
          exact hK
      · have ne : G.take j ≠ [] := by
          intro w
          have := congrArg List.length w
          rw [List.length_take] at this
          have w0 : ([] : List (Nat × Nat)).length = 0 := rfl
          omega
        have ne2 : G.take (j + 1) ≠ [] := by
          rw [tk]
          simp
        have ep : cf_pt dd (G.take j) = cf_fl dd (G.take j) := cf_ptN ne
        have en : cf_pt dd (G.take (j + 1)) = cf_fl dd (G.take j) ++ [47] ++ cf_sb dd (G.getD j (0, 0)).1 (G.getD j (0, 0)).2 := by
          rw [cf_ptN ne2, tk, cf_fla, List.append_assoc]
          rfl
        rw [ep] at hK ⊢
        refine cy_emit 47 rfl (by omega) hK (fun a1 hK1 => ⟨(G.getD j (0, 0)).2 + 1, cy_191 (l := l ++ cf_fl dd (G.take j) ++ [47]) hd hN (by omega) sj.1 sj.2 pj (by omega) (fun a' hK' => ?_) _ 0 _ a1 (Nat.zero_add _) (by omega) ?_⟩)
        · have e3 : n + (cf_pt dd (G.take (j + 1))).length = n + (cf_fl dd (G.take j)).length + 1 + (G.getD j (0, 0)).2 := by
            rw [en, List.length_append, List.length_append, cf_sbL]
            show n + ((cf_fl dd (G.take j)).length + 1 + _) = _
            omega
          have i1 := ih (j + 1) f a' (by omega) (by omega)
          rw [e3, en, ← List.append_assoc, ← List.append_assoc] at i1
          exact i1 hK'
        · show cf_K a1 _ (_ ++ [])
          rw [List.append_nil]
          exact hK1
theorem cy_emitPath {post : SY → Prop} {D l : List Nat} {n : Nat} (hd : ∀ j, j < D.length → a_dec j = nI (cf_dD D j)) (hB : ∀ j, cf_dD D j ≤ 126) (hD : D.length ≤ 48) (hn : n + D.length ≤ 49) (hK : cf_K a_ycanon n l) (h : ∀ a ss sl m, cf_K a (n + (cf_pa D).length) (l ++ cf_pa D) → post (f_maxUrls, f_defaultDelay, f_clock, f_bufferLength, f_urlCount, f_hostCount, f_ruleCount, nI (n + (cf_pa D).length), f_cHost, f_cHostLen, f_cPq, f_decLen, m, a_buffer, a_urlPool, a_urlStart, a_urlLength, a_urlState, a_urlHost, a_urlTime, a_names, a_nameLength, a_hostDelay, a_hostNext, a_hostSent, a_rulePool, a_ruleStart, a_ruleLength, a_ruleHost, a, a_dec, ss, sl)) : wpY_emitPath post (f_maxUrls, f_defaultDelay, f_clock, f_bufferLength, f_urlCount, f_hostCount, f_ruleCount, nI n, f_cHost, f_cHostLen, f_cPq, f_decLen, f_segN, a_buffer, a_urlPool, a_urlStart, a_urlLength, a_urlState, a_urlHost, a_urlTime, a_names, a_nameLength, a_hostDelay, a_hostNext, a_hostSent, a_rulePool, a_ruleStart, a_ruleLength, a_ruleHost, a_ycanon, a_dec, a_segS, a_segL) (nI D.length) := by
  refine ⟨D.length + 1, cy_path9 hd hB hD D.length 1 1 [] _ a_segS a_segL (by omega) (by omega) (Nat.le_refl _) (Nat.le_refl _) (fun j h1 h2 => by omega) (cf_G0 _ _) (fun j hj => absurd hj (Nat.not_lt_zero j)) (fun ss sl f s' hS => ?_)⟩
  refine pk_lt D.length (D.length + 1) (fun _ => cy_emit 47 rfl (by omega) hK (fun a hK' => ⟨(cf_gs D).length + 1, ?_⟩)) (fun z => by omega)
  exact cy_170 (l := l) (n := n) hd hD (cf_gsG D) hS hn (fun a2 hK2 => h a2 _ _ _ hK2) (cf_gs D).length 0 _ a (by omega) (by omega) hK'
end
end
section
/-! the reference: parse, from its end to its beginning -/
theorem cf_w3 {t : Nat → Nat} {L c he c' he' p' pE' qE' : Nat} {po' D1' D2' : List Nat} (hc : cf_Sch t L c) (hE : cf_IE 4 t L (c + 3) he) (w : cf_PS t L c' he' p' pE' qE' po' D1' D2') : cf_Ho t (c + 3) he ∧ cf_PO t L c he p' po' := by
  have e := cf_Schu w.1 hc
  subst e
  have e := cf_IEu w.2.1 hE
  subst e
  exact ⟨w.2.2.1, w.2.2.2.1⟩
theorem cf_w6 {t : Nat → Nat} {L c he p pE c' he' p' pE' qE' : Nat} {po po' D1' D2' : List Nat} (hc : cf_Sch t L c) (hE : cf_IE 4 t L (c + 3) he) (hPO : cf_PO t L c he p po) (hpE : cf_IE 2 t L p pE) (w : cf_PS t L c' he' p' pE' qE' po' D1' D2') : cf_dc t pE (pE - p) p = some D1' := by
  have q := (cf_w3 hc hE w).2
  have e := (cf_POu q hPO).1
  subst e
  have e := cf_IEu w.2.2.2.2.1 hpE
  subst e
  exact w.2.2.2.2.2.1
theorem cf_w8 {t : Nat → Nat} {L c he p pE qE c' he' p' pE' qE' : Nat} {po po' D1' D2' : List Nat} (hc : cf_Sch t L c) (hE : cf_IE 4 t L (c + 3) he) (hPO : cf_PO t L c he p po) (hpE : cf_IE 2 t L p pE) (hqE : cf_IE 1 t L pE qE) (w : cf_PS t L c' he' p' pE' qE' po' D1' D2') : cf_dc t qE (qE - pE) pE = some D2' := by
  have q := (cf_w3 hc hE w).2
  have e := (cf_POu q hPO).1
  subst e
  have e := cf_IEu w.2.2.2.2.1 hpE
  subst e
  have e := cf_IEu w.2.2.2.2.2.2.1 hqE
  subst e
  exact w.2.2.2.2.2.2.2
section
variable {f_maxUrls f_defaultDelay f_clock f_bufferLength f_urlCount f_hostCount f_ruleCount f_cLen f_cHost f_cHostLen f_cPq f_decLen f_segN : Int32} {a_buffer a_urlPool a_urlStart a_urlLength a_urlState a_urlHost a_urlTime a_names a_nameLength a_hostDelay a_hostNext a_hostSent a_rulePool a_ruleStart a_ruleLength a_ruleHost a_ycanon a_dec a_segS a_segL : Nat → Int32}
variable {t : Nat → Nat} {L : Nat}
theorem cy_885 {post : Int32 → SY → Prop} {D1 D2 l : List Nat} {n : Nat} (hKd : cf_K a_dec (D1.length + D2.length) (D1 ++ D2)) (hD : D1.length + D2.length ≤ 60) (hn : n + D2.length ≤ 60) (h : ∀ a, cf_K a (n + D2.length) (l ++ D2) → post 1 (f_maxUrls, f_defaultDelay, f_clock, f_bufferLength, f_urlCount, f_hostCount, f_ruleCount, nI (n + D2.length), f_cHost, f_cHostLen, f_cPq, nI (D1.length + D2.length), f_segN, a_buffer, a_urlPool, a_urlStart, a_urlLength, a_urlState, a_urlHost, a_urlTime, a_names, a_nameLength, a_hostDelay, a_hostNext, a_hostSent, a_rulePool, a_ruleStart, a_ruleLength, a_ruleHost, a, a_dec, a_segS, a_segL)) : ∀ d k f a, k + d = D2.length → d < f → cf_K a (n + k) (l ++ cf_sb (cf_dD (D1 ++ D2)) D1.length k) → wY_parse_885 post f (nI (D1.length + k)) f_maxUrls f_defaultDelay f_clock f_bufferLength f_urlCount f_hostCount f_ruleCount (nI (n + k)) f_cHost f_cHostLen f_cPq (nI (D1.length + D2.length)) f_segN a_buffer a_urlPool a_urlStart a_urlLength a_urlState a_urlHost a_urlTime a_names a_nameLength a_hostDelay a_hostNext a_hostSent a_rulePool a_ruleStart a_ruleLength a_ruleHost a a_dec a_segS a_segL := by
  intro d
  induction d with
  | zero =>
    intro k f a hk hf hK
    have e : k = D2.length := by omega
    subst e
    rw [cf_sbD2] at hK
    cases f with
    | zero => omega
    | succ f => exact pk_le (D1.length + D2.length) (D1.length + D2.length) (fun _ => h a hK) (fun z => by omega)
  | succ d ih =>
    intro k f a hk hf hK
    cases f with
    | zero => omega
    | succ f =>
      refine pk_le (D1.length + D2.length) (D1.length + k) (fun z => by omega) (fun z => ⟨pk_in (D1.length + k) 64 (by omega), cy_emit (cf_dD (D1 ++ D2) (D1.length + k)) (cf_rK hKd (D1.length + k) (by omega)) (by omega) hK (fun a' hK' => nm_r (nI_1 (D1.length + k)) (ih (k + 1) f a' (by omega) (by omega) ?_))⟩)
      rw [cf_sb1, ← List.append_assoc]
      exact hK'
theorem cy_867 {post : Int32 → SY → Prop} {D1 D2 l : List Nat} {n : Nat} (hKd : cf_K a_dec (D1.length + D2.length) (D1 ++ D2)) (hB : ∀ c, c ∈ D1 → c ≤ 126) (hD : D1.length + D2.length ≤ 48) (hn : n + D1.length ≤ 49) (hn2 : n + (cf_pa D1).length + D2.length ≤ 49) (hK : cf_K a_ycanon n l) (h : ∀ a ss sl m, cf_K a (n + (cf_pa D1).length + D2.length) (l ++ cf_pa D1 ++ D2) → post 1 (f_maxUrls, f_defaultDelay, f_clock, f_bufferLength, f_urlCount, f_hostCount, f_ruleCount, nI (n + (cf_pa D1).length + D2.length), f_cHost, f_cHostLen, nI n, nI (D1.length + D2.length), m, a_buffer, a_urlPool, a_urlStart, a_urlLength, a_urlState, a_urlHost, a_urlTime, a_names, a_nameLength, a_hostDelay, a_hostNext, a_hostSent, a_rulePool, a_ruleStart, a_ruleLength, a_ruleHost, a, a_dec, ss, sl)) : wY_parse_867 post (nI D1.length) f_maxUrls f_defaultDelay f_clock f_bufferLength f_urlCount f_hostCount f_ruleCount (nI n) f_cHost f_cHostLen f_cPq (nI (D1.length + D2.length)) f_segN a_buffer a_urlPool a_urlStart a_urlLength a_urlState a_urlHost a_urlTime a_names a_nameLength a_hostDelay a_hostNext a_hostSent a_rulePool a_ruleStart a_ruleLength a_ruleHost a_ycanon a_dec a_segS a_segL := by
  unfold wY_parse_867
  refine cy_emitPath (D := D1) (fun j hj => ?_) (cf_dDB hB) (by omega) hn hK (fun a ss sl m hK' => ⟨D2.length + 1, cy_885 (D1 := D1) (D2 := D2) (l := l ++ cf_pa D1) (n := n + (cf_pa D1).length) hKd (by omega) (by omega) (fun a2 hK2 => h a2 ss sl m hK2) D2.length 0 _ a (Nat.zero_add _) (by omega) ?_⟩)
  · rw [cf_Kg hKd (by omega), cf_gdl hj]
    rfl
  · show cf_K a _ (_ ++ [])
    rw [List.append_nil]
    exact hK'
theorem cy_817 {post : Int32 → SY → Prop} {l : List Nat} {n0 hs he c v : Nat} {x9 : Int32} (hb : ∀ j, a_buffer j = nI (t j)) (ht : ∀ j, t j ≤ 126) (h48 : he ≤ 48) (hv : v ≤ 65535) (hn : n0 + (he - hs) ≤ 40) (h : ∀ a, cf_K a (n0 + (he - hs) + (cf_po c v).length) (l ++ cf_sb (fun j => cf_lo (t j)) hs (he - hs) ++ cf_po c v) → wY_parse_867 post x9 f_maxUrls f_defaultDelay f_clock f_bufferLength f_urlCount f_hostCount f_ruleCount (nI (n0 + (he - hs) + (cf_po c v).length)) f_cHost f_cHostLen f_cPq f_decLen f_segN a_buffer a_urlPool a_urlStart a_urlLength a_urlState a_urlHost a_urlTime a_names a_nameLength a_hostDelay a_hostNext a_hostSent a_rulePool a_ruleStart a_ruleLength a_ruleHost a a_dec a_segS a_segL) : ∀ d k f a, hs + k + d = he → d < f → cf_K a (n0 + k) (l ++ cf_sb (fun j => cf_lo (t j)) hs k) → wY_parse_817 post (nI (cf_dp c)) (nI he) (nI v) x9 f (nI (hs + k)) f_maxUrls f_defaultDelay f_clock f_bufferLength f_urlCount f_hostCount f_ruleCount (nI (n0 + k)) f_cHost f_cHostLen f_cPq f_decLen f_segN a_buffer a_urlPool a_urlStart a_urlLength a_urlState a_urlHost a_urlTime a_names a_nameLength a_hostDelay a_hostNext a_hostSent a_rulePool a_ruleStart a_ruleLength a_ruleHost a a_dec a_segS a_segL := by
  intro d
  induction d with
  | zero =>
    intro k f a hk hf hK
    have e : he - hs = k := by omega
    rw [e] at h hn
    have b3 : cf_dp c ≤ 443 := by unfold cf_dp; split <;> omega
    cases f with
    | zero => omega
    | succ f =>
      refine pk_le he (hs + k) (fun _ => pk_eq v (cf_dp c) (fun z => ?_) (fun z => ?_)) (fun z => by omega)
      · have e2 : cf_po c v = [] := by unfold cf_po; rw [if_pos z]
        rw [e2, List.append_nil] at h
        exact h a hK
      · have e2 : cf_po c v = 58 :: cf_dy 4 v := by unfold cf_po; rw [if_neg z]
        rw [e2] at h
        refine cy_emit 58 rfl (by omega) hK (fun a1 k1 => cy_num hv (by omega) k1 (fun a2 k2 => ?_))
        have h' := h a2
        have e3 : n0 + k + (58 :: cf_dy 4 v).length = n0 + k + 1 + (cf_dy 4 v).length := by rw [List.length_cons]; omega
        rw [e3] at h'
        rw [List.append_assoc] at k2
        exact h' k2
  | succ d ih =>
    intro k f a hk hf hK
    cases f with
    | zero => omega
    | succ f =>
      refine pk_le he (hs + k) (fun z => by omega) (fun z => ⟨pk_in (hs + k) 48 (by omega), cy_low (t (hs + k)) (cf_rd hb (hs + k)) (ht _) (cy_emit (cf_lo (t (hs + k))) rfl (by omega) hK (fun a' hK' => nm_r (nI_1 (hs + k)) (ih (k + 1) f a' (by omega) (by omega) ?_)))⟩)
      rw [cf_sb1, ← List.append_assoc]
      exact hK'
theorem cy_749 {post : Int32 → SY → Prop} {c he : Nat} {x2 x5 x9 : Int32} (hb : ∀ j, a_buffer j = nI (t j)) (ht : ∀ j, t j ≤ 126) (hc : c ≤ 5) (h58 : t c = 58) (h47 : t (c + 1) = 47) (h47' : t (c + 2) = 47) (hhe : c + 3 ≤ he) (h : ∀ a, cf_K a (c + 3) (cf_sb (fun j => cf_lo (t j)) 0 (c + 3)) → ∃ f, wY_parse_817 post x2 (nI he) x5 x9 f (nI (c + 3)) f_maxUrls f_defaultDelay f_clock f_bufferLength f_urlCount f_hostCount f_ruleCount (nI (c + 3)) (nI (c + 3)) (nI (he - (c + 3))) f_cPq f_decLen f_segN a_buffer a_urlPool a_urlStart a_urlLength a_urlState a_urlHost a_urlTime a_names a_nameLength a_hostDelay a_hostNext a_hostSent a_rulePool a_ruleStart a_ruleLength a_ruleHost a a_dec a_segS a_segL) : ∀ d k f a, k + d = c → d < f → cf_K a k (cf_sb (fun j => cf_lo (t j)) 0 k) → wY_parse_749 post (nI c) x2 (nI (c + 3)) (nI he) x5 x9 f (nI k) f_maxUrls f_defaultDelay f_clock f_bufferLength f_urlCount f_hostCount f_ruleCount (nI k) f_cHost f_cHostLen f_cPq f_decLen f_segN a_buffer a_urlPool a_urlStart a_urlLength a_urlState a_urlHost a_urlTime a_names a_nameLength a_hostDelay a_hostNext a_hostSent a_rulePool a_ruleStart a_ruleLength a_ruleHost a a_dec a_segS a_segL := by
  intro d
  induction d with
  | zero =>
    intro k f a hk hf hK
    have e : k = c := by omega
    subst e
    cases f with
    | zero => omega
    | succ f =>
      refine pk_le k k (fun _ => cy_emit 58 rfl (by omega) hK (fun a1 k1 => cy_emit 47 rfl (by omega) k1 (fun a2 k2 => cy_emit 47 rfl (by omega) k2 (fun a3 k3 => nm_r (pk_sub hhe) (h a3 ?_))))) (fun z => by omega)
      have e1 : cf_lo (t (0 + k)) = 58 := by rw [Nat.zero_add]; exact cf_lo58.mpr h58
      have e2 : cf_lo (t (0 + (k + 1))) = 47 := by rw [Nat.zero_add]; exact cf_lo47.mpr h47
      have e3 : cf_lo (t (0 + (k + 2))) = 47 := by rw [Nat.zero_add]; exact cf_lo47.mpr h47'
      rw [show k + 3 = k + 2 + 1 from rfl, cf_sb1, show k + 2 = k + 1 + 1 from rfl, cf_sb1, cf_sb1, e1, e2, e3]
      exact k3
  | succ d ih =>
    intro k f a hk hf hK
    cases f with
    | zero => omega
    | succ f =>
      refine pk_le c k (fun z => by omega) (fun z => ⟨pk_in k 48 (by omega), cy_low (t k) (cf_rd hb k) (ht _) (cy_emit (cf_lo (t k)) rfl (by omega) hK (fun a' hK' => nm_r (nI_1 k) (ih (k + 1) f a' (by omega) (by omega) ?_)))⟩)
      rw [cf_sb1, Nat.zero_add]
      exact hK'
theorem cy_714 {post : Int32 → SY → Prop} {c he p pE qE v : Nat} (hL : L ≤ 48) (hb : ∀ j, a_buffer j = nI (t j)) (ht : ∀ j, t j ≤ 126) (hN : (∀ c he p pE qE po D1 D2, ¬ cf_PS t L c he p pE qE po D1 D2) → ∀ a1 a2 a3 a4 n1 n2 n3 n4 n5 n6, post 0 (f_maxUrls, f_defaultDelay, f_clock, nI L, f_urlCount, f_hostCount, f_ruleCount, n1, n2, n3, n4, n5, n6, a_buffer, a_urlPool, a_urlStart, a_urlLength, a_urlState, a_urlHost, a_urlTime, a_names, a_nameLength, a_hostDelay, a_hostNext, a_hostSent, a_rulePool, a_ruleStart, a_ruleLength, a_ruleHost, a1, a2, a3, a4)) (hY : ∀ c he p pE qE po D1 D2, cf_PS t L c he p pE qE po D1 D2 → ∀ a1 a2 a3 a4 n5 n6, cf_K a1 (cf_out t he po D1 D2).length (cf_out t he po D1 D2) → post 1 (f_maxUrls, f_defaultDelay, f_clock, nI L, f_urlCount, f_hostCount, f_ruleCount, nI (cf_out t he po D1 D2).length, nI (c + 3), nI (he - (c + 3)), nI (he + po.length), n5, n6, a_buffer, a_urlPool, a_urlStart, a_urlLength, a_urlState, a_urlHost, a_urlTime, a_names, a_nameLength, a_hostDelay, a_hostNext, a_hostSent, a_rulePool, a_ruleStart, a_ruleLength, a_ruleHost, a1, a2, a3, a4)) (hc : cf_Sch t L c) (hE : cf_IE 4 t L (c + 3) he) (hH : cf_Ho t (c + 3) he) (hPO : cf_PO t L c he p (cf_po c v)) (hv : v ≤ 65535) (hpE : cf_IE 2 t L p pE) (hqE : cf_IE 1 t L pE qE) : wY_parse_714 post (nI c) (nI (cf_dp c)) (nI (c + 3)) (nI he) (nI v) (nI p) (nI pE) (nI qE) f_maxUrls f_defaultDelay f_clock (nI L) f_urlCount f_hostCount f_ruleCount 0 f_cHost f_cHostLen f_cPq 0 0 a_buffer a_urlPool a_urlStart a_urlLength a_urlState a_urlHost a_urlTime a_names a_nameLength a_hostDelay a_hostNext a_hostSent a_rulePool a_ruleStart a_ruleLength a_ruleHost a_ycanon a_dec a_segS a_segL := by
  have pp := cf_POl hE.2.1 hPO
  have c5 : c ≤ 5 := by have := hc.1; omega
  have he1 := hE.1
  have he2 := hE.2.1
  have he3 := hH.2.1
  have pE1 := hpE.1
  have pE2 := hpE.2.1
  have qE1 := hqE.1
  have qE2 := hqE.2.1
  unfold wY_parse_714
  refine cy_decode (m := 0) (D := []) pE1 (by omega) (Nat.zero_le _) hb ht (cf_K0 _) (fun h a n => br_t rfl (hN (fun c' he' p' pE' qE' po' D1' D2' w => ?_) _ _ _ _ _ _ _ _ _ _)) (fun D1 hD1 a4 hK4 => br_f (by decide) ?_)
  · rw [cf_w6 hc hE hPO hpE w] at h
    cases h
  have dd := cf_dcF ht (pE - p) p D1 (Nat.le_refl _) hD1
  have d1 := dd.1
  rw [Nat.zero_add, List.nil_append] at hK4
  rw [Nat.zero_add]
  refine cy_decode (m := D1.length) (D := D1) qE1 (by omega) (by omega) hb ht hK4 (fun h a n => br_t rfl (hN (fun c' he' p' pE' qE' po' D1' D2' w => ?_) _ _ _ _ _ _ _ _ _ _)) (fun D2 hD2 a5 hK5 => br_f (by decide) ⟨c + 1, ?_⟩)
  · rw [cf_w8 hc hE hPO hpE hqE w] at h
    cases h
  have ps : cf_PS t L c he p pE qE (cf_po c v) D1 D2 := ⟨hc, hE, hH, hPO, hpE, hD1, hqE, hD2⟩
  have bo := cf_outB ht hL ps
  have f1 := (cf_dcF ht (qE - pE) pE D2 (Nat.le_refl _) hD2).1
  have eh : cf_sb (fun j => cf_lo (t j)) 0 (c + 3) ++ cf_sb (fun j => cf_lo (t j)) (c + 3) (he - (c + 3)) = cf_sb (fun j => cf_lo (t j)) 0 he := by
    have q := cf_sbA (fun j => cf_lo (t j)) 0 (c + 3) (he - (c + 3))
    rw [Nat.zero_add, show c + 3 + (he - (c + 3)) = he by omega] at q
    exact q.symm
  have en : c + 3 + (he - (c + 3)) = he := by omega
  refine cy_749 hb ht c5 hc.2.2.2.2.2.2.2.1 hc.2.2.2.2.2.2.2.2.1 hc.2.2.2.2.2.2.2.2.2 he1 (fun a6 hK6 => ⟨he - (c + 3) + 1, cy_817 (c := c) (v := v) (hs := c + 3) (he := he) (n0 := c + 3) (l := cf_sb (fun j => cf_lo (t j)) 0 (c + 3)) hb ht (by omega) hv (by omega) (fun a7 hK7 => ?_) (he - (c + 3)) 0 _ a6 (by omega) (by omega) ?_⟩) c 0 _ a_ycanon (Nat.zero_add _) (by omega) (cf_K0 _)
  · rw [eh, en] at hK7
    rw [en]
    refine cy_867 (D1 := D1) (D2 := D2) hK5 dd.2 (by omega) (by omega) (by omega) hK7 (fun a8 ss sl m hK8 => ?_)
    have g := hY c he p pE qE (cf_po c v) D1 D2 ps a8 a5 ss sl
    rw [cf_outL] at g
    exact g _ _ hK8
  · show cf_K a6 _ (_ ++ [])
    rw [List.append_nil]
    exact hK6
end
end
section
/-! the reference: parse, its first half -/
theorem cf_noPO {t : Nat → Nat} {L c he p p' : Nat} {po' : List Nat} (h : he < L ∧ t he = 58) (hp : cf_IE 3 t L (he + 1) p) (w : cf_PO t L c he p' po') : cf_Po t L (he + 1) p := by
  rcases w with ⟨w, -, -⟩ | ⟨-, w, -⟩
  · exact absurd h w
  · have e := cf_IEu w.1 hp
    subst e
    exact w
theorem cf_rk1 {c : Nat} (h : cf_rk 1 c) : c = 35 := by unfold cf_rk at h; omega
theorem cf_rk2 {c : Nat} : cf_rk 2 c ↔ c = 63 ∨ c = 35 := by unfold cf_rk; omega
theorem cf_rk3 {c : Nat} : cf_rk 3 c ↔ c = 47 ∨ c = 63 ∨ c = 35 := by unfold cf_rk; omega
theorem cf_rk4 {c : Nat} : cf_rk 4 c ↔ c = 58 ∨ c = 47 ∨ c = 63 ∨ c = 35 := by unfold cf_rk; omega
theorem cf_up1 {P : Nat → Prop} {i k : Nat} (h : ∀ j, i ≤ j → j < k → P j) (hk : P k) : ∀ j, i ≤ j → j < k + 1 → P j := by
  intro j h1 h2
  rcases Nat.lt_or_ge j k with y | y
  · exact h j h1 y
  · have e : j = k := by omega
    rw [e]
    exact hk
section
variable {f_maxUrls f_defaultDelay f_clock f_bufferLength f_urlCount f_hostCount f_ruleCount f_cLen f_cHost f_cHostLen f_cPq f_decLen f_segN : Int32} {a_buffer a_urlPool a_urlStart a_urlLength a_urlState a_urlHost a_urlTime a_names a_nameLength a_hostDelay a_hostNext a_hostSent a_rulePool a_ruleStart a_ruleLength a_ruleHost a_ycanon a_dec a_segS a_segL : Nat → Int32}
variable {t : Nat → Nat} {L : Nat}
theorem cy_691 {post : Int32 → SY → Prop} {c he p pE qE v : Nat} (hL : L ≤ 48) (hb : ∀ j, a_buffer j = nI (t j)) (ht : ∀ j, t j ≤ 126) (hN : (∀ c he p pE qE po D1 D2, ¬ cf_PS t L c he p pE qE po D1 D2) → ∀ a1 a2 a3 a4 n1 n2 n3 n4 n5 n6, post 0 (f_maxUrls, f_defaultDelay, f_clock, nI L, f_urlCount, f_hostCount, f_ruleCount, n1, n2, n3, n4, n5, n6, a_buffer, a_urlPool, a_urlStart, a_urlLength, a_urlState, a_urlHost, a_urlTime, a_names, a_nameLength, a_hostDelay, a_hostNext, a_hostSent, a_rulePool, a_ruleStart, a_ruleLength, a_ruleHost, a1, a2, a3, a4)) (hY : ∀ c he p pE qE po D1 D2, cf_PS t L c he p pE qE po D1 D2 → ∀ a1 a2 a3 a4 n5 n6, cf_K a1 (cf_out t he po D1 D2).length (cf_out t he po D1 D2) → post 1 (f_maxUrls, f_defaultDelay, f_clock, nI L, f_urlCount, f_hostCount, f_ruleCount, nI (cf_out t he po D1 D2).length, nI (c + 3), nI (he - (c + 3)), nI (he + po.length), n5, n6, a_buffer, a_urlPool, a_urlStart, a_urlLength, a_urlState, a_urlHost, a_urlTime, a_names, a_nameLength, a_hostDelay, a_hostNext, a_hostSent, a_rulePool, a_ruleStart, a_ruleLength, a_ruleHost, a1, a2, a3, a4)) (hc : cf_Sch t L c) (hE : cf_IE 4 t L (c + 3) he) (hH : cf_Ho t (c + 3) he) (hPO : cf_PO t L c he p (cf_po c v)) (hv : v ≤ 65535) (hpE : cf_IE 2 t L p pE) (hqE : cf_IE 1 t L pE qE) : wY_parse_691 post (nI c) (nI (cf_dp c)) (nI (c + 3)) (nI he) (nI v) (nI p) (nI pE) (nI qE) f_maxUrls f_defaultDelay f_clock (nI L) f_urlCount f_hostCount f_ruleCount 0 f_cHost f_cHostLen f_cPq 0 0 a_buffer a_urlPool a_urlStart a_urlLength a_urlState a_urlHost a_urlTime a_names a_nameLength a_hostDelay a_hostNext a_hostSent a_rulePool a_ruleStart a_ruleLength a_ruleHost a_ycanon a_dec a_segS a_segL := by
  have q2 := hqE.2.1
  have go : wY_parse_714 post (nI c) (nI (cf_dp c)) (nI (c + 3)) (nI he) (nI v) (nI p) (nI pE) (nI qE) f_maxUrls f_defaultDelay f_clock (nI L) f_urlCount f_hostCount f_ruleCount 0 f_cHost f_cHostLen f_cPq 0 0 a_buffer a_urlPool a_urlStart a_urlLength a_urlState a_urlHost a_urlTime a_names a_nameLength a_hostDelay a_hostNext a_hostSent a_rulePool a_ruleStart a_ruleLength a_ruleHost a_ycanon a_dec a_segS a_segL := cy_714 hL hb ht hN hY hc hE hH hPO hv hpE hqE
  exact pk_le L qE (fun _ => go) (fun z => ⟨pk_in qE 48 (by omega), cf_eqc (t qE) 35 (cf_rd hb qE) (by have := ht qE; omega) (fun _ => go) (fun w => absurd (cf_rk1 (hqE.2.2.2 z)) w)⟩)
theorem cy_657 {post : Int32 → SY → Prop} {c he p pE v : Nat} (hL : L ≤ 48) (hb : ∀ j, a_buffer j = nI (t j)) (ht : ∀ j, t j ≤ 126) (hN : (∀ c he p pE qE po D1 D2, ¬ cf_PS t L c he p pE qE po D1 D2) → ∀ a1 a2 a3 a4 n1 n2 n3 n4 n5 n6, post 0 (f_maxUrls, f_defaultDelay, f_clock, nI L, f_urlCount, f_hostCount, f_ruleCount, n1, n2, n3, n4, n5, n6, a_buffer, a_urlPool, a_urlStart, a_urlLength, a_urlState, a_urlHost, a_urlTime, a_names, a_nameLength, a_hostDelay, a_hostNext, a_hostSent, a_rulePool, a_ruleStart, a_ruleLength, a_ruleHost, a1, a2, a3, a4)) (hY : ∀ c he p pE qE po D1 D2, cf_PS t L c he p pE qE po D1 D2 → ∀ a1 a2 a3 a4 n5 n6, cf_K a1 (cf_out t he po D1 D2).length (cf_out t he po D1 D2) → post 1 (f_maxUrls, f_defaultDelay, f_clock, nI L, f_urlCount, f_hostCount, f_ruleCount, nI (cf_out t he po D1 D2).length, nI (c + 3), nI (he - (c + 3)), nI (he + po.length), n5, n6, a_buffer, a_urlPool, a_urlStart, a_urlLength, a_urlState, a_urlHost, a_urlTime, a_names, a_nameLength, a_hostDelay, a_hostNext, a_hostSent, a_rulePool, a_ruleStart, a_ruleLength, a_ruleHost, a1, a2, a3, a4)) (hc : cf_Sch t L c) (hE : cf_IE 4 t L (c + 3) he) (hH : cf_Ho t (c + 3) he) (hPO : cf_PO t L c he p (cf_po c v)) (hv : v ≤ 65535) (hpE : cf_IE 2 t L p pE) : ∀ d k f, k + d = L → d < f → pE ≤ k → (∀ j, pE ≤ j → j < k → ¬ cf_rk 1 (t j)) → wY_parse_657 post (nI c) (nI (cf_dp c)) (nI (c + 3)) (nI he) (nI v) (nI p) (nI pE) (nI L) f_maxUrls f_defaultDelay f_clock (nI L) f_urlCount f_hostCount f_ruleCount 0 f_cHost f_cHostLen f_cPq 0 0 a_buffer a_urlPool a_urlStart a_urlLength a_urlState a_urlHost a_urlTime a_names a_nameLength a_hostDelay a_hostNext a_hostSent a_rulePool a_ruleStart a_ruleLength a_ruleHost a_ycanon a_dec a_segS a_segL f (nI k) := by
  intro d
  induction d with
  | zero =>
    intro k f hk hf hpk hj
    have e : k = L := by omega
    subst e
    cases f with
    | zero => omega
    | succ f => exact pk_le k k (fun _ => cy_691 hL hb ht hN hY hc hE hH hPO hv hpE ⟨hpk, Nat.le_refl _, hj, fun z => by omega⟩) (fun z => by omega)
  | succ d ih =>
    intro k f hk hf hpk hj
    cases f with
    | zero => omega
    | succ f =>
      refine pk_le L k (fun z => by omega) (fun z => ⟨pk_in k 48 (by omega), cf_eqc (t k) 35 (cf_rd hb k) (by have := ht k; omega) (fun y => cy_691 hL hb ht hN hY hc hE hH hPO hv hpE ⟨hpk, by omega, hj, fun _ => Or.inl y⟩) (fun y => nm_r (nI_1 k) (ih (k + 1) f (by omega) (by omega) (by omega) (cf_up1 hj (fun w => y (cf_rk1 w)))))⟩)
theorem cy_622 {post : Int32 → SY → Prop} {c he p pE v : Nat} (hL : L ≤ 48) (hb : ∀ j, a_buffer j = nI (t j)) (ht : ∀ j, t j ≤ 126) (hN : (∀ c he p pE qE po D1 D2, ¬ cf_PS t L c he p pE qE po D1 D2) → ∀ a1 a2 a3 a4 n1 n2 n3 n4 n5 n6, post 0 (f_maxUrls, f_defaultDelay, f_clock, nI L, f_urlCount, f_hostCount, f_ruleCount, n1, n2, n3, n4, n5, n6, a_buffer, a_urlPool, a_urlStart, a_urlLength, a_urlState, a_urlHost, a_urlTime, a_names, a_nameLength, a_hostDelay, a_hostNext, a_hostSent, a_rulePool, a_ruleStart, a_ruleLength, a_ruleHost, a1, a2, a3, a4)) (hY : ∀ c he p pE qE po D1 D2, cf_PS t L c he p pE qE po D1 D2 → ∀ a1 a2 a3 a4 n5 n6, cf_K a1 (cf_out t he po D1 D2).length (cf_out t he po D1 D2) → post 1 (f_maxUrls, f_defaultDelay, f_clock, nI L, f_urlCount, f_hostCount, f_ruleCount, nI (cf_out t he po D1 D2).length, nI (c + 3), nI (he - (c + 3)), nI (he + po.length), n5, n6, a_buffer, a_urlPool, a_urlStart, a_urlLength, a_urlState, a_urlHost, a_urlTime, a_names, a_nameLength, a_hostDelay, a_hostNext, a_hostSent, a_rulePool, a_ruleStart, a_ruleLength, a_ruleHost, a1, a2, a3, a4)) (hc : cf_Sch t L c) (hE : cf_IE 4 t L (c + 3) he) (hH : cf_Ho t (c + 3) he) (hPO : cf_PO t L c he p (cf_po c v)) (hv : v ≤ 65535) (hpE : cf_IE 2 t L p pE) : wY_parse_622 post (nI c) (nI (cf_dp c)) (nI (c + 3)) (nI he) (nI v) (nI p) (nI pE) f_maxUrls f_defaultDelay f_clock (nI L) f_urlCount f_hostCount f_ruleCount 0 f_cHost f_cHostLen f_cPq 0 0 a_buffer a_urlPool a_urlStart a_urlLength a_urlState a_urlHost a_urlTime a_names a_nameLength a_hostDelay a_hostNext a_hostSent a_rulePool a_ruleStart a_ruleLength a_ruleHost a_ycanon a_dec a_segS a_segL := by
  have p2 := hpE.2.1
  exact pk_le L pE (fun z => cy_691 hL hb ht hN hY hc hE hH hPO hv hpE (cf_IEp p2 (fun y => by omega))) (fun z => ⟨pk_in pE 48 (by omega), cf_eqc (t pE) 63 (cf_rd hb pE) (by have := ht pE; omega) (fun y => ⟨L - pE + 1, cy_657 hL hb ht hN hY hc hE hH hPO hv hpE (L - pE) pE _ (by omega) (by omega) (Nat.le_refl _) (fun j h1 h2 => by omega)⟩) (fun y => cy_691 hL hb ht hN hY hc hE hH hPO hv hpE (cf_IEp p2 (fun _ => Or.inl ((cf_rk2.mp (hpE.2.2.2 z)).resolve_left y))))⟩)
theorem cy_576 {post : Int32 → SY → Prop} {c he p v : Nat} (hL : L ≤ 48) (hb : ∀ j, a_buffer j = nI (t j)) (ht : ∀ j, t j ≤ 126) (hN : (∀ c he p pE qE po D1 D2, ¬ cf_PS t L c he p pE qE po D1 D2) → ∀ a1 a2 a3 a4 n1 n2 n3 n4 n5 n6, post 0 (f_maxUrls, f_defaultDelay, f_clock, nI L, f_urlCount, f_hostCount, f_ruleCount, n1, n2, n3, n4, n5, n6, a_buffer, a_urlPool, a_urlStart, a_urlLength, a_urlState, a_urlHost, a_urlTime, a_names, a_nameLength, a_hostDelay, a_hostNext, a_hostSent, a_rulePool, a_ruleStart, a_ruleLength, a_ruleHost, a1, a2, a3, a4)) (hY : ∀ c he p pE qE po D1 D2, cf_PS t L c he p pE qE po D1 D2 → ∀ a1 a2 a3 a4 n5 n6, cf_K a1 (cf_out t he po D1 D2).length (cf_out t he po D1 D2) → post 1 (f_maxUrls, f_defaultDelay, f_clock, nI L, f_urlCount, f_hostCount, f_ruleCount, nI (cf_out t he po D1 D2).length, nI (c + 3), nI (he - (c + 3)), nI (he + po.length), n5, n6, a_buffer, a_urlPool, a_urlStart, a_urlLength, a_urlState, a_urlHost, a_urlTime, a_names, a_nameLength, a_hostDelay, a_hostNext, a_hostSent, a_rulePool, a_ruleStart, a_ruleLength, a_ruleHost, a1, a2, a3, a4)) (hc : cf_Sch t L c) (hE : cf_IE 4 t L (c + 3) he) (hH : cf_Ho t (c + 3) he) (hPO : cf_PO t L c he p (cf_po c v)) (hv : v ≤ 65535) : ∀ d k f, k + d = L → d < f → p ≤ k → (∀ j, p ≤ j → j < k → ¬ cf_rk 2 (t j)) → wY_parse_576 post (nI c) (nI (cf_dp c)) (nI (c + 3)) (nI he) (nI v) (nI p) (nI L) f_maxUrls f_defaultDelay f_clock (nI L) f_urlCount f_hostCount f_ruleCount 0 f_cHost f_cHostLen f_cPq 0 0 a_buffer a_urlPool a_urlStart a_urlLength a_urlState a_urlHost a_urlTime a_names a_nameLength a_hostDelay a_hostNext a_hostSent a_rulePool a_ruleStart a_ruleLength a_ruleHost a_ycanon a_dec a_segS a_segL f (nI k) := by
  intro d
  induction d with
  | zero =>
    intro k f hk hf hpk hj
    have e : k = L := by omega
    subst e
    cases f with
    | zero => omega
    | succ f => exact pk_le k k (fun _ => cy_622 hL hb ht hN hY hc hE hH hPO hv ⟨hpk, Nat.le_refl _, hj, fun z => by omega⟩) (fun z => by omega)
  | succ d ih =>
    intro k f hk hf hpk hj
    cases f with
    | zero => omega
    | succ f =>
      have tb := ht k
      have go : cf_rk 2 (t k) → wY_parse_609 post (nI c) (nI (cf_dp c)) (nI (c + 3)) (nI he) (nI v) (nI p) (nI k) f_maxUrls f_defaultDelay f_clock (nI L) f_urlCount f_hostCount f_ruleCount 0 f_cHost f_cHostLen f_cPq 0 0 a_buffer a_urlPool a_urlStart a_urlLength a_urlState a_urlHost a_urlTime a_names a_nameLength a_hostDelay a_hostNext a_hostSent a_rulePool a_ruleStart a_ruleLength a_ruleHost a_ycanon a_dec a_segS a_segL := fun r => cy_622 hL hb ht hN hY hc hE hH hPO hv ⟨hpk, by omega, hj, fun _ => r⟩
      exact pk_le L k (fun z => by omega) (fun z => ⟨pk_in k 48 (by omega), cf_eqc (t k) 63 (cf_rd hb k) (by omega) (fun y => go (cf_rk2.mpr (Or.inl y))) (fun y => ⟨pk_in k 48 (by omega), cf_eqc (t k) 35 (cf_rd hb k) (by omega) (fun y2 => go (cf_rk2.mpr (Or.inr y2))) (fun y2 => nm_r (nI_1 k) (ih (k + 1) f (by omega) (by omega) (by omega) (cf_up1 hj (fun w => (cf_rk2.mp w).elim y y2))))⟩)⟩)
theorem cy_541 {post : Int32 → SY → Prop} {c he p v : Nat} (hL : L ≤ 48) (hb : ∀ j, a_buffer j = nI (t j)) (ht : ∀ j, t j ≤ 126) (hN : (∀ c he p pE qE po D1 D2, ¬ cf_PS t L c he p pE qE po D1 D2) → ∀ a1 a2 a3 a4 n1 n2 n3 n4 n5 n6, post 0 (f_maxUrls, f_defaultDelay, f_clock, nI L, f_urlCount, f_hostCount, f_ruleCount, n1, n2, n3, n4, n5, n6, a_buffer, a_urlPool, a_urlStart, a_urlLength, a_urlState, a_urlHost, a_urlTime, a_names, a_nameLength, a_hostDelay, a_hostNext, a_hostSent, a_rulePool, a_ruleStart, a_ruleLength, a_ruleHost, a1, a2, a3, a4)) (hY : ∀ c he p pE qE po D1 D2, cf_PS t L c he p pE qE po D1 D2 → ∀ a1 a2 a3 a4 n5 n6, cf_K a1 (cf_out t he po D1 D2).length (cf_out t he po D1 D2) → post 1 (f_maxUrls, f_defaultDelay, f_clock, nI L, f_urlCount, f_hostCount, f_ruleCount, nI (cf_out t he po D1 D2).length, nI (c + 3), nI (he - (c + 3)), nI (he + po.length), n5, n6, a_buffer, a_urlPool, a_urlStart, a_urlLength, a_urlState, a_urlHost, a_urlTime, a_names, a_nameLength, a_hostDelay, a_hostNext, a_hostSent, a_rulePool, a_ruleStart, a_ruleLength, a_ruleHost, a1, a2, a3, a4)) (hc : cf_Sch t L c) (hE : cf_IE 4 t L (c + 3) he) (hH : cf_Ho t (c + 3) he) (hPO : cf_PO t L c he p (cf_po c v)) (hv : v ≤ 65535) : wY_parse_541 post (nI c) (nI (cf_dp c)) (nI (c + 3)) (nI he) (nI v) (nI p) f_maxUrls f_defaultDelay f_clock (nI L) f_urlCount f_hostCount f_ruleCount 0 f_cHost f_cHostLen f_cPq 0 0 a_buffer a_urlPool a_urlStart a_urlLength a_urlState a_urlHost a_urlTime a_names a_nameLength a_hostDelay a_hostNext a_hostSent a_rulePool a_ruleStart a_ruleLength a_ruleHost a_ycanon a_dec a_segS a_segL := by
  have p2 := (cf_POl hE.2.1 hPO).2.1
  refine pk_le L p (fun z => cy_622 hL hb ht hN hY hc hE hH hPO hv (cf_IEp p2 (fun y => by omega))) (fun z => ⟨pk_in p 48 (by omega), cf_eqc (t p) 47 (cf_rd hb p) (by have := ht p; omega) (fun y => ⟨L - p + 1, cy_576 hL hb ht hN hY hc hE hH hPO hv (L - p) p _ (by omega) (by omega) (Nat.le_refl _) (fun j h1 h2 => by omega)⟩) (fun y => cy_622 hL hb ht hN hY hc hE hH hPO hv (cf_IEp p2 (fun _ => cf_rk2.mpr ((cf_PSq hE hPO z).resolve_left y))))⟩)
theorem cy_481 {post : Int32 → SY → Prop} {c he p : Nat} (hL : L ≤ 48) (hb : ∀ j, a_buffer j = nI (t j)) (ht : ∀ j, t j ≤ 126) (hN : (∀ c he p pE qE po D1 D2, ¬ cf_PS t L c he p pE qE po D1 D2) → ∀ a1 a2 a3 a4 n1 n2 n3 n4 n5 n6, post 0 (f_maxUrls, f_defaultDelay, f_clock, nI L, f_urlCount, f_hostCount, f_ruleCount, n1, n2, n3, n4, n5, n6, a_buffer, a_urlPool, a_urlStart, a_urlLength, a_urlState, a_urlHost, a_urlTime, a_names, a_nameLength, a_hostDelay, a_hostNext, a_hostSent, a_rulePool, a_ruleStart, a_ruleLength, a_ruleHost, a1, a2, a3, a4)) (hY : ∀ c he p pE qE po D1 D2, cf_PS t L c he p pE qE po D1 D2 → ∀ a1 a2 a3 a4 n5 n6, cf_K a1 (cf_out t he po D1 D2).length (cf_out t he po D1 D2) → post 1 (f_maxUrls, f_defaultDelay, f_clock, nI L, f_urlCount, f_hostCount, f_ruleCount, nI (cf_out t he po D1 D2).length, nI (c + 3), nI (he - (c + 3)), nI (he + po.length), n5, n6, a_buffer, a_urlPool, a_urlStart, a_urlLength, a_urlState, a_urlHost, a_urlTime, a_names, a_nameLength, a_hostDelay, a_hostNext, a_hostSent, a_rulePool, a_ruleStart, a_ruleLength, a_ruleHost, a1, a2, a3, a4)) (hc : cf_Sch t L c) (hE : cf_IE 4 t L (c + 3) he) (hH : cf_Ho t (c + 3) he) (h58 : he < L ∧ t he = 58) (hp : cf_IE 3 t L (he + 1) p) (h1 : he + 1 + 1 ≤ p) (h5 : p ≤ he + 1 + 5) : ∀ d k f, he + 1 + k + d = p → d < f → (∀ j, he + 1 ≤ j → j < he + 1 + k → 48 ≤ t j ∧ t j ≤ 57) → wY_parse_481 post (nI c) (nI (cf_dp c)) (nI (c + 3)) (nI he) (nI p) f_maxUrls f_defaultDelay f_clock (nI L) f_urlCount f_hostCount f_ruleCount 0 f_cHost f_cHostLen f_cPq 0 0 a_buffer a_urlPool a_urlStart a_urlLength a_urlState a_urlHost a_urlTime a_names a_nameLength a_hostDelay a_hostNext a_hostSent a_rulePool a_ruleStart a_ruleLength a_ruleHost a_ycanon a_dec a_segS a_segL f (nI (cf_pv t (he + 1) k)) (nI (he + 1 + k)) := by
  have p2 := hp.2.1
  intro d
  induction d with
  | zero =>
    intro k f hk hf hj
    have e : p - (he + 1) = k := by omega
    cases f with
    | zero => omega
    | succ f =>
      have b1 : cf_pv t (he + 1) k < 10 ^ k := cf_pvB k (fun j h => (hj (he + 1 + j) (by omega) (by omega)).2)
      have b2 : 10 ^ k ≤ 10 ^ 5 := Nat.pow_le_pow_right (by decide) (by omega)
      have hj' : ∀ j, he + 1 ≤ j → j < p → 48 ≤ t j ∧ t j ≤ 57 := fun j h1 h2 => hj j h1 (by omega)
      refine pk_le p (he + 1 + k) (fun _ => pk_le (cf_pv t (he + 1) k) 65535 (fun z => cy_541 hL hb ht hN hY hc hE hH (Or.inr ⟨h58, ⟨hp, h1, h5, hj', by rw [e]; exact z⟩, by rw [e]⟩) z) (fun z => hN (fun c' he' p' pE' qE' po' D1' D2' w => ?_) _ _ _ _ _ _ _ _ _ _)) (fun z => by omega)
      have q := (cf_noPO h58 hp (cf_w3 hc hE w).2).2.2.2.2
      rw [e] at q
      omega
  | succ d ih =>
    intro k f hk hf hj
    cases f with
    | zero => omega
    | succ f =>
      refine pk_le p (he + 1 + k) (fun z => by omega) (fun z => ⟨pk_in (he + 1 + k) 48 (by omega), cy_isDigit (t (he + 1 + k)) (cf_rd hb (he + 1 + k)) (by have := ht (he + 1 + k); omega) (fun c1 => br_f (by decide) ⟨pk_in (he + 1 + k) 48 (by omega), ?_⟩) (fun c1 => br_t rfl (hN (fun c' he' p' pE' qE' po' D1' D2' w => c1 ((cf_noPO h58 hp (cf_w3 hc hE w).2).2.2.2.1 (he + 1 + k) (by omega) (by omega))) _ _ _ _ _ _ _ _ _ _))⟩)
      have e : ((nI (cf_pv t (he + 1) k) * 10) + (a_buffer (nI (he + 1 + k)).toNatClampNeg)) - 48 = nI (cf_pv t (he + 1) (k + 1)) := by
        rw [cf_rd hb (he + 1 + k)]
        refine (congrArg (fun z => z + nI (t (he + 1 + k)) - 48) (pk_mul (cf_pv t (he + 1) k) 10)).trans ?_
        show nI (cf_pv t (he + 1) k * 10) + nI (t (he + 1 + k)) - nI 48 = _
        rw [nI_add, pk_sub (by omega)]
        refine congrArg nI ?_
        show _ = cf_pv t (he + 1) k * 10 + (t (he + 1 + k) - 48)
        omega
      exact nm_r e (nm_r (nI_1 (he + 1 + k)) (ih (k + 1) f (by omega) (by omega) (cf_up1 hj c1)))
theorem cy_448 {post : Int32 → SY → Prop} {c he p : Nat} (hL : L ≤ 48) (hb : ∀ j, a_buffer j = nI (t j)) (ht : ∀ j, t j ≤ 126) (hN : (∀ c he p pE qE po D1 D2, ¬ cf_PS t L c he p pE qE po D1 D2) → ∀ a1 a2 a3 a4 n1 n2 n3 n4 n5 n6, post 0 (f_maxUrls, f_defaultDelay, f_clock, nI L, f_urlCount, f_hostCount, f_ruleCount, n1, n2, n3, n4, n5, n6, a_buffer, a_urlPool, a_urlStart, a_urlLength, a_urlState, a_urlHost, a_urlTime, a_names, a_nameLength, a_hostDelay, a_hostNext, a_hostSent, a_rulePool, a_ruleStart, a_ruleLength, a_ruleHost, a1, a2, a3, a4)) (hY : ∀ c he p pE qE po D1 D2, cf_PS t L c he p pE qE po D1 D2 → ∀ a1 a2 a3 a4 n5 n6, cf_K a1 (cf_out t he po D1 D2).length (cf_out t he po D1 D2) → post 1 (f_maxUrls, f_defaultDelay, f_clock, nI L, f_urlCount, f_hostCount, f_ruleCount, nI (cf_out t he po D1 D2).length, nI (c + 3), nI (he - (c + 3)), nI (he + po.length), n5, n6, a_buffer, a_urlPool, a_urlStart, a_urlLength, a_urlState, a_urlHost, a_urlTime, a_names, a_nameLength, a_hostDelay, a_hostNext, a_hostSent, a_rulePool, a_ruleStart, a_ruleLength, a_ruleHost, a1, a2, a3, a4)) (hc : cf_Sch t L c) (hE : cf_IE 4 t L (c + 3) he) (hH : cf_Ho t (c + 3) he) (h58 : he < L ∧ t he = 58) (hp : cf_IE 3 t L (he + 1) p) : wY_parse_448 post (nI c) (nI (cf_dp c)) (nI (c + 3)) (nI he) (nI he) (nI p) f_maxUrls f_defaultDelay f_clock (nI L) f_urlCount f_hostCount f_ruleCount 0 f_cHost f_cHostLen f_cPq 0 0 a_buffer a_urlPool a_urlStart a_urlLength a_urlState a_urlHost a_urlTime a_names a_nameLength a_hostDelay a_hostNext a_hostSent a_rulePool a_ruleStart a_ruleLength a_ruleHost a_ycanon a_dec a_segS a_segL := by
  have p1 := hp.1
  have p2 := hp.2.1
  have es : (nI p - nI he) - 1 = nI (p - (he + 1)) := by
    rw [pk_sub (by omega)]
    refine (pk_sub (a := p - he) (b := 1) (by omega)).trans ?_
    exact congrArg nI (by omega)
  refine pk_lt (p - (he + 1)) 1 (fun z => hN (fun c' he' p' pE' qE' po' D1' D2' w => ?_) _ _ _ _ _ _ _ _ _ _) (fun z => pk_le (p - (he + 1)) 5 (fun z2 => nm_r (nI_1 he) ⟨p - (he + 1) + 1, cy_481 hL hb ht hN hY hc hE hH h58 hp (by omega) (by omega) (p - (he + 1)) 0 _ (by omega) (by omega) (fun j h1 h2 => by omega)⟩) (fun z2 => hN (fun c' he' p' pE' qE' po' D1' D2' w => ?_) _ _ _ _ _ _ _ _ _ _) es) es
  · have q := (cf_noPO h58 hp (cf_w3 hc hE w).2).2.1
    omega
  · have q := (cf_noPO h58 hp (cf_w3 hc hE w).2).2.2.1
    omega
theorem cy_396 {post : Int32 → SY → Prop} {c he : Nat} (hL : L ≤ 48) (hb : ∀ j, a_buffer j = nI (t j)) (ht : ∀ j, t j ≤ 126) (hN : (∀ c he p pE qE po D1 D2, ¬ cf_PS t L c he p pE qE po D1 D2) → ∀ a1 a2 a3 a4 n1 n2 n3 n4 n5 n6, post 0 (f_maxUrls, f_defaultDelay, f_clock, nI L, f_urlCount, f_hostCount, f_ruleCount, n1, n2, n3, n4, n5, n6, a_buffer, a_urlPool, a_urlStart, a_urlLength, a_urlState, a_urlHost, a_urlTime, a_names, a_nameLength, a_hostDelay, a_hostNext, a_hostSent, a_rulePool, a_ruleStart, a_ruleLength, a_ruleHost, a1, a2, a3, a4)) (hY : ∀ c he p pE qE po D1 D2, cf_PS t L c he p pE qE po D1 D2 → ∀ a1 a2 a3 a4 n5 n6, cf_K a1 (cf_out t he po D1 D2).length (cf_out t he po D1 D2) → post 1 (f_maxUrls, f_defaultDelay, f_clock, nI L, f_urlCount, f_hostCount, f_ruleCount, nI (cf_out t he po D1 D2).length, nI (c + 3), nI (he - (c + 3)), nI (he + po.length), n5, n6, a_buffer, a_urlPool, a_urlStart, a_urlLength, a_urlState, a_urlHost, a_urlTime, a_names, a_nameLength, a_hostDelay, a_hostNext, a_hostSent, a_rulePool, a_ruleStart, a_ruleLength, a_ruleHost, a1, a2, a3, a4)) (hc : cf_Sch t L c) (hE : cf_IE 4 t L (c + 3) he) (hH : cf_Ho t (c + 3) he) (h58 : he < L ∧ t he = 58) : ∀ d k f, k + d = L → d < f → he + 1 ≤ k → (∀ j, he + 1 ≤ j → j < k → ¬ cf_rk 3 (t j)) → wY_parse_396 post (nI c) (nI (cf_dp c)) (nI (c + 3)) (nI he) (nI he) (nI L) f_maxUrls f_defaultDelay f_clock (nI L) f_urlCount f_hostCount f_ruleCount 0 f_cHost f_cHostLen f_cPq 0 0 a_buffer a_urlPool a_urlStart a_urlLength a_urlState a_urlHost a_urlTime a_names a_nameLength a_hostDelay a_hostNext a_hostSent a_rulePool a_ruleStart a_ruleLength a_ruleHost a_ycanon a_dec a_segS a_segL f (nI k) := by
  intro d
  induction d with
  | zero =>
    intro k f hk hf hpk hj
    have e : k = L := by omega
    subst e
    cases f with
    | zero => omega
    | succ f => exact pk_le k k (fun _ => cy_448 hL hb ht hN hY hc hE hH h58 ⟨hpk, Nat.le_refl _, hj, fun z => by omega⟩) (fun z => by omega)
  | succ d ih =>
    intro k f hk hf hpk hj
    cases f with
    | zero => omega
    | succ f =>
      have tb := ht k
      have go : cf_rk 3 (t k) → wY_parse_435 post (nI c) (nI (cf_dp c)) (nI (c + 3)) (nI he) (nI he) (nI k) f_maxUrls f_defaultDelay f_clock (nI L) f_urlCount f_hostCount f_ruleCount 0 f_cHost f_cHostLen f_cPq 0 0 a_buffer a_urlPool a_urlStart a_urlLength a_urlState a_urlHost a_urlTime a_names a_nameLength a_hostDelay a_hostNext a_hostSent a_rulePool a_ruleStart a_ruleLength a_ruleHost a_ycanon a_dec a_segS a_segL := fun r => cy_448 hL hb ht hN hY hc hE hH h58 ⟨hpk, by omega, hj, fun _ => r⟩
      refine pk_le L k (fun z => by omega) (fun z => ⟨pk_in k 48 (by omega), nm_r (cf_rd hb k) (cf_eqc (t k) 47 rfl (by omega) (fun y => go (cf_rk3.mpr (Or.inl y))) (fun y => cf_eqc (t k) 63 rfl (by omega) (fun y2 => go (cf_rk3.mpr (Or.inr (Or.inl y2)))) (fun y2 => cf_eqc (t k) 35 rfl (by omega) (fun y3 => go (cf_rk3.mpr (Or.inr (Or.inr y3)))) (fun y3 => nm_r (nI_1 k) (ih (k + 1) f (by omega) (by omega) (by omega) (cf_up1 hj (fun w => (cf_rk3.mp w).elim y (fun w => w.elim y2 y3))))))))⟩)
theorem cy_291 {post : Int32 → SY → Prop} {c he : Nat} (hL : L ≤ 48) (hb : ∀ j, a_buffer j = nI (t j)) (ht : ∀ j, t j ≤ 126) (hN : (∀ c he p pE qE po D1 D2, ¬ cf_PS t L c he p pE qE po D1 D2) → ∀ a1 a2 a3 a4 n1 n2 n3 n4 n5 n6, post 0 (f_maxUrls, f_defaultDelay, f_clock, nI L, f_urlCount, f_hostCount, f_ruleCount, n1, n2, n3, n4, n5, n6, a_buffer, a_urlPool, a_urlStart, a_urlLength, a_urlState, a_urlHost, a_urlTime, a_names, a_nameLength, a_hostDelay, a_hostNext, a_hostSent, a_rulePool, a_ruleStart, a_ruleLength, a_ruleHost, a1, a2, a3, a4)) (hY : ∀ c he p pE qE po D1 D2, cf_PS t L c he p pE qE po D1 D2 → ∀ a1 a2 a3 a4 n5 n6, cf_K a1 (cf_out t he po D1 D2).length (cf_out t he po D1 D2) → post 1 (f_maxUrls, f_defaultDelay, f_clock, nI L, f_urlCount, f_hostCount, f_ruleCount, nI (cf_out t he po D1 D2).length, nI (c + 3), nI (he - (c + 3)), nI (he + po.length), n5, n6, a_buffer, a_urlPool, a_urlStart, a_urlLength, a_urlState, a_urlHost, a_urlTime, a_names, a_nameLength, a_hostDelay, a_hostNext, a_hostSent, a_rulePool, a_ruleStart, a_ruleLength, a_ruleHost, a1, a2, a3, a4)) (hc : cf_Sch t L c) (hE : cf_IE 4 t L (c + 3) he) (h1 : c + 3 + 1 ≤ he) (h16 : he ≤ c + 3 + 16) : ∀ d k f, k + d = he → d < f → c + 3 ≤ k → (∀ j, c + 3 ≤ j → j < k → cf_HC (t j)) → wY_parse_291 post (nI c) (nI (cf_dp c)) (nI (c + 3)) (nI he) f_maxUrls f_defaultDelay f_clock (nI L) f_urlCount f_hostCount f_ruleCount 0 f_cHost f_cHostLen f_cPq 0 0 a_buffer a_urlPool a_urlStart a_urlLength a_urlState a_urlHost a_urlTime a_names a_nameLength a_hostDelay a_hostNext a_hostSent a_rulePool a_ruleStart a_ruleLength a_ruleHost a_ycanon a_dec a_segS a_segL f (nI k) := by
  have he2 := hE.2.1
  intro d
  induction d with
  | zero =>
    intro k f hk hf hck hj
    have e : k = he := by omega
    subst e
    cases f with
    | zero => omega
    | succ f =>
      have hH : cf_Ho t (c + 3) k := ⟨h1, h16, hj⟩
      have b3 : cf_dp c ≤ 443 := by unfold cf_dp; split <;> omega
      have e0 : cf_po c (cf_dp c) = [] := by unfold cf_po; rw [if_pos rfl]
      have no : ¬ (k < L ∧ t k = 58) → wY_parse_541 post (nI c) (nI (cf_dp c)) (nI (c + 3)) (nI k) (nI (cf_dp c)) (nI k) f_maxUrls f_defaultDelay f_clock (nI L) f_urlCount f_hostCount f_ruleCount 0 f_cHost f_cHostLen f_cPq 0 0 a_buffer a_urlPool a_urlStart a_urlLength a_urlState a_urlHost a_urlTime a_names a_nameLength a_hostDelay a_hostNext a_hostSent a_rulePool a_ruleStart a_ruleLength a_ruleHost a_ycanon a_dec a_segS a_segL := fun w => cy_541 hL hb ht hN hY hc hE hH (Or.inl ⟨w, rfl, e0⟩) (by omega)
      exact pk_le k k (fun _ => pk_le L k (fun z => no (fun w => by omega)) (fun z => ⟨pk_in k 48 (by omega), cf_eqc (t k) 58 (cf_rd hb k) (by have := ht k; omega) (fun y => nm_r (nI_1 k) ⟨L - (k + 1) + 1, cy_396 hL hb ht hN hY hc hE hH ⟨z, y⟩ (L - (k + 1)) (k + 1) _ (by omega) (by omega) (Nat.le_refl _) (fun j h1 h2 => by omega)⟩) (fun y => no (fun w => y w.2))⟩)) (fun z => by omega)
  | succ d ih =>
    intro k f hk hf hck hj
    cases f with
    | zero => omega
    | succ f =>
      have lb := cf_loB (ht k)
      have go : cf_HC (t k) → wY_parse_291 post (nI c) (nI (cf_dp c)) (nI (c + 3)) (nI he) f_maxUrls f_defaultDelay f_clock (nI L) f_urlCount f_hostCount f_ruleCount 0 f_cHost f_cHostLen f_cPq 0 0 a_buffer a_urlPool a_urlStart a_urlLength a_urlState a_urlHost a_urlTime a_names a_nameLength a_hostDelay a_hostNext a_hostSent a_rulePool a_ruleStart a_ruleLength a_ruleHost a_ycanon a_dec a_segS a_segL f (nI (k + 1)) := fun h => ih (k + 1) f (by omega) (by omega) (by omega) (cf_up1 hj h)
      have f325 : ¬ (97 ≤ cf_lo (t k) ∧ cf_lo (t k) ≤ 122) → wY_parse_325 post (wY_parse_291 post (nI c) (nI (cf_dp c)) (nI (c + 3)) (nI he) f_maxUrls f_defaultDelay f_clock (nI L) f_urlCount f_hostCount f_ruleCount 0 f_cHost f_cHostLen f_cPq 0 0 a_buffer a_urlPool a_urlStart a_urlLength a_urlState a_urlHost a_urlTime a_names a_nameLength a_hostDelay a_hostNext a_hostSent a_rulePool a_ruleStart a_ruleLength a_ruleHost a_ycanon a_dec a_segS a_segL f) (nI c) (nI (cf_dp c)) (nI (c + 3)) (nI he) (nI k) (nI (cf_lo (t k))) f_maxUrls f_defaultDelay f_clock (nI L) f_urlCount f_hostCount f_ruleCount 0 f_cHost f_cHostLen f_cPq 0 0 a_buffer a_urlPool a_urlStart a_urlLength a_urlState a_urlHost a_urlTime a_names a_nameLength a_hostDelay a_hostNext a_hostSent a_rulePool a_ruleStart a_ruleLength a_ruleHost a_ycanon a_dec a_segS a_segL := by
        intro nl
        refine cy_isDigit (cf_lo (t k)) rfl (by omega) (fun y => br_f (by decide) (nm_r (nI_1 k) (go (cf_HCY.mpr (Or.inr (Or.inl y)))))) (fun y => br_t rfl (pk_eq (cf_lo (t k)) 45 (fun y1 => nm_r (nI_1 k) (go (cf_HCY.mpr (Or.inr (Or.inr (Or.inl y1)))))) (fun y1 => pk_eq (cf_lo (t k)) 46 (fun y2 => nm_r (nI_1 k) (go (cf_HCY.mpr (Or.inr (Or.inr (Or.inr y2)))))) (fun y2 => hN (fun c' he' p' pE' qE' po' D1' D2' w => ?_) _ _ _ _ _ _ _ _ _ _))))
        have q := (cf_w3 hc hE w).1.2.2 k hck (by omega)
        have q2 := cf_HCY.mp q
        omega
      exact pk_le he k (fun z => by omega) (fun z => ⟨pk_in k 48 (by omega), cy_low (t k) (cf_rd hb k) (ht k) (pk_lt (cf_lo (t k)) 97 (fun y => f325 (by omega)) (fun y => pk_le (cf_lo (t k)) 122 (fun y2 => nm_r (nI_1 k) (go (cf_HCY.mpr (Or.inl ⟨y, y2⟩)))) (fun y2 => f325 (by omega))))⟩)
theorem cy_269 {post : Int32 → SY → Prop} {c he : Nat} (hL : L ≤ 48) (hb : ∀ j, a_buffer j = nI (t j)) (ht : ∀ j, t j ≤ 126) (hN : (∀ c he p pE qE po D1 D2, ¬ cf_PS t L c he p pE qE po D1 D2) → ∀ a1 a2 a3 a4 n1 n2 n3 n4 n5 n6, post 0 (f_maxUrls, f_defaultDelay, f_clock, nI L, f_urlCount, f_hostCount, f_ruleCount, n1, n2, n3, n4, n5, n6, a_buffer, a_urlPool, a_urlStart, a_urlLength, a_urlState, a_urlHost, a_urlTime, a_names, a_nameLength, a_hostDelay, a_hostNext, a_hostSent, a_rulePool, a_ruleStart, a_ruleLength, a_ruleHost, a1, a2, a3, a4)) (hY : ∀ c he p pE qE po D1 D2, cf_PS t L c he p pE qE po D1 D2 → ∀ a1 a2 a3 a4 n5 n6, cf_K a1 (cf_out t he po D1 D2).length (cf_out t he po D1 D2) → post 1 (f_maxUrls, f_defaultDelay, f_clock, nI L, f_urlCount, f_hostCount, f_ruleCount, nI (cf_out t he po D1 D2).length, nI (c + 3), nI (he - (c + 3)), nI (he + po.length), n5, n6, a_buffer, a_urlPool, a_urlStart, a_urlLength, a_urlState, a_urlHost, a_urlTime, a_names, a_nameLength, a_hostDelay, a_hostNext, a_hostSent, a_rulePool, a_ruleStart, a_ruleLength, a_ruleHost, a1, a2, a3, a4)) (hc : cf_Sch t L c) (hE : cf_IE 4 t L (c + 3) he) : wY_parse_269 post (nI c) (nI (cf_dp c)) (nI (c + 3)) (nI he) f_maxUrls f_defaultDelay f_clock (nI L) f_urlCount f_hostCount f_ruleCount 0 f_cHost f_cHostLen f_cPq 0 0 a_buffer a_urlPool a_urlStart a_urlLength a_urlState a_urlHost a_urlTime a_names a_nameLength a_hostDelay a_hostNext a_hostSent a_rulePool a_ruleStart a_ruleLength a_ruleHost a_ycanon a_dec a_segS a_segL := by
  have he1 := hE.1
  have he2 := hE.2.1
  have es : nI he - nI (c + 3) = nI (he - (c + 3)) := pk_sub he1
  refine pk_lt (he - (c + 3)) 1 (fun z => hN (fun c' he' p' pE' qE' po' D1' D2' w => ?_) _ _ _ _ _ _ _ _ _ _) (fun z => pk_le (he - (c + 3)) 16 (fun z2 => ⟨he - (c + 3) + 1, cy_291 hL hb ht hN hY hc hE (by omega) (by omega) (he - (c + 3)) (c + 3) _ (by omega) (by omega) (Nat.le_refl _) (fun j h1 h2 => by omega)⟩) (fun z2 => hN (fun c' he' p' pE' qE' po' D1' D2' w => ?_) _ _ _ _ _ _ _ _ _ _) es) es
  · have q := (cf_w3 hc hE w).1.1
    omega
  · have q := (cf_w3 hc hE w).1.2.1
    omega
theorem cy_210 {post : Int32 → SY → Prop} {c : Nat} (hL : L ≤ 48) (hb : ∀ j, a_buffer j = nI (t j)) (ht : ∀ j, t j ≤ 126) (hN : (∀ c he p pE qE po D1 D2, ¬ cf_PS t L c he p pE qE po D1 D2) → ∀ a1 a2 a3 a4 n1 n2 n3 n4 n5 n6, post 0 (f_maxUrls, f_defaultDelay, f_clock, nI L, f_urlCount, f_hostCount, f_ruleCount, n1, n2, n3, n4, n5, n6, a_buffer, a_urlPool, a_urlStart, a_urlLength, a_urlState, a_urlHost, a_urlTime, a_names, a_nameLength, a_hostDelay, a_hostNext, a_hostSent, a_rulePool, a_ruleStart, a_ruleLength, a_ruleHost, a1, a2, a3, a4)) (hY : ∀ c he p pE qE po D1 D2, cf_PS t L c he p pE qE po D1 D2 → ∀ a1 a2 a3 a4 n5 n6, cf_K a1 (cf_out t he po D1 D2).length (cf_out t he po D1 D2) → post 1 (f_maxUrls, f_defaultDelay, f_clock, nI L, f_urlCount, f_hostCount, f_ruleCount, nI (cf_out t he po D1 D2).length, nI (c + 3), nI (he - (c + 3)), nI (he + po.length), n5, n6, a_buffer, a_urlPool, a_urlStart, a_urlLength, a_urlState, a_urlHost, a_urlTime, a_names, a_nameLength, a_hostDelay, a_hostNext, a_hostSent, a_rulePool, a_ruleStart, a_ruleLength, a_ruleHost, a1, a2, a3, a4)) (hc : cf_Sch t L c) : ∀ d k f, k + d = L → d < f → c + 3 ≤ k → (∀ j, c + 3 ≤ j → j < k → ¬ cf_rk 4 (t j)) → wY_parse_210 post (nI c) (nI (cf_dp c)) (nI (c + 3)) (nI L) f_maxUrls f_defaultDelay f_clock (nI L) f_urlCount f_hostCount f_ruleCount 0 f_cHost f_cHostLen f_cPq 0 0 a_buffer a_urlPool a_urlStart a_urlLength a_urlState a_urlHost a_urlTime a_names a_nameLength a_hostDelay a_hostNext a_hostSent a_rulePool a_ruleStart a_ruleLength a_ruleHost a_ycanon a_dec a_segS a_segL f (nI k) := by
  intro d
  induction d with
  | zero =>
    intro k f hk hf hpk hj
    have e : k = L := by omega
    subst e
    cases f with
    | zero => omega
    | succ f => exact pk_le k k (fun _ => cy_269 hL hb ht hN hY hc ⟨hpk, Nat.le_refl _, hj, fun z => by omega⟩) (fun z => by omega)
  | succ d ih =>
    intro k f hk hf hpk hj
    cases f with
    | zero => omega
    | succ f =>
      have tb := ht k
      have go : cf_rk 4 (t k) → wY_parse_256 post (nI c) (nI (cf_dp c)) (nI (c + 3)) (nI k) f_maxUrls f_defaultDelay f_clock (nI L) f_urlCount f_hostCount f_ruleCount 0 f_cHost f_cHostLen f_cPq 0 0 a_buffer a_urlPool a_urlStart a_urlLength a_urlState a_urlHost a_urlTime a_names a_nameLength a_hostDelay a_hostNext a_hostSent a_rulePool a_ruleStart a_ruleLength a_ruleHost a_ycanon a_dec a_segS a_segL := fun r => cy_269 hL hb ht hN hY hc ⟨hpk, by omega, hj, fun _ => r⟩
      refine pk_le L k (fun z => by omega) (fun z => ⟨pk_in k 48 (by omega), nm_r (cf_rd hb k) (cf_eqc (t k) 58 rfl (by omega) (fun y => go (cf_rk4.mpr (Or.inl y))) (fun y => cf_eqc (t k) 47 rfl (by omega) (fun y2 => go (cf_rk4.mpr (Or.inr (Or.inl y2)))) (fun y2 => cf_eqc (t k) 63 rfl (by omega) (fun y3 => go (cf_rk4.mpr (Or.inr (Or.inr (Or.inl y3))))) (fun y3 => cf_eqc (t k) 35 rfl (by omega) (fun y4 => go (cf_rk4.mpr (Or.inr (Or.inr (Or.inr y4))))) (fun y4 => nm_r (nI_1 k) (ih (k + 1) f (by omega) (by omega) (by omega) (cf_up1 hj (fun w => (cf_rk4.mp w).elim y (fun w => w.elim y2 (fun w => w.elim y3 y4))))))))))⟩)
theorem cy_158 {post : Int32 → SY → Prop} {c : Nat} (hL : L ≤ 48) (hb : ∀ j, a_buffer j = nI (t j)) (ht : ∀ j, t j ≤ 126) (hN : (∀ c he p pE qE po D1 D2, ¬ cf_PS t L c he p pE qE po D1 D2) → ∀ a1 a2 a3 a4 n1 n2 n3 n4 n5 n6, post 0 (f_maxUrls, f_defaultDelay, f_clock, nI L, f_urlCount, f_hostCount, f_ruleCount, n1, n2, n3, n4, n5, n6, a_buffer, a_urlPool, a_urlStart, a_urlLength, a_urlState, a_urlHost, a_urlTime, a_names, a_nameLength, a_hostDelay, a_hostNext, a_hostSent, a_rulePool, a_ruleStart, a_ruleLength, a_ruleHost, a1, a2, a3, a4)) (hY : ∀ c he p pE qE po D1 D2, cf_PS t L c he p pE qE po D1 D2 → ∀ a1 a2 a3 a4 n5 n6, cf_K a1 (cf_out t he po D1 D2).length (cf_out t he po D1 D2) → post 1 (f_maxUrls, f_defaultDelay, f_clock, nI L, f_urlCount, f_hostCount, f_ruleCount, nI (cf_out t he po D1 D2).length, nI (c + 3), nI (he - (c + 3)), nI (he + po.length), n5, n6, a_buffer, a_urlPool, a_urlStart, a_urlLength, a_urlState, a_urlHost, a_urlTime, a_names, a_nameLength, a_hostDelay, a_hostNext, a_hostSent, a_rulePool, a_ruleStart, a_ruleLength, a_ruleHost, a1, a2, a3, a4)) (hu : ∀ c', cf_Sch t L c' → c' = c) (h5 : c ≤ 5) (hs : c + 2 < L → t (c + 1) = 47 → t (c + 2) = 47 → cf_Sch t L c) : wY_parse_158 post (nI c) (nI (cf_dp c)) f_maxUrls f_defaultDelay f_clock (nI L) f_urlCount f_hostCount f_ruleCount 0 f_cHost f_cHostLen f_cPq 0 0 a_buffer a_urlPool a_urlStart a_urlLength a_urlState a_urlHost a_urlTime a_names a_nameLength a_hostDelay a_hostNext a_hostSent a_rulePool a_ruleStart a_ruleLength a_ruleHost a_ycanon a_dec a_segS a_segL := by
  refine pk_le L (c + 2) (fun z => hN (fun c' he' p' pE' qE' po' D1' D2' w => ?_) _ _ _ _ _ _ _ _ _ _) (fun z => ⟨pk_in (c + 1) 48 (by omega) (nI_1 c), cf_eqc (t (c + 1)) 47 (cf_rd hb (c + 1) (nI_1 c)) (by have := ht (c + 1); omega) (fun y => ⟨pk_in (c + 2) 48 (by omega) (nI_add c 2), cf_eqc (t (c + 2)) 47 (cf_rd hb (c + 2) (nI_add c 2)) (by have := ht (c + 2); omega) (fun y2 => nm_r (nI_add c 3) ⟨L - (c + 3) + 1, cy_210 hL hb ht hN hY (hs z y y2) (L - (c + 3)) (c + 3) _ (by omega) (by omega) (Nat.le_refl _) (fun j h1 h2 => by omega)⟩) (fun y2 => hN (fun c' he' p' pE' qE' po' D1' D2' w => ?_) _ _ _ _ _ _ _ _ _ _)⟩) (fun y => hN (fun c' he' p' pE' qE' po' D1' D2' w => ?_) _ _ _ _ _ _ _ _ _ _)⟩) rfl (nI_add c 2)
  · have e := hu c' w.1
    have q := w.1.2.1
    omega
  · have e := hu c' w.1
    have q := w.1.2.2.2.2.2.2.2.2.2
    rw [e] at q
    exact y2 q
  · have e := hu c' w.1
    have q := w.1.2.2.2.2.2.2.2.2.1
    rw [e] at q
    exact y q
theorem cy_145 {post : Int32 → SY → Prop} {c : Nat} (hL : L ≤ 48) (hb : ∀ j, a_buffer j = nI (t j)) (ht : ∀ j, t j ≤ 126) (hN : (∀ c he p pE qE po D1 D2, ¬ cf_PS t L c he p pE qE po D1 D2) → ∀ a1 a2 a3 a4 n1 n2 n3 n4 n5 n6, post 0 (f_maxUrls, f_defaultDelay, f_clock, nI L, f_urlCount, f_hostCount, f_ruleCount, n1, n2, n3, n4, n5, n6, a_buffer, a_urlPool, a_urlStart, a_urlLength, a_urlState, a_urlHost, a_urlTime, a_names, a_nameLength, a_hostDelay, a_hostNext, a_hostSent, a_rulePool, a_ruleStart, a_ruleLength, a_ruleHost, a1, a2, a3, a4)) (hY : ∀ c he p pE qE po D1 D2, cf_PS t L c he p pE qE po D1 D2 → ∀ a1 a2 a3 a4 n5 n6, cf_K a1 (cf_out t he po D1 D2).length (cf_out t he po D1 D2) → post 1 (f_maxUrls, f_defaultDelay, f_clock, nI L, f_urlCount, f_hostCount, f_ruleCount, nI (cf_out t he po D1 D2).length, nI (c + 3), nI (he - (c + 3)), nI (he + po.length), n5, n6, a_buffer, a_urlPool, a_urlStart, a_urlLength, a_urlState, a_urlHost, a_urlTime, a_names, a_nameLength, a_hostDelay, a_hostNext, a_hostSent, a_rulePool, a_ruleStart, a_ruleLength, a_ruleHost, a1, a2, a3, a4)) (hu : ∀ c', cf_Sch t L c' → c' = c) (h45 : c = 4 ∨ c = 5) (hs : c + 2 < L → t (c + 1) = 47 → t (c + 2) = 47 → cf_Sch t L c) : wY_parse_145 post (nI c) f_maxUrls f_defaultDelay f_clock (nI L) f_urlCount f_hostCount f_ruleCount 0 f_cHost f_cHostLen f_cPq 0 0 a_buffer a_urlPool a_urlStart a_urlLength a_urlState a_urlHost a_urlTime a_names a_nameLength a_hostDelay a_hostNext a_hostSent a_rulePool a_ruleStart a_ruleLength a_ruleHost a_ycanon a_dec a_segS a_segL := by
  rcases h45 with rfl | rfl
  · exact br_t rfl (cy_158 hL hb ht hN hY hu (by omega) hs)
  · exact br_f (by decide) (cy_158 hL hb ht hN hY hu (by omega) hs)
theorem cy_61 {post : Int32 → SY → Prop} {c : Nat} (hL : L ≤ 48) (hb : ∀ j, a_buffer j = nI (t j)) (ht : ∀ j, t j ≤ 126) (hN : (∀ c he p pE qE po D1 D2, ¬ cf_PS t L c he p pE qE po D1 D2) → ∀ a1 a2 a3 a4 n1 n2 n3 n4 n5 n6, post 0 (f_maxUrls, f_defaultDelay, f_clock, nI L, f_urlCount, f_hostCount, f_ruleCount, n1, n2, n3, n4, n5, n6, a_buffer, a_urlPool, a_urlStart, a_urlLength, a_urlState, a_urlHost, a_urlTime, a_names, a_nameLength, a_hostDelay, a_hostNext, a_hostSent, a_rulePool, a_ruleStart, a_ruleLength, a_ruleHost, a1, a2, a3, a4)) (hY : ∀ c he p pE qE po D1 D2, cf_PS t L c he p pE qE po D1 D2 → ∀ a1 a2 a3 a4 n5 n6, cf_K a1 (cf_out t he po D1 D2).length (cf_out t he po D1 D2) → post 1 (f_maxUrls, f_defaultDelay, f_clock, nI L, f_urlCount, f_hostCount, f_ruleCount, nI (cf_out t he po D1 D2).length, nI (c + 3), nI (he - (c + 3)), nI (he + po.length), n5, n6, a_buffer, a_urlPool, a_urlStart, a_urlLength, a_urlState, a_urlHost, a_urlTime, a_names, a_nameLength, a_hostDelay, a_hostNext, a_hostSent, a_rulePool, a_ruleStart, a_ruleLength, a_ruleHost, a1, a2, a3, a4)) (hu : ∀ c', cf_Sch t L c' → c' = c) (h45 : c = 4 ∨ c = 5) (h58 : t c = 58) : wY_parse_61 post (nI c) f_maxUrls f_defaultDelay f_clock (nI L) f_urlCount f_hostCount f_ruleCount 0 f_cHost f_cHostLen f_cPq 0 0 a_buffer a_urlPool a_urlStart a_urlLength a_urlState a_urlHost a_urlTime a_names a_nameLength a_hostDelay a_hostNext a_hostSent a_rulePool a_ruleStart a_ruleLength a_ruleHost a_ycanon a_dec a_segS a_segL := by
  have no : ¬ cf_Sch t L c → ∀ a1 a2 a3 a4 n1 n2 n3 n4 n5 n6, post 0 (f_maxUrls, f_defaultDelay, f_clock, nI L, f_urlCount, f_hostCount, f_ruleCount, n1, n2, n3, n4, n5, n6, a_buffer, a_urlPool, a_urlStart, a_urlLength, a_urlState, a_urlHost, a_urlTime, a_names, a_nameLength, a_hostDelay, a_hostNext, a_hostSent, a_rulePool, a_ruleStart, a_ruleLength, a_ruleHost, a1, a2, a3, a4) := by
    intro h
    refine hN (fun c' he' p' pE' qE' po' D1' D2' w => ?_)
    have e := hu c' w.1
    subst e
    exact h w.1
  have lb : ∀ k, cf_lo (t k) ≤ 70000 := fun k => Nat.le_trans (cf_loB (ht k)) (by decide)
  unfold wY_parse_61
  refine cy_low (t 0) (hb 0) (ht 0) (cf_eqc (cf_lo (t 0)) 104 rfl (lb 0) (fun y0 => cy_low (t 1) (hb 1) (ht 1) (cf_eqc (cf_lo (t 1)) 116 rfl (lb 1) (fun y1 => cy_low (t 2) (hb 2) (ht 2) (cf_eqc (cf_lo (t 2)) 116 rfl (lb 2) (fun y2 => cy_low (t 3) (hb 3) (ht 3) (cf_eqc (cf_lo (t 3)) 112 rfl (lb 3) (fun y3 => pk_eq c 5 (fun z => cy_low (t 4) (hb 4) (ht 4) (cf_eqc (cf_lo (t 4)) 115 rfl (lb 4) (fun y4 => cy_145 hL hb ht hN hY hu h45 (fun z1 z2 z3 => ⟨h45, z1, y0, y1, y2, y3, fun _ => y4, h58, z2, z3⟩)) (fun y4 => no (fun w => y4 (w.2.2.2.2.2.2.1 z)) _ _ _ _ _ _ _ _ _ _))) (fun z => cy_145 hL hb ht hN hY hu h45 (fun z1 z2 z3 => ⟨h45, z1, y0, y1, y2, y3, fun z4 => absurd z4 z, h58, z2, z3⟩))) (fun y3 => no (fun w => y3 w.2.2.2.2.2.1) _ _ _ _ _ _ _ _ _ _))) (fun y2 => no (fun w => y2 w.2.2.2.2.1) _ _ _ _ _ _ _ _ _ _))) (fun y1 => no (fun w => y1 w.2.2.2.1) _ _ _ _ _ _ _ _ _ _))) (fun y0 => no (fun w => y0 w.2.2.1) _ _ _ _ _ _ _ _ _ _))
theorem cy_19 {post : Int32 → SY → Prop} (hL : L ≤ 48) (hb : ∀ j, a_buffer j = nI (t j)) (ht : ∀ j, t j ≤ 126) (hN : (∀ c he p pE qE po D1 D2, ¬ cf_PS t L c he p pE qE po D1 D2) → ∀ a1 a2 a3 a4 n1 n2 n3 n4 n5 n6, post 0 (f_maxUrls, f_defaultDelay, f_clock, nI L, f_urlCount, f_hostCount, f_ruleCount, n1, n2, n3, n4, n5, n6, a_buffer, a_urlPool, a_urlStart, a_urlLength, a_urlState, a_urlHost, a_urlTime, a_names, a_nameLength, a_hostDelay, a_hostNext, a_hostSent, a_rulePool, a_ruleStart, a_ruleLength, a_ruleHost, a1, a2, a3, a4)) (hY : ∀ c he p pE qE po D1 D2, cf_PS t L c he p pE qE po D1 D2 → ∀ a1 a2 a3 a4 n5 n6, cf_K a1 (cf_out t he po D1 D2).length (cf_out t he po D1 D2) → post 1 (f_maxUrls, f_defaultDelay, f_clock, nI L, f_urlCount, f_hostCount, f_ruleCount, nI (cf_out t he po D1 D2).length, nI (c + 3), nI (he - (c + 3)), nI (he + po.length), n5, n6, a_buffer, a_urlPool, a_urlStart, a_urlLength, a_urlState, a_urlHost, a_urlTime, a_names, a_nameLength, a_hostDelay, a_hostNext, a_hostSent, a_rulePool, a_ruleStart, a_ruleLength, a_ruleHost, a1, a2, a3, a4)) : ∀ d k f, k + d = L → d < f → (∀ j, j < k → t j ≠ 58) → wY_parse_19 post (-1) f_maxUrls f_defaultDelay f_clock (nI L) f_urlCount f_hostCount f_ruleCount 0 f_cHost f_cHostLen f_cPq 0 0 a_buffer a_urlPool a_urlStart a_urlLength a_urlState a_urlHost a_urlTime a_names a_nameLength a_hostDelay a_hostNext a_hostSent a_rulePool a_ruleStart a_ruleLength a_ruleHost a_ycanon a_dec a_segS a_segL f (nI k) := by
  have sc : ∀ c', cf_Sch t L c' → c' < L ∧ t c' = 58 ∧ ∀ j, j < c' → t j ≠ 58 := fun c' h => ⟨by have := h.2.1; omega, h.2.2.2.2.2.2.2.1, fun j hj e => (cf_SchE h).2.2.1 j (Nat.zero_le _) hj (cf_rk4.mpr (Or.inl e))⟩
  intro d
  induction d with
  | zero =>
    intro k f hk hf hj
    have e : k = L := by omega
    subst e
    cases f with
    | zero => omega
    | succ f =>
      refine pk_le k k (fun _ => br_f (by decide) (br_f (by decide) (hN (fun c' he' p' pE' qE' po' D1' D2' w => ?_) _ _ _ _ _ _ _ _ _ _))) (fun z => by omega)
      exact hj c' (sc c' w.1).1 (sc c' w.1).2.1
  | succ d ih =>
    intro k f hk hf hj
    cases f with
    | zero => omega
    | succ f =>
      refine pk_le L k (fun z => by omega) (fun z => ⟨pk_in k 48 (by omega), cf_eqc (t k) 58 (cf_rd hb k) (by have := ht k; omega) (fun y => ?_) (fun y => nm_r (nI_1 k) (ih (k + 1) f (by omega) (by omega) (fun j h2 => ?_)))⟩)
      · have hu : ∀ c', cf_Sch t L c' → c' = k := by
          intro c' h
          have q := sc c' h
          rcases Nat.lt_trichotomy c' k with x | x | x
          · exact absurd q.2.1 (hj c' x)
          · exact x
          · exact absurd y (q.2.2 k x)
        refine pk_eq k 4 (fun z => cy_61 hL hb ht hN hY hu (Or.inl z) y) (fun z1 => pk_eq k 5 (fun z => cy_61 hL hb ht hN hY hu (Or.inr z) y) (fun z2 => hN (fun c' he' p' pE' qE' po' D1' D2' w => ?_) _ _ _ _ _ _ _ _ _ _))
        have e := hu c' w.1
        have q := w.1.1
        omega
      · rcases Nat.lt_or_ge j k with x | x
        · exact hj j x
        · have e : j = k := by omega
          rw [e]
          exact y
theorem cy_parse {post : Int32 → SY → Prop} (hL : L ≤ 48) (hb : ∀ j, a_buffer j = nI (t j)) (ht : ∀ j, t j ≤ 126) (hN : (∀ c he p pE qE po D1 D2, ¬ cf_PS t L c he p pE qE po D1 D2) → ∀ a1 a2 a3 a4 n1 n2 n3 n4 n5 n6, post 0 (f_maxUrls, f_defaultDelay, f_clock, nI L, f_urlCount, f_hostCount, f_ruleCount, n1, n2, n3, n4, n5, n6, a_buffer, a_urlPool, a_urlStart, a_urlLength, a_urlState, a_urlHost, a_urlTime, a_names, a_nameLength, a_hostDelay, a_hostNext, a_hostSent, a_rulePool, a_ruleStart, a_ruleLength, a_ruleHost, a1, a2, a3, a4)) (hY : ∀ c he p pE qE po D1 D2, cf_PS t L c he p pE qE po D1 D2 → ∀ a1 a2 a3 a4 n5 n6, cf_K a1 (cf_out t he po D1 D2).length (cf_out t he po D1 D2) → post 1 (f_maxUrls, f_defaultDelay, f_clock, nI L, f_urlCount, f_hostCount, f_ruleCount, nI (cf_out t he po D1 D2).length, nI (c + 3), nI (he - (c + 3)), nI (he + po.length), n5, n6, a_buffer, a_urlPool, a_urlStart, a_urlLength, a_urlState, a_urlHost, a_urlTime, a_names, a_nameLength, a_hostDelay, a_hostNext, a_hostSent, a_rulePool, a_ruleStart, a_ruleLength, a_ruleHost, a1, a2, a3, a4)) : wpY_parse post (f_maxUrls, f_defaultDelay, f_clock, nI L, f_urlCount, f_hostCount, f_ruleCount, f_cLen, f_cHost, f_cHostLen, f_cPq, f_decLen, f_segN, a_buffer, a_urlPool, a_urlStart, a_urlLength, a_urlState, a_urlHost, a_urlTime, a_names, a_nameLength, a_hostDelay, a_hostNext, a_hostSent, a_rulePool, a_ruleStart, a_ruleLength, a_ruleHost, a_ycanon, a_dec, a_segS, a_segL) :=
  ⟨L + 1, cy_19 hL hb ht hN hY L 0 _ (Nat.zero_add _) (by omega) (fun j h => absurd h (Nat.not_lt_zero j))⟩
end
end
section
/-! the class: the lists (made by mk30.py) -/
theorem cf_bi {a : Nat → Int32} {x y : Int32} {A B : Prop} (u : Nat) (hu : u < 2 ^ 31) (f : a u = y → A) (g : ¬ a u = y → B) (hx : x = nI u := by rfl) : (a x.toNatClampNeg = y → A) ∧ (¬ a x.toNatClampNeg = y → B) := by
  rw [pk_cl u hx hu]
  exact ⟨f, g⟩
def cf_Dup (pool st ln c : Nat → Int32) (n u : Nat) : Prop := ln u = nI n ∧ cf_EQ pool (st u).toNatClampNeg c 0 n
def cf_Ph (nm nl c : Nat → Int32) (H HL h : Nat) : Prop := nl h = nI HL ∧ cf_EQ nm (h * 16) c H HL
def cf_Pr (rp rs rl rh c : Nat → Int32) (P n : Nat) (x : Int32) (r : Nat) : Prop := rh r = x ∧ (rl r).toNatClampNeg ≤ n - P ∧ cf_EQ rp (rs r).toNatClampNeg c P (rl r).toNatClampNeg
def cf_Pe (rp rs rl rh c : Nat → Int32) (P n : Nat) (x : Int32) (r : Nat) : Prop := rh r = x ∧ (rl r).toNatClampNeg = n - P ∧ cf_EQ rp (rs r).toNatClampNeg c P (rl r).toNatClampNeg
def cf_M (pool st ln pt uh rp rs rl rh : Nat → Int32) (r u : Nat) : Prop := uh u = rh r ∧ (rl r).toNatClampNeg ≤ (ln u).toNatClampNeg - (pt u).toNatClampNeg ∧ cf_EQ rp (rs r).toNatClampNeg pool ((st u).toNatClampNeg + (pt u).toNatClampNeg) (rl r).toNatClampNeg
theorem cf_EQc {a b b' : Nat → Int32} {o p n : Nat} (h : ∀ j, j < n → b (p + j) = b' (p + j)) : cf_EQ a o b p n ↔ cf_EQ a o b' p n :=
  ⟨fun w i hi => (w i hi).trans (h i hi), fun w i hi => (w i hi).trans (h i hi).symm⟩
section
variable {f_maxUrls f_defaultDelay f_clock f_bufferLength f_canonLength f_canonHost f_canonHostLength f_canonPath f_schemePort f_partLength f_urlCount f_urlChars f_hostCount f_ruleCount f_ruleChars : Int32} {a_buffer a_canon a_part a_urlPool a_urlStart a_urlLength a_urlPath a_urlHost a_urlState a_urlTime a_names a_nameLength a_hostDelay a_hostNext a_rulePool a_ruleStart a_ruleLength a_ruleHost : Nat → Int32}
theorem cx_same_urlPool_canon {post : Int32 → Prop} {x y z : Int32} (o p n : Nat) (hx : x = nI o) (hy : y = nI p) (hz : z = nI n) (ho : o + n ≤ 256) (hp : p + n ≤ 49) (h1 : cf_EQ a_urlPool o a_canon p n → post 1) (h0 : ¬ cf_EQ a_urlPool o a_canon p n → post 0) : wpX_sameChars__urlPool_canon post (f_maxUrls, f_defaultDelay, f_clock, f_bufferLength, f_canonLength, f_canonHost, f_canonHostLength, f_canonPath, f_schemePort, f_partLength, f_urlCount, f_urlChars, f_hostCount, f_ruleCount, f_ruleChars, a_buffer, a_canon, a_part, a_urlPool, a_urlStart, a_urlLength, a_urlPath, a_urlHost, a_urlState, a_urlTime, a_names, a_nameLength, a_hostDelay, a_hostNext, a_rulePool, a_ruleStart, a_ruleLength, a_ruleHost) x y z := by
  subst hx hy hz
  have cv : ∀ i, i < n → ((a_urlPool (nI o + nI i).toNatClampNeg = a_canon (nI p + nI i).toNatClampNeg) = (a_urlPool (o + i) = a_canon (p + i))) := by
    intro i hi
    rw [pk_cl (o + i) (nI_add o i), pk_cl (p + i) (nI_add p i)]
  exact cf_scan0 (fun f i => wX_sameChars__urlPool_canon_3 post (nI o) (nI p) (nI n) f_maxUrls f_defaultDelay f_clock f_bufferLength f_canonLength f_canonHost f_canonHostLength f_canonPath f_schemePort f_partLength f_urlCount f_urlChars f_hostCount f_ruleCount f_ruleChars a_buffer a_canon a_part a_urlPool a_urlStart a_urlLength a_urlPath a_urlHost a_urlState a_urlTime a_names a_nameLength a_hostDelay a_hostNext a_rulePool a_ruleStart a_ruleLength a_ruleHost f (nI i)) (fun i => ¬ a_urlPool (o + i) = a_canon (p + i)) n
    (fun f hall => pk_le n n (fun _ => h1 (fun i hi => Classical.not_not.mp (hall i hi))) (fun z => by omega))
    (fun f i hi hP _ => pk_le n i (fun z => by omega) (fun _ => ⟨pk_in (o + i) 256 (by omega) (nI_add o i), pk_in (p + i) 49 (by omega) (nI_add p i), br_f (by rw [cv i hi]; exact hP) (h0 (fun w => hP (w i hi)))⟩))
    (fun f i hi hP W => pk_le n i (fun z => by omega) (fun _ => ⟨pk_in (o + i) 256 (by omega) (nI_add o i), pk_in (p + i) 49 (by omega) (nI_add p i), br_t (by rw [cv i hi]; exact Classical.not_not.mp hP) (nm_r (nI_1 i) W)⟩))
theorem cx_same_names_canon {post : Int32 → Prop} {x y z : Int32} (o p n : Nat) (hx : x = nI o) (hy : y = nI p) (hz : z = nI n) (ho : o + n ≤ 128) (hp : p + n ≤ 49) (h1 : cf_EQ a_names o a_canon p n → post 1) (h0 : ¬ cf_EQ a_names o a_canon p n → post 0) : wpX_sameChars__names_canon post (f_maxUrls, f_defaultDelay, f_clock, f_bufferLength, f_canonLength, f_canonHost, f_canonHostLength, f_canonPath, f_schemePort, f_partLength, f_urlCount, f_urlChars, f_hostCount, f_ruleCount, f_ruleChars, a_buffer, a_canon, a_part, a_urlPool, a_urlStart, a_urlLength, a_urlPath, a_urlHost, a_urlState, a_urlTime, a_names, a_nameLength, a_hostDelay, a_hostNext, a_rulePool, a_ruleStart, a_ruleLength, a_ruleHost) x y z := by
  subst hx hy hz
  have cv : ∀ i, i < n → ((a_names (nI o + nI i).toNatClampNeg = a_canon (nI p + nI i).toNatClampNeg) = (a_names (o + i) = a_canon (p + i))) := by
    intro i hi
    rw [pk_cl (o + i) (nI_add o i), pk_cl (p + i) (nI_add p i)]
  exact cf_scan0 (fun f i => wX_sameChars__names_canon_3 post (nI o) (nI p) (nI n) f_maxUrls f_defaultDelay f_clock f_bufferLength f_canonLength f_canonHost f_canonHostLength f_canonPath f_schemePort f_partLength f_urlCount f_urlChars f_hostCount f_ruleCount f_ruleChars a_buffer a_canon a_part a_urlPool a_urlStart a_urlLength a_urlPath a_urlHost a_urlState a_urlTime a_names a_nameLength a_hostDelay a_hostNext a_rulePool a_ruleStart a_ruleLength a_ruleHost f (nI i)) (fun i => ¬ a_names (o + i) = a_canon (p + i)) n
    (fun f hall => pk_le n n (fun _ => h1 (fun i hi => Classical.not_not.mp (hall i hi))) (fun z => by omega))
    (fun f i hi hP _ => pk_le n i (fun z => by omega) (fun _ => ⟨pk_in (o + i) 128 (by omega) (nI_add o i), pk_in (p + i) 49 (by omega) (nI_add p i), br_f (by rw [cv i hi]; exact hP) (h0 (fun w => hP (w i hi)))⟩))
    (fun f i hi hP W => pk_le n i (fun z => by omega) (fun _ => ⟨pk_in (o + i) 128 (by omega) (nI_add o i), pk_in (p + i) 49 (by omega) (nI_add p i), br_t (by rw [cv i hi]; exact Classical.not_not.mp hP) (nm_r (nI_1 i) W)⟩))
theorem cx_same_rulePool_canon {post : Int32 → Prop} {x y z : Int32} (o p n : Nat) (hx : x = nI o) (hy : y = nI p) (hz : z = nI n) (ho : o + n ≤ 128) (hp : p + n ≤ 49) (h1 : cf_EQ a_rulePool o a_canon p n → post 1) (h0 : ¬ cf_EQ a_rulePool o a_canon p n → post 0) : wpX_sameChars__rulePool_canon post (f_maxUrls, f_defaultDelay, f_clock, f_bufferLength, f_canonLength, f_canonHost, f_canonHostLength, f_canonPath, f_schemePort, f_partLength, f_urlCount, f_urlChars, f_hostCount, f_ruleCount, f_ruleChars, a_buffer, a_canon, a_part, a_urlPool, a_urlStart, a_urlLength, a_urlPath, a_urlHost, a_urlState, a_urlTime, a_names, a_nameLength, a_hostDelay, a_hostNext, a_rulePool, a_ruleStart, a_ruleLength, a_ruleHost) x y z := by
  subst hx hy hz
  have cv : ∀ i, i < n → ((a_rulePool (nI o + nI i).toNatClampNeg = a_canon (nI p + nI i).toNatClampNeg) = (a_rulePool (o + i) = a_canon (p + i))) := by
    intro i hi
    rw [pk_cl (o + i) (nI_add o i), pk_cl (p + i) (nI_add p i)]
  exact cf_scan0 (fun f i => wX_sameChars__rulePool_canon_3 post (nI o) (nI p) (nI n) f_maxUrls f_defaultDelay f_clock f_bufferLength f_canonLength f_canonHost f_canonHostLength f_canonPath f_schemePort f_partLength f_urlCount f_urlChars f_hostCount f_ruleCount f_ruleChars a_buffer a_canon a_part a_urlPool a_urlStart a_urlLength a_urlPath a_urlHost a_urlState a_urlTime a_names a_nameLength a_hostDelay a_hostNext a_rulePool a_ruleStart a_ruleLength a_ruleHost f (nI i)) (fun i => ¬ a_rulePool (o + i) = a_canon (p + i)) n
    (fun f hall => pk_le n n (fun _ => h1 (fun i hi => Classical.not_not.mp (hall i hi))) (fun z => by omega))
    (fun f i hi hP _ => pk_le n i (fun z => by omega) (fun _ => ⟨pk_in (o + i) 128 (by omega) (nI_add o i), pk_in (p + i) 49 (by omega) (nI_add p i), br_f (by rw [cv i hi]; exact hP) (h0 (fun w => hP (w i hi)))⟩))
    (fun f i hi hP W => pk_le n i (fun z => by omega) (fun _ => ⟨pk_in (o + i) 128 (by omega) (nI_add o i), pk_in (p + i) 49 (by omega) (nI_add p i), br_t (by rw [cv i hi]; exact Classical.not_not.mp hP) (nm_r (nI_1 i) W)⟩))
theorem cx_same_rulePool_urlPool {post : Int32 → Prop} {x y z : Int32} (o p n : Nat) (hx : x = nI o) (hy : y = nI p) (hz : z = nI n) (ho : o + n ≤ 128) (hp : p + n ≤ 256) (h1 : cf_EQ a_rulePool o a_urlPool p n → post 1) (h0 : ¬ cf_EQ a_rulePool o a_urlPool p n → post 0) : wpX_sameChars__rulePool_urlPool post (f_maxUrls, f_defaultDelay, f_clock, f_bufferLength, f_canonLength, f_canonHost, f_canonHostLength, f_canonPath, f_schemePort, f_partLength, f_urlCount, f_urlChars, f_hostCount, f_ruleCount, f_ruleChars, a_buffer, a_canon, a_part, a_urlPool, a_urlStart, a_urlLength, a_urlPath, a_urlHost, a_urlState, a_urlTime, a_names, a_nameLength, a_hostDelay, a_hostNext, a_rulePool, a_ruleStart, a_ruleLength, a_ruleHost) x y z := by
  subst hx hy hz
  have cv : ∀ i, i < n → ((a_rulePool (nI o + nI i).toNatClampNeg = a_urlPool (nI p + nI i).toNatClampNeg) = (a_rulePool (o + i) = a_urlPool (p + i))) := by
    intro i hi
    rw [pk_cl (o + i) (nI_add o i), pk_cl (p + i) (nI_add p i)]
  exact cf_scan0 (fun f i => wX_sameChars__rulePool_urlPool_3 post (nI o) (nI p) (nI n) f_maxUrls f_defaultDelay f_clock f_bufferLength f_canonLength f_canonHost f_canonHostLength f_canonPath f_schemePort f_partLength f_urlCount f_urlChars f_hostCount f_ruleCount f_ruleChars a_buffer a_canon a_part a_urlPool a_urlStart a_urlLength a_urlPath a_urlHost a_urlState a_urlTime a_names a_nameLength a_hostDelay a_hostNext a_rulePool a_ruleStart a_ruleLength a_ruleHost f (nI i)) (fun i => ¬ a_rulePool (o + i) = a_urlPool (p + i)) n
    (fun f hall => pk_le n n (fun _ => h1 (fun i hi => Classical.not_not.mp (hall i hi))) (fun z => by omega))
    (fun f i hi hP _ => pk_le n i (fun z => by omega) (fun _ => ⟨pk_in (o + i) 128 (by omega) (nI_add o i), pk_in (p + i) 256 (by omega) (nI_add p i), br_f (by rw [cv i hi]; exact hP) (h0 (fun w => hP (w i hi)))⟩))
    (fun f i hi hP W => pk_le n i (fun z => by omega) (fun _ => ⟨pk_in (o + i) 128 (by omega) (nI_add o i), pk_in (p + i) 256 (by omega) (nI_add p i), br_t (by rw [cv i hi]; exact Classical.not_not.mp hP) (nm_r (nI_1 i) W)⟩))
theorem cx_copy_names {post : SX → Prop} {x y z : Int32} (fr n at0 : Nat) (hx : x = nI fr) (hy : y = nI n) (hz : z = nI at0) (hf : fr + n ≤ 49) (ha : at0 + n ≤ 128) (h : post (f_maxUrls, f_defaultDelay, f_clock, f_bufferLength, f_canonLength, f_canonHost, f_canonHostLength, f_canonPath, f_schemePort, f_partLength, f_urlCount, f_urlChars, f_hostCount, f_ruleCount, f_ruleChars, a_buffer, a_canon, a_part, a_urlPool, a_urlStart, a_urlLength, a_urlPath, a_urlHost, a_urlState, a_urlTime, cf_cp a_names at0 a_canon fr n, a_nameLength, a_hostDelay, a_hostNext, a_rulePool, a_ruleStart, a_ruleLength, a_ruleHost)) : wpX_copyCanon__names post (f_maxUrls, f_defaultDelay, f_clock, f_bufferLength, f_canonLength, f_canonHost, f_canonHostLength, f_canonPath, f_schemePort, f_partLength, f_urlCount, f_urlChars, f_hostCount, f_ruleCount, f_ruleChars, a_buffer, a_canon, a_part, a_urlPool, a_urlStart, a_urlLength, a_urlPath, a_urlHost, a_urlState, a_urlTime, a_names, a_nameLength, a_hostDelay, a_hostNext, a_rulePool, a_ruleStart, a_ruleLength, a_ruleHost) x y z := by
  subst hx hy hz
  exact cf_fold0 (fun f i s => wX_copyCanon__names_3 post (nI fr) (nI n) (nI at0) f_maxUrls f_defaultDelay f_clock f_bufferLength f_canonLength f_canonHost f_canonHostLength f_canonPath f_schemePort f_partLength f_urlCount f_urlChars f_hostCount f_ruleCount f_ruleChars f (nI i) a_buffer a_canon a_part a_urlPool a_urlStart a_urlLength a_urlPath a_urlHost a_urlState a_urlTime s a_nameLength a_hostDelay a_hostNext a_rulePool a_ruleStart a_ruleLength a_ruleHost) (fun i => cf_cp a_names at0 a_canon fr i) n
    (fun f => pk_le n n (fun _ => h) (fun z => by omega))
    (fun f i hi W => pk_le n i (fun z => by omega) (fun _ => ⟨pk_in (fr + i) 49 (by omega) (nI_add fr i), pk_in (at0 + i) 128 (by omega) (nI_add at0 i), nm_r (e' := cf_cp a_names at0 a_canon fr (i + 1)) (by rw [pk_cl (at0 + i) (nI_add at0 i), pk_cl (fr + i) (nI_add fr i)]; rfl) (nm_r (nI_1 i) W)⟩))
theorem cx_copy_urlPool {post : SX → Prop} {x y z : Int32} (fr n at0 : Nat) (hx : x = nI fr) (hy : y = nI n) (hz : z = nI at0) (hf : fr + n ≤ 49) (ha : at0 + n ≤ 256) (h : post (f_maxUrls, f_defaultDelay, f_clock, f_bufferLength, f_canonLength, f_canonHost, f_canonHostLength, f_canonPath, f_schemePort, f_partLength, f_urlCount, f_urlChars, f_hostCount, f_ruleCount, f_ruleChars, a_buffer, a_canon, a_part, cf_cp a_urlPool at0 a_canon fr n, a_urlStart, a_urlLength, a_urlPath, a_urlHost, a_urlState, a_urlTime, a_names, a_nameLength, a_hostDelay, a_hostNext, a_rulePool, a_ruleStart, a_ruleLength, a_ruleHost)) : wpX_copyCanon__urlPool post (f_maxUrls, f_defaultDelay, f_clock, f_bufferLength, f_canonLength, f_canonHost, f_canonHostLength, f_canonPath, f_schemePort, f_partLength, f_urlCount, f_urlChars, f_hostCount, f_ruleCount, f_ruleChars, a_buffer, a_canon, a_part, a_urlPool, a_urlStart, a_urlLength, a_urlPath, a_urlHost, a_urlState, a_urlTime, a_names, a_nameLength, a_hostDelay, a_hostNext, a_rulePool, a_ruleStart, a_ruleLength, a_ruleHost) x y z := by
  subst hx hy hz
  exact cf_fold0 (fun f i s => wX_copyCanon__urlPool_3 post (nI fr) (nI n) (nI at0) f_maxUrls f_defaultDelay f_clock f_bufferLength f_canonLength f_canonHost f_canonHostLength f_canonPath f_schemePort f_partLength f_urlCount f_urlChars f_hostCount f_ruleCount f_ruleChars f (nI i) a_buffer a_canon a_part s a_urlStart a_urlLength a_urlPath a_urlHost a_urlState a_urlTime a_names a_nameLength a_hostDelay a_hostNext a_rulePool a_ruleStart a_ruleLength a_ruleHost) (fun i => cf_cp a_urlPool at0 a_canon fr i) n
    (fun f => pk_le n n (fun _ => h) (fun z => by omega))
    (fun f i hi W => pk_le n i (fun z => by omega) (fun _ => ⟨pk_in (fr + i) 49 (by omega) (nI_add fr i), pk_in (at0 + i) 256 (by omega) (nI_add at0 i), nm_r (e' := cf_cp a_urlPool at0 a_canon fr (i + 1)) (by rw [pk_cl (at0 + i) (nI_add at0 i), pk_cl (fr + i) (nI_add fr i)]; rfl) (nm_r (nI_1 i) W)⟩))
theorem cx_copy_rulePool {post : SX → Prop} {x y z : Int32} (fr n at0 : Nat) (hx : x = nI fr) (hy : y = nI n) (hz : z = nI at0) (hf : fr + n ≤ 49) (ha : at0 + n ≤ 128) (h : post (f_maxUrls, f_defaultDelay, f_clock, f_bufferLength, f_canonLength, f_canonHost, f_canonHostLength, f_canonPath, f_schemePort, f_partLength, f_urlCount, f_urlChars, f_hostCount, f_ruleCount, f_ruleChars, a_buffer, a_canon, a_part, a_urlPool, a_urlStart, a_urlLength, a_urlPath, a_urlHost, a_urlState, a_urlTime, a_names, a_nameLength, a_hostDelay, a_hostNext, cf_cp a_rulePool at0 a_canon fr n, a_ruleStart, a_ruleLength, a_ruleHost)) : wpX_copyCanon__rulePool post (f_maxUrls, f_defaultDelay, f_clock, f_bufferLength, f_canonLength, f_canonHost, f_canonHostLength, f_canonPath, f_schemePort, f_partLength, f_urlCount, f_urlChars, f_hostCount, f_ruleCount, f_ruleChars, a_buffer, a_canon, a_part, a_urlPool, a_urlStart, a_urlLength, a_urlPath, a_urlHost, a_urlState, a_urlTime, a_names, a_nameLength, a_hostDelay, a_hostNext, a_rulePool, a_ruleStart, a_ruleLength, a_ruleHost) x y z := by
  subst hx hy hz
  exact cf_fold0 (fun f i s => wX_copyCanon__rulePool_3 post (nI fr) (nI n) (nI at0) f_maxUrls f_defaultDelay f_clock f_bufferLength f_canonLength f_canonHost f_canonHostLength f_canonPath f_schemePort f_partLength f_urlCount f_urlChars f_hostCount f_ruleCount f_ruleChars f (nI i) a_buffer a_canon a_part a_urlPool a_urlStart a_urlLength a_urlPath a_urlHost a_urlState a_urlTime a_names a_nameLength a_hostDelay a_hostNext s a_ruleStart a_ruleLength a_ruleHost) (fun i => cf_cp a_rulePool at0 a_canon fr i) n
    (fun f => pk_le n n (fun _ => h) (fun z => by omega))
    (fun f i hi W => pk_le n i (fun z => by omega) (fun _ => ⟨pk_in (fr + i) 49 (by omega) (nI_add fr i), pk_in (at0 + i) 128 (by omega) (nI_add at0 i), nm_r (e' := cf_cp a_rulePool at0 a_canon fr (i + 1)) (by rw [pk_cl (at0 + i) (nI_add at0 i), pk_cl (fr + i) (nI_add fr i)]; rfl) (nm_r (nI_1 i) W)⟩))
theorem cx_isAdmitted {post : Int32 → Prop} {uc n : Nat} (hU : ∀ u, u < uc → ∃ s m, a_urlStart u = nI s ∧ a_urlLength u = nI m ∧ s + m ≤ 256) (huc : uc ≤ 32) (hn : n ≤ 49) (h1 : (∃ u, u < uc ∧ cf_Dup a_urlPool a_urlStart a_urlLength a_canon n u) → post 1) (h0 : (∀ u, u < uc → ¬ cf_Dup a_urlPool a_urlStart a_urlLength a_canon n u) → post 0) : wpX_isAdmitted post (f_maxUrls, f_defaultDelay, f_clock, f_bufferLength, nI n, f_canonHost, f_canonHostLength, f_canonPath, f_schemePort, f_partLength, nI uc, f_urlChars, f_hostCount, f_ruleCount, f_ruleChars, a_buffer, a_canon, a_part, a_urlPool, a_urlStart, a_urlLength, a_urlPath, a_urlHost, a_urlState, a_urlTime, a_names, a_nameLength, a_hostDelay, a_hostNext, a_rulePool, a_ruleStart, a_ruleLength, a_ruleHost) := by
  refine cf_scan0 (fun f i => wX_isAdmitted_2 post f_maxUrls f_defaultDelay f_clock f_bufferLength (nI n) f_canonHost f_canonHostLength f_canonPath f_schemePort f_partLength (nI uc) f_urlChars f_hostCount f_ruleCount f_ruleChars a_buffer a_canon a_part a_urlPool a_urlStart a_urlLength a_urlPath a_urlHost a_urlState a_urlTime a_names a_nameLength a_hostDelay a_hostNext a_rulePool a_ruleStart a_ruleLength a_ruleHost f (nI i)) (fun u => cf_Dup a_urlPool a_urlStart a_urlLength a_canon n u) uc
    (fun f hall => pk_le uc uc (fun _ => h0 hall) (fun z => by omega)) (fun f i hi hP _ => ?_) (fun f i hi hP W => ?_)
  · obtain ⟨s, m, e1, e2, e3⟩ := hU i hi
    have es : (a_urlStart i).toNatClampNeg = s := by rw [e1]; exact pk_cl s
    have em : m = n := by
      have q := hP.1
      rw [e2, nI_eq (by omega) (by omega)] at q
      exact q
    have hE := hP.2
    rw [es] at hE
    exact pk_le uc i (fun z => by omega) (fun _ => ⟨pk_in i 32 (by omega), br_t (cf_ix i rfl (by omega) hP.1) ⟨pk_in i 32 (by omega), cx_same_urlPool_canon s 0 n (cf_ix i rfl (by omega) e1) rfl rfl (by omega) (by omega) (fun _ => br_f (by decide) (h1 ⟨i, hi, hP⟩)) (fun w => absurd hE w)⟩⟩)
  · obtain ⟨s, m, e1, e2, e3⟩ := hU i hi
    have es : (a_urlStart i).toNatClampNeg = s := by rw [e1]; exact pk_cl s
    refine pk_le uc i (fun z => by omega) (fun _ => ⟨pk_in i 32 (by omega), cf_bi i (by omega) (fun e => ⟨pk_in i 32 (by omega), cx_same_urlPool_canon s 0 n (cf_ix i rfl (by omega) e1) rfl rfl ?_ (by omega) (fun w => ?_) (fun w => br_t rfl (nm_r (nI_1 i) W))⟩) (fun e => nm_r (nI_1 i) W)⟩)
    · rw [e2, nI_eq (by omega) (by omega)] at e
      omega
    · refine absurd ⟨e, ?_⟩ hP
      rw [es]
      exact w
theorem cx_findHost {post : Int32 → Prop} {hc H HL : Nat} (h8 : hc ≤ 8) (h16 : HL ≤ 16) (hH : H + HL ≤ 49) (h : ∀ r, cf_FF (cf_Ph a_names a_nameLength a_canon H HL) hc r → post r) : wpX_findHost post (f_maxUrls, f_defaultDelay, f_clock, f_bufferLength, f_canonLength, nI H, nI HL, f_canonPath, f_schemePort, f_partLength, f_urlCount, f_urlChars, nI hc, f_ruleCount, f_ruleChars, a_buffer, a_canon, a_part, a_urlPool, a_urlStart, a_urlLength, a_urlPath, a_urlHost, a_urlState, a_urlTime, a_names, a_nameLength, a_hostDelay, a_hostNext, a_rulePool, a_ruleStart, a_ruleLength, a_ruleHost) := by
  refine cf_scan0 (fun f i => wX_findHost_2 post f_maxUrls f_defaultDelay f_clock f_bufferLength f_canonLength (nI H) (nI HL) f_canonPath f_schemePort f_partLength f_urlCount f_urlChars (nI hc) f_ruleCount f_ruleChars a_buffer a_canon a_part a_urlPool a_urlStart a_urlLength a_urlPath a_urlHost a_urlState a_urlTime a_names a_nameLength a_hostDelay a_hostNext a_rulePool a_ruleStart a_ruleLength a_ruleHost f (nI i)) (cf_Ph a_names a_nameLength a_canon H HL) hc
    (fun f hall => pk_le hc hc (fun _ => h _ (Or.inr ⟨hall, rfl⟩)) (fun z => by omega)) (fun f i hi hP hl => ?_) (fun f i hi hP W => ?_)
  · exact pk_le hc i (fun z => by omega) (fun _ => ⟨pk_in i 8 (by omega), br_t (cf_ix i rfl (by omega) hP.1) (cx_same_names_canon (i * 16) H HL (pk_mul i 16) rfl rfl (by omega) (by omega) (fun _ => br_f (by decide) (h _ (Or.inl ⟨i, hi, hP, hl, rfl⟩))) (fun w => absurd hP.2 w))⟩)
  · exact pk_le hc i (fun z => by omega) (fun _ => ⟨pk_in i 8 (by omega), cf_bi i (by omega) (fun e => cx_same_names_canon (i * 16) H HL (pk_mul i 16) rfl rfl (by omega) (by omega) (fun w => absurd ⟨e, w⟩ hP) (fun w => br_t rfl (nm_r (nI_1 i) W))) (fun e => nm_r (nI_1 i) W)⟩)
theorem cx_isDisallowed {post : Int32 → Prop} {x : Int32} {rc n P : Nat} (hR : ∀ r, r < rc → ∃ s m, a_ruleStart r = nI s ∧ a_ruleLength r = nI m ∧ s + m ≤ 128) (h8 : rc ≤ 8) (hn : n ≤ 49) (hP0 : P ≤ n) (h1 : (∃ r, r < rc ∧ cf_Pr a_rulePool a_ruleStart a_ruleLength a_ruleHost a_canon P n x r) → post 1) (h0 : (∀ r, r < rc → ¬ cf_Pr a_rulePool a_ruleStart a_ruleLength a_ruleHost a_canon P n x r) → post 0) : wpX_isDisallowed post (f_maxUrls, f_defaultDelay, f_clock, f_bufferLength, nI n, f_canonHost, f_canonHostLength, nI P, f_schemePort, f_partLength, f_urlCount, f_urlChars, f_hostCount, nI rc, f_ruleChars, a_buffer, a_canon, a_part, a_urlPool, a_urlStart, a_urlLength, a_urlPath, a_urlHost, a_urlState, a_urlTime, a_names, a_nameLength, a_hostDelay, a_hostNext, a_rulePool, a_ruleStart, a_ruleLength, a_ruleHost) x := by
  have es : nI n - nI P = nI (n - P) := pk_sub hP0
  refine cf_scan0 (fun f i => wX_isDisallowed_2 post x f_maxUrls f_defaultDelay f_clock f_bufferLength (nI n) f_canonHost f_canonHostLength (nI P) f_schemePort f_partLength f_urlCount f_urlChars f_hostCount (nI rc) f_ruleChars a_buffer a_canon a_part a_urlPool a_urlStart a_urlLength a_urlPath a_urlHost a_urlState a_urlTime a_names a_nameLength a_hostDelay a_hostNext a_rulePool a_ruleStart a_ruleLength a_ruleHost f (nI i)) (cf_Pr a_rulePool a_ruleStart a_ruleLength a_ruleHost a_canon P n x) rc
    (fun f hall => pk_le rc rc (fun _ => h0 hall) (fun z => by omega)) (fun f i hi hP _ => ?_) (fun f i hi hP W => ?_)
  · obtain ⟨s, m, e1, e2, e3⟩ := hR i hi
    have c1 : (a_ruleStart i).toNatClampNeg = s := by rw [e1]; exact pk_cl s
    have c2 : (a_ruleLength i).toNatClampNeg = m := by rw [e2]; exact pk_cl m
    have q2 := hP.2.1
    have q3 := hP.2.2
    rw [c2] at q2
    rw [c1, c2] at q3
    have d2 : a_ruleLength (nI i).toNatClampNeg = nI m := cf_ix i rfl (by omega) e2
    exact pk_le rc i (fun z => by omega) (fun _ => ⟨pk_in i 8 (by omega), br_t (cf_ix i rfl (by omega) hP.1) ⟨pk_in i 8 (by omega), pk_lt (n - P) m (fun z => by omega) (fun _ => ⟨pk_in i 8 (by omega), pk_in i 8 (by omega), cx_same_rulePool_canon s P m (cf_ix i rfl (by omega) e1) rfl d2 (by omega) (by omega) (fun _ => br_f (by decide) (h1 ⟨i, hi, hP⟩)) (fun w => absurd q3 w)⟩) es d2⟩⟩)
  · obtain ⟨s, m, e1, e2, e3⟩ := hR i hi
    have c1 : (a_ruleStart i).toNatClampNeg = s := by rw [e1]; exact pk_cl s
    have c2 : (a_ruleLength i).toNatClampNeg = m := by rw [e2]; exact pk_cl m
    have d2 : a_ruleLength (nI i).toNatClampNeg = nI m := cf_ix i rfl (by omega) e2
    refine pk_le rc i (fun z => by omega) (fun _ => ⟨pk_in i 8 (by omega), cf_bi i (by omega) (fun e => ⟨pk_in i 8 (by omega), pk_lt (n - P) m (fun z => nm_r (nI_1 i) W) (fun z => ⟨pk_in i 8 (by omega), pk_in i 8 (by omega), cx_same_rulePool_canon s P m (cf_ix i rfl (by omega) e1) rfl d2 (by omega) (by omega) (fun w => absurd ⟨e, ?_, ?_⟩ hP) (fun w => br_t rfl (nm_r (nI_1 i) W))⟩) es d2⟩) (fun e => nm_r (nI_1 i) W)⟩)
    · rw [c2]; exact z
    · rw [c1, c2]; exact w
theorem cx_isRule {post : Int32 → Prop} {x : Int32} {rc n P : Nat} (hR : ∀ r, r < rc → ∃ s m, a_ruleStart r = nI s ∧ a_ruleLength r = nI m ∧ s + m ≤ 128) (h8 : rc ≤ 8) (hn : n ≤ 49) (hP0 : P ≤ n) (h1 : (∃ r, r < rc ∧ cf_Pe a_rulePool a_ruleStart a_ruleLength a_ruleHost a_canon P n x r) → post 1) (h0 : (∀ r, r < rc → ¬ cf_Pe a_rulePool a_ruleStart a_ruleLength a_ruleHost a_canon P n x r) → post 0) : wpX_isRule post (f_maxUrls, f_defaultDelay, f_clock, f_bufferLength, nI n, f_canonHost, f_canonHostLength, nI P, f_schemePort, f_partLength, f_urlCount, f_urlChars, f_hostCount, nI rc, f_ruleChars, a_buffer, a_canon, a_part, a_urlPool, a_urlStart, a_urlLength, a_urlPath, a_urlHost, a_urlState, a_urlTime, a_names, a_nameLength, a_hostDelay, a_hostNext, a_rulePool, a_ruleStart, a_ruleLength, a_ruleHost) x := by
  have es : nI n - nI P = nI (n - P) := pk_sub hP0
  refine cf_scan0 (fun f i => wX_isRule_2 post x f_maxUrls f_defaultDelay f_clock f_bufferLength (nI n) f_canonHost f_canonHostLength (nI P) f_schemePort f_partLength f_urlCount f_urlChars f_hostCount (nI rc) f_ruleChars a_buffer a_canon a_part a_urlPool a_urlStart a_urlLength a_urlPath a_urlHost a_urlState a_urlTime a_names a_nameLength a_hostDelay a_hostNext a_rulePool a_ruleStart a_ruleLength a_ruleHost f (nI i)) (cf_Pe a_rulePool a_ruleStart a_ruleLength a_ruleHost a_canon P n x) rc
    (fun f hall => pk_le rc rc (fun _ => h0 hall) (fun z => by omega)) (fun f i hi hP _ => ?_) (fun f i hi hP W => ?_)
  · obtain ⟨s, m, e1, e2, e3⟩ := hR i hi
    have c1 : (a_ruleStart i).toNatClampNeg = s := by rw [e1]; exact pk_cl s
    have c2 : (a_ruleLength i).toNatClampNeg = m := by rw [e2]; exact pk_cl m
    have q2 := hP.2.1
    have q3 := hP.2.2
    rw [c2] at q2
    rw [c1, c2] at q3
    have d2 : a_ruleLength (nI i).toNatClampNeg = nI m := cf_ix i rfl (by omega) e2
    exact pk_le rc i (fun z => by omega) (fun _ => ⟨pk_in i 8 (by omega), br_t (cf_ix i rfl (by omega) hP.1) ⟨pk_in i 8 (by omega), pk_eq m (n - P) (fun _ => ⟨pk_in i 8 (by omega), pk_in i 8 (by omega), cx_same_rulePool_canon s P m (cf_ix i rfl (by omega) e1) rfl d2 (by omega) (by omega) (fun _ => br_f (by decide) (h1 ⟨i, hi, hP⟩)) (fun w => absurd q3 w)⟩) (fun z => absurd q2 z) d2 es⟩⟩)
  · obtain ⟨s, m, e1, e2, e3⟩ := hR i hi
    have c1 : (a_ruleStart i).toNatClampNeg = s := by rw [e1]; exact pk_cl s
    have c2 : (a_ruleLength i).toNatClampNeg = m := by rw [e2]; exact pk_cl m
    have d2 : a_ruleLength (nI i).toNatClampNeg = nI m := cf_ix i rfl (by omega) e2
    refine pk_le rc i (fun z => by omega) (fun _ => ⟨pk_in i 8 (by omega), cf_bi i (by omega) (fun e => ⟨pk_in i 8 (by omega), pk_eq m (n - P) (fun z => ⟨pk_in i 8 (by omega), pk_in i 8 (by omega), cx_same_rulePool_canon s P m (cf_ix i rfl (by omega) e1) rfl d2 (by omega) (by omega) (fun w => absurd ⟨e, ?_, ?_⟩ hP) (fun w => br_t rfl (nm_r (nI_1 i) W))⟩) (fun z => nm_r (nI_1 i) W) d2 es⟩) (fun e => nm_r (nI_1 i) W)⟩)
    · rw [c2]; exact z
    · rw [c1, c2]; exact w
theorem cx_newHost {post : Int32 → SX → Prop} {hc H HL : Nat} (h8 : hc < 8) (h16 : HL ≤ 16) (hH : H + HL ≤ 49) (h : post (nI hc) (f_maxUrls, f_defaultDelay, f_clock, f_bufferLength, f_canonLength, nI H, nI HL, f_canonPath, f_schemePort, f_partLength, f_urlCount, f_urlChars, nI (hc + 1), f_ruleCount, f_ruleChars, a_buffer, a_canon, a_part, a_urlPool, a_urlStart, a_urlLength, a_urlPath, a_urlHost, a_urlState, a_urlTime, cf_cp a_names (hc * 16) a_canon H HL, upd a_nameLength hc (nI HL), upd a_hostDelay hc f_defaultDelay, upd a_hostNext hc 0, a_rulePool, a_ruleStart, a_ruleLength, a_ruleHost)) : wpX_hostOrNew post (f_maxUrls, f_defaultDelay, f_clock, f_bufferLength, f_canonLength, nI H, nI HL, f_canonPath, f_schemePort, f_partLength, f_urlCount, f_urlChars, nI hc, f_ruleCount, f_ruleChars, a_buffer, a_canon, a_part, a_urlPool, a_urlStart, a_urlLength, a_urlPath, a_urlHost, a_urlState, a_urlTime, a_names, a_nameLength, a_hostDelay, a_hostNext, a_rulePool, a_ruleStart, a_ruleLength, a_ruleHost) (-1) := by
  have ec : (nI hc).toNatClampNeg = hc := pk_cl hc
  exact br_t rfl (pk_lt hc 8 (fun _ => cx_copy_names H HL (hc * 16) rfl rfl (pk_mul hc 16) (by omega) (by omega) ⟨pk_in hc 8 (by omega), nm_r (e' := upd a_nameLength hc (nI HL)) (by rw [ec]) ⟨pk_in hc 8 (by omega), nm_r (e' := upd a_hostDelay hc f_defaultDelay) (by rw [ec]) ⟨pk_in hc 8 (by omega), nm_r (e' := upd a_hostNext hc 0) (by rw [ec]) (nm_r (nI_1 hc) h)⟩⟩⟩) (fun z => by omega))
theorem cx_addUrl {post : Int32 → SX → Prop} {x : Int32} {uc uch n : Nat} (hu : uc < 32) (hn : n ≤ 49) (h256 : uch + n ≤ 256) (h : post (nI uc) (f_maxUrls, f_defaultDelay, f_clock, f_bufferLength, nI n, f_canonHost, f_canonHostLength, f_canonPath, f_schemePort, f_partLength, nI (uc + 1), nI (uch + n), f_hostCount, f_ruleCount, f_ruleChars, a_buffer, a_canon, a_part, cf_cp a_urlPool uch a_canon 0 n, upd a_urlStart uc (nI uch), upd a_urlLength uc (nI n), upd a_urlPath uc f_canonPath, upd a_urlHost uc x, upd a_urlState uc 1, upd a_urlTime uc (-1), a_names, a_nameLength, a_hostDelay, a_hostNext, a_rulePool, a_ruleStart, a_ruleLength, a_ruleHost)) : wpX_addUrl post (f_maxUrls, f_defaultDelay, f_clock, f_bufferLength, nI n, f_canonHost, f_canonHostLength, f_canonPath, f_schemePort, f_partLength, nI uc, nI uch, f_hostCount, f_ruleCount, f_ruleChars, a_buffer, a_canon, a_part, a_urlPool, a_urlStart, a_urlLength, a_urlPath, a_urlHost, a_urlState, a_urlTime, a_names, a_nameLength, a_hostDelay, a_hostNext, a_rulePool, a_ruleStart, a_ruleLength, a_ruleHost) x := by
  have ec : (nI uc).toNatClampNeg = uc := pk_cl uc
  have vi : vp_in (nI uc) 32 := pk_in uc 32 hu
  unfold wpX_addUrl
  dsimp only
  exact cx_copy_urlPool 0 n uch rfl rfl rfl (by omega) (by omega) ⟨vi, nm_r (e' := upd a_urlStart uc (nI uch)) (by rw [ec]) ⟨vi, nm_r (e' := upd a_urlLength uc (nI n)) (by rw [ec]) ⟨vi, nm_r (e' := upd a_urlPath uc f_canonPath) (by rw [ec]) ⟨vi, nm_r (e' := upd a_urlHost uc x) (by rw [ec]) ⟨vi, nm_r (e' := upd a_urlState uc 1) (by rw [ec]) ⟨vi, nm_r (e' := upd a_urlTime uc (-1)) (by rw [ec]) (nm_r (nI_add uch n) (nm_r (nI_1 uc) h))⟩⟩⟩⟩⟩⟩
theorem cx_addRule {post : Int32 → SX → Prop} {x : Int32} {rc rch n P : Nat} (hr : rc < 8) (hP : P ≤ n) (hn : n ≤ 49) (h128 : rch + (n - P) ≤ 128) (h : post (nI rc) (f_maxUrls, f_defaultDelay, f_clock, f_bufferLength, nI n, f_canonHost, f_canonHostLength, nI P, f_schemePort, f_partLength, f_urlCount, f_urlChars, f_hostCount, nI (rc + 1), nI (rch + (n - P)), a_buffer, a_canon, a_part, a_urlPool, a_urlStart, a_urlLength, a_urlPath, a_urlHost, a_urlState, a_urlTime, a_names, a_nameLength, a_hostDelay, a_hostNext, cf_cp a_rulePool rch a_canon P (n - P), upd a_ruleStart rc (nI rch), upd a_ruleLength rc (nI (n - P)), upd a_ruleHost rc x)) : wpX_addRule post (f_maxUrls, f_defaultDelay, f_clock, f_bufferLength, nI n, f_canonHost, f_canonHostLength, nI P, f_schemePort, f_partLength, f_urlCount, f_urlChars, f_hostCount, nI rc, nI rch, a_buffer, a_canon, a_part, a_urlPool, a_urlStart, a_urlLength, a_urlPath, a_urlHost, a_urlState, a_urlTime, a_names, a_nameLength, a_hostDelay, a_hostNext, a_rulePool, a_ruleStart, a_ruleLength, a_ruleHost) x := by
  have ec : (nI rc).toNatClampNeg = rc := pk_cl rc
  have vi : vp_in (nI rc) 8 := pk_in rc 8 hr
  refine nm_r (pk_sub hP) ?_
  exact cx_copy_rulePool P (n - P) rch rfl rfl rfl (by omega) (by omega) ⟨vi, nm_r (e' := upd a_ruleStart rc (nI rch)) (by rw [ec]) ⟨vi, nm_r (e' := upd a_ruleLength rc (nI (n - P))) (by rw [ec]) ⟨vi, nm_r (e' := upd a_ruleHost rc x) (by rw [ec]) (nm_r (nI_add rch (n - P)) (nm_r (nI_1 rc) h))⟩⟩⟩
theorem cx_matches {post : Int32 → Prop} {u r s n p rs0 rl0 : Nat} (hu : u < 32) (hr : r < 8) (e1 : a_urlStart u = nI s) (e2 : a_urlLength u = nI n) (e3 : a_urlPath u = nI p) (hp : p ≤ n) (hs : s + n ≤ 256) (e4 : a_ruleStart r = nI rs0) (e5 : a_ruleLength r = nI rl0) (h128 : rs0 + rl0 ≤ 128) (h1 : cf_M a_urlPool a_urlStart a_urlLength a_urlPath a_urlHost a_rulePool a_ruleStart a_ruleLength a_ruleHost r u → post 1) (h0 : ¬ cf_M a_urlPool a_urlStart a_urlLength a_urlPath a_urlHost a_rulePool a_ruleStart a_ruleLength a_ruleHost r u → post 0) : wpX_matches post (f_maxUrls, f_defaultDelay, f_clock, f_bufferLength, f_canonLength, f_canonHost, f_canonHostLength, f_canonPath, f_schemePort, f_partLength, f_urlCount, f_urlChars, f_hostCount, f_ruleCount, f_ruleChars, a_buffer, a_canon, a_part, a_urlPool, a_urlStart, a_urlLength, a_urlPath, a_urlHost, a_urlState, a_urlTime, a_names, a_nameLength, a_hostDelay, a_hostNext, a_rulePool, a_ruleStart, a_ruleLength, a_ruleHost) (nI u) (nI r) := by
  have vi : vp_in (nI u) 32 := pk_in u 32 hu
  have vr : vp_in (nI r) 8 := pk_in r 8 hr
  have d1 : a_urlStart (nI u).toNatClampNeg = nI s := cf_ix u rfl (by omega) e1
  have d2 : a_urlLength (nI u).toNatClampNeg = nI n := cf_ix u rfl (by omega) e2
  have d3 : a_urlPath (nI u).toNatClampNeg = nI p := cf_ix u rfl (by omega) e3
  have d4 : a_ruleStart (nI r).toNatClampNeg = nI rs0 := cf_ix r rfl (by omega) e4
  have d5 : a_ruleLength (nI r).toNatClampNeg = nI rl0 := cf_ix r rfl (by omega) e5
  have c1 : (a_urlStart u).toNatClampNeg = s := by rw [e1]; exact pk_cl s
  have c2 : (a_urlLength u).toNatClampNeg = n := by rw [e2]; exact pk_cl n
  have c3 : (a_urlPath u).toNatClampNeg = p := by rw [e3]; exact pk_cl p
  have c4 : (a_ruleStart r).toNatClampNeg = rs0 := by rw [e4]; exact pk_cl rs0
  have c5 : (a_ruleLength r).toNatClampNeg = rl0 := by rw [e5]; exact pk_cl rl0
  unfold cf_M at h1 h0
  rw [c1, c2, c3, c4, c5] at h1 h0
  have cu : (nI u).toNatClampNeg = u := pk_cl u
  have cr : (nI r).toNatClampNeg = r := pk_cl r
  have eq0 : (a_urlHost (nI u).toNatClampNeg = a_ruleHost (nI r).toNatClampNeg) = (a_urlHost u = a_ruleHost r) := by rw [cu, cr]
  refine ⟨vi, vi, nm_r (e' := nI (s + p)) (by rw [d1, d3, nI_add]) ⟨vi, vi, nm_r (e' := nI (n - p)) (by rw [d2, d3, pk_sub hp]) ⟨vi, vr, ?_⟩⟩⟩
  rw [eq0]
  exact br_c (fun e => ⟨vr, pk_lt (n - p) rl0 (fun z => h0 (fun w => by have := w.2.1; omega)) (fun z => ⟨vr, vr, cx_same_rulePool_urlPool rs0 (s + p) rl0 d4 rfl d5 (by omega) (by omega) (fun w => br_f (by decide) (h1 ⟨e, z, w⟩)) (fun w => br_t rfl (h0 (fun w2 => w w2.2.2)))⟩) rfl d5⟩) (fun e => h0 (fun w => e w.1))
theorem cx_block {post : Int32 → SX → Prop} {M : Nat → Prop} {uc r : Nat} {x : Int32} (huc : uc ≤ 32) (hM : ∀ us u (p : Int32 → Prop), u < uc → (M u → p 1) → (¬ M u → p 0) → wpX_matches p (f_maxUrls, f_defaultDelay, f_clock, f_bufferLength, f_canonLength, f_canonHost, f_canonHostLength, f_canonPath, f_schemePort, f_partLength, nI uc, f_urlChars, f_hostCount, f_ruleCount, f_ruleChars, a_buffer, a_canon, a_part, a_urlPool, a_urlStart, a_urlLength, a_urlPath, a_urlHost, us, a_urlTime, a_names, a_nameLength, a_hostDelay, a_hostNext, a_rulePool, a_ruleStart, a_ruleLength, a_ruleHost) (nI u) (nI r)) (h : post (nI (cf_bk M a_urlState uc).2) (f_maxUrls, f_defaultDelay, f_clock, f_bufferLength, f_canonLength, f_canonHost, f_canonHostLength, f_canonPath, f_schemePort, f_partLength, nI uc, f_urlChars, f_hostCount, f_ruleCount, f_ruleChars, a_buffer, a_canon, a_part, a_urlPool, a_urlStart, a_urlLength, a_urlPath, a_urlHost, (cf_bk M a_urlState uc).1, a_urlTime, a_names, a_nameLength, a_hostDelay, a_hostNext, a_rulePool, a_ruleStart, a_ruleLength, a_ruleHost)) : wpX_blockMatching post (f_maxUrls, f_defaultDelay, f_clock, f_bufferLength, f_canonLength, f_canonHost, f_canonHostLength, f_canonPath, f_schemePort, f_partLength, nI uc, f_urlChars, f_hostCount, f_ruleCount, f_ruleChars, a_buffer, a_canon, a_part, a_urlPool, a_urlStart, a_urlLength, a_urlPath, a_urlHost, a_urlState, a_urlTime, a_names, a_nameLength, a_hostDelay, a_hostNext, a_rulePool, a_ruleStart, a_ruleLength, a_ruleHost) (nI r) := by
  refine cf_fold0 (fun f i s => wX_blockMatching_4 post (nI r) f_maxUrls f_defaultDelay f_clock f_bufferLength f_canonLength f_canonHost f_canonHostLength f_canonPath f_schemePort f_partLength (nI uc) f_urlChars f_hostCount f_ruleCount f_ruleChars f (nI s.2) (nI i) a_buffer a_canon a_part a_urlPool a_urlStart a_urlLength a_urlPath a_urlHost s.1 a_urlTime a_names a_nameLength a_hostDelay a_hostNext a_rulePool a_ruleStart a_ruleLength a_ruleHost) (fun i => cf_bk M a_urlState i) uc (fun f => pk_le uc uc (fun _ => h) (fun z => by omega)) (fun f i hi W => ?_)
  have bi := (cf_bkI M a_urlState i).1
  refine pk_le uc i (fun z => by omega) (fun _ => ⟨pk_in i 32 (by omega), cf_bi i (by omega) (fun e => hM _ i _ hi (fun m => br_f (by decide) ⟨pk_in i 32 (by omega), ?_⟩) (fun m => br_t rfl (nm_r (nI_1 i) ?_))) (fun e => nm_r (nI_1 i) ?_)⟩)
  · rw [cf_bkT ⟨e, m⟩] at W
    exact nm_r (e' := upd (cf_bk M a_urlState i).1 i 3) (by rw [pk_cl i]) (nm_r (nI_1 _) (nm_r (nI_1 i) W))
  · rw [cf_bkF (fun w => m w.2)] at W
    exact W
  · rw [cf_bkF (fun w => e w.1)] at W
    exact W
end
end
section
/-! the class: clock and counts -/
def cf_Rd (ck : Int32) (nx uh us : Nat → Int32) (uc h : Nat) : Prop := ¬ ck < nx h ∧ ∃ u, u < uc ∧ uh u = nI h ∧ us u = 1
theorem cf_bl {a : Nat → Int32} {x y : Int32} {A B : Prop} (u : Nat) (hu : u < 2 ^ 31) (f : y < a u → A) (g : ¬ y < a u → B) (hx : x = nI u := by rfl) : (y < a x.toNatClampNeg → A) ∧ (¬ y < a x.toNatClampNeg → B) := by
  rw [pk_cl u hx hu]
  exact ⟨f, g⟩
theorem cf_b2 {a : Nat → Int32} {x y : Int32} {A B : Prop} (u v : Nat) (hu : u < 2 ^ 31) (hv : v < 2 ^ 31) (f : a u ≤ a v → A) (g : ¬ a u ≤ a v → B) (hx : x = nI u := by rfl) (hy : y = nI v := by rfl) : (a x.toNatClampNeg ≤ a y.toNatClampNeg → A) ∧ (¬ a x.toNatClampNeg ≤ a y.toNatClampNeg → B) := by
  rw [pk_cl u hx hu, pk_cl v hy hv]
  exact ⟨f, g⟩
section
variable {f_maxUrls f_defaultDelay f_clock f_bufferLength f_canonLength f_canonHost f_canonHostLength f_canonPath f_schemePort f_partLength f_urlCount f_urlChars f_hostCount f_ruleCount f_ruleChars : Int32} {a_buffer a_canon a_part a_urlPool a_urlStart a_urlLength a_urlPath a_urlHost a_urlState a_urlTime a_names a_nameLength a_hostDelay a_hostNext a_rulePool a_ruleStart a_ruleLength a_ruleHost : Nat → Int32}
theorem cx_firstQueued {post : Int32 → Prop} {x : Int32} {uc : Nat} (huc : uc ≤ 32) (h : ∀ r, cf_FF (fun u => a_urlHost u = x ∧ a_urlState u = 1) uc r → post r) : wpX_firstQueued post (f_maxUrls, f_defaultDelay, f_clock, f_bufferLength, f_canonLength, f_canonHost, f_canonHostLength, f_canonPath, f_schemePort, f_partLength, nI uc, f_urlChars, f_hostCount, f_ruleCount, f_ruleChars, a_buffer, a_canon, a_part, a_urlPool, a_urlStart, a_urlLength, a_urlPath, a_urlHost, a_urlState, a_urlTime, a_names, a_nameLength, a_hostDelay, a_hostNext, a_rulePool, a_ruleStart, a_ruleLength, a_ruleHost) x := by
  refine cf_scan0 (fun f i => wX_firstQueued_2 post x f_maxUrls f_defaultDelay f_clock f_bufferLength f_canonLength f_canonHost f_canonHostLength f_canonPath f_schemePort f_partLength (nI uc) f_urlChars f_hostCount f_ruleCount f_ruleChars a_buffer a_canon a_part a_urlPool a_urlStart a_urlLength a_urlPath a_urlHost a_urlState a_urlTime a_names a_nameLength a_hostDelay a_hostNext a_rulePool a_ruleStart a_ruleLength a_ruleHost f (nI i)) (fun u => a_urlHost u = x ∧ a_urlState u = 1) uc
    (fun f hall => pk_le uc uc (fun _ => h _ (Or.inr ⟨hall, rfl⟩)) (fun z => by omega)) (fun f i hi hP hl => ?_) (fun f i hi hP W => ?_)
  · exact pk_le uc i (fun z => by omega) (fun _ => ⟨pk_in i 32 (by omega), br_t (cf_ix i rfl (by omega) hP.1) ⟨pk_in i 32 (by omega), br_t (cf_ix i rfl (by omega) hP.2) (h _ (Or.inl ⟨i, hi, hP, hl, rfl⟩))⟩⟩)
  · exact pk_le uc i (fun z => by omega) (fun _ => ⟨pk_in i 32 (by omega), cf_bi i (by omega) (fun e => ⟨pk_in i 32 (by omega), cf_bi i (by omega) (fun e2 => absurd ⟨e, e2⟩ hP) (fun e2 => nm_r (nI_1 i) W)⟩) (fun e => nm_r (nI_1 i) W)⟩)
theorem cx_isReady {post : Int32 → Prop} {uc h : Nat} (huc : uc ≤ 32) (h8 : h < 8) (h1 : cf_Rd f_clock a_hostNext a_urlHost a_urlState uc h → post 1) (h0 : ¬ cf_Rd f_clock a_hostNext a_urlHost a_urlState uc h → post 0) : wpX_isReady post (f_maxUrls, f_defaultDelay, f_clock, f_bufferLength, f_canonLength, f_canonHost, f_canonHostLength, f_canonPath, f_schemePort, f_partLength, nI uc, f_urlChars, f_hostCount, f_ruleCount, f_ruleChars, a_buffer, a_canon, a_part, a_urlPool, a_urlStart, a_urlLength, a_urlPath, a_urlHost, a_urlState, a_urlTime, a_names, a_nameLength, a_hostDelay, a_hostNext, a_rulePool, a_ruleStart, a_ruleLength, a_ruleHost) (nI h) := by
  refine ⟨pk_in h 8 h8, cf_bl h (by omega) (fun e => h0 (fun w => w.1 e)) (fun e => cx_firstQueued huc (fun r hr => ?_))⟩
  rcases hr with ⟨j, hj, pj, -, rfl⟩ | ⟨nj, rfl⟩
  · exact br_f (cf_m1 (by omega)) (h1 ⟨e, j, hj, pj⟩)
  · exact br_t rfl (h0 (fun w => by obtain ⟨-, j, hj, pj⟩ := w; exact nj j hj pj))
theorem cx_chooseHost {post : Int32 → Prop} {hc uc : Nat} (h8 : hc ≤ 8) (huc : uc ≤ 32) (h : post (cf_ch (cf_Rd f_clock a_hostNext a_urlHost a_urlState uc) a_hostNext hc)) : wpX_chooseHost post (f_maxUrls, f_defaultDelay, f_clock, f_bufferLength, f_canonLength, f_canonHost, f_canonHostLength, f_canonPath, f_schemePort, f_partLength, nI uc, f_urlChars, nI hc, f_ruleCount, f_ruleChars, a_buffer, a_canon, a_part, a_urlPool, a_urlStart, a_urlLength, a_urlPath, a_urlHost, a_urlState, a_urlTime, a_names, a_nameLength, a_hostDelay, a_hostNext, a_rulePool, a_ruleStart, a_ruleLength, a_ruleHost) := by
  refine cf_fold0 (fun f i s => wX_chooseHost_4 post f_maxUrls f_defaultDelay f_clock f_bufferLength f_canonLength f_canonHost f_canonHostLength f_canonPath f_schemePort f_partLength (nI uc) f_urlChars (nI hc) f_ruleCount f_ruleChars a_buffer a_canon a_part a_urlPool a_urlStart a_urlLength a_urlPath a_urlHost a_urlState a_urlTime a_names a_nameLength a_hostDelay a_hostNext a_rulePool a_ruleStart a_ruleLength a_ruleHost f s (nI i)) (fun i => cf_ch (cf_Rd f_clock a_hostNext a_urlHost a_urlState uc) a_hostNext i) hc (fun f => pk_le hc hc (fun _ => h) (fun z => by omega)) (fun f i hi W => ?_)
  refine pk_le hc i (fun z => by omega) (fun _ => cx_isReady huc (by omega) (fun R => br_f (by decide) (br_c (fun e => nm_r (nI_1 i) ?_) (fun e => ?_))) (fun R => br_t rfl (nm_r (nI_1 i) ?_)))
  · rw [cf_chT ⟨R, Or.inl e⟩] at W
    exact W
  · rcases cf_chI (cf_Rd f_clock a_hostNext a_urlHost a_urlState uc) a_hostNext i with y | ⟨j, hj, rj, ej⟩
    · exact absurd y e
    · have ej' : (cf_ch (cf_Rd f_clock a_hostNext a_urlHost a_urlState uc) a_hostNext i).toNatClampNeg = j := by rw [ej]; exact pk_cl j
      refine ⟨pk_in i 8 (by omega), pk_in j 8 (by omega) ej, cf_b2 j i (by omega) (by omega) (fun z => nm_r (nI_1 i) ?_) (fun z => nm_r (nI_1 i) ?_) ej⟩
      · rw [cf_chF (fun w => by
          rcases w.2 with q | q
          · exact e q
          · rw [ej'] at q
            exact absurd z (Int32.not_le.mpr q))] at W
        exact W
      · rw [cf_chT ⟨R, Or.inr (by rw [ej']; exact Int32.not_le.mp z)⟩] at W
        exact W
  · rw [cf_chF (fun w => R w.1)] at W
    exact W
theorem cx_dispatch {post : SX → Prop} {uc a b : Nat} (huc : uc ≤ 32) (hb : b < 8) (ha : a < uc) (hp : a_urlHost a = nI b ∧ a_urlState a = 1) (hl : ∀ i, i < a → ¬ (a_urlHost i = nI b ∧ a_urlState i = 1)) (h : post (f_maxUrls, f_defaultDelay, f_clock, f_bufferLength, f_canonLength, f_canonHost, f_canonHostLength, f_canonPath, f_schemePort, f_partLength, nI uc, f_urlChars, f_hostCount, f_ruleCount, f_ruleChars, a_buffer, a_canon, a_part, a_urlPool, a_urlStart, a_urlLength, a_urlPath, a_urlHost, upd a_urlState a 2, upd a_urlTime a f_clock, a_names, a_nameLength, a_hostDelay, upd a_hostNext b (f_clock + a_hostDelay b), a_rulePool, a_ruleStart, a_ruleLength, a_ruleHost)) : wpX_dispatchFrom post (f_maxUrls, f_defaultDelay, f_clock, f_bufferLength, f_canonLength, f_canonHost, f_canonHostLength, f_canonPath, f_schemePort, f_partLength, nI uc, f_urlChars, f_hostCount, f_ruleCount, f_ruleChars, a_buffer, a_canon, a_part, a_urlPool, a_urlStart, a_urlLength, a_urlPath, a_urlHost, a_urlState, a_urlTime, a_names, a_nameLength, a_hostDelay, a_hostNext, a_rulePool, a_ruleStart, a_ruleLength, a_ruleHost) (nI b) := by
  unfold wpX_dispatchFrom
  dsimp only
  refine cx_firstQueued huc (fun r hr => ?_)
  have e : r = nI a := cf_FFu (fun _ _ => Iff.rfl) hr (Or.inl ⟨a, ha, hp, hl, rfl⟩)
  subst e
  have va : vp_in (nI a) 32 := pk_in a 32 (by omega)
  have vb : vp_in (nI b) 8 := pk_in b 8 hb
  have ca : (nI a).toNatClampNeg = a := pk_cl a
  have cb : (nI b).toNatClampNeg = b := pk_cl b
  exact br_f (cf_m1 (by omega)) ⟨va, nm_r (e' := upd a_urlState a 2) (by rw [ca]) ⟨va, nm_r (e' := upd a_urlTime a f_clock) (by rw [ca]) ⟨vb, vb, nm_r (e' := upd a_hostNext b (f_clock + a_hostDelay b)) (by rw [cb]) h⟩⟩⟩
theorem cx_urlsIn {post : Int32 → Prop} {x : Int32} {uc : Nat} (huc : uc ≤ 32) (h : post (nI (cf_ct (fun u => a_urlState u = x) uc))) : wpX_urlsIn post (f_maxUrls, f_defaultDelay, f_clock, f_bufferLength, f_canonLength, f_canonHost, f_canonHostLength, f_canonPath, f_schemePort, f_partLength, nI uc, f_urlChars, f_hostCount, f_ruleCount, f_ruleChars, a_buffer, a_canon, a_part, a_urlPool, a_urlStart, a_urlLength, a_urlPath, a_urlHost, a_urlState, a_urlTime, a_names, a_nameLength, a_hostDelay, a_hostNext, a_rulePool, a_ruleStart, a_ruleLength, a_ruleHost) x := by
  refine cf_fold0 (fun f i s => wX_urlsIn_4 post x f_maxUrls f_defaultDelay f_clock f_bufferLength f_canonLength f_canonHost f_canonHostLength f_canonPath f_schemePort f_partLength (nI uc) f_urlChars f_hostCount f_ruleCount f_ruleChars a_buffer a_canon a_part a_urlPool a_urlStart a_urlLength a_urlPath a_urlHost a_urlState a_urlTime a_names a_nameLength a_hostDelay a_hostNext a_rulePool a_ruleStart a_ruleLength a_ruleHost f (nI s) (nI i)) (fun i => cf_ct (fun u => a_urlState u = x) i) uc (fun f => pk_le uc uc (fun _ => h) (fun z => by omega)) (fun f i hi W => ?_)
  refine pk_le uc i (fun z => by omega) (fun _ => ⟨pk_in i 32 (by omega), cf_bi i (by omega) (fun e => nm_r (nI_1 _) (nm_r (nI_1 i) ?_)) (fun e => nm_r (nI_1 i) ?_)⟩)
  · rw [cf_ctT (P := fun u => a_urlState u = x) e] at W
    exact W
  · rw [cf_ctF (P := fun u => a_urlState u = x) e] at W
    exact W
theorem cx_urlsOf {post : Int32 → Prop} {x y : Int32} {uc : Nat} (huc : uc ≤ 32) (h : post (nI (cf_ct (fun u => a_urlHost u = x ∧ a_urlState u = y) uc))) : wpX_urlsOfHostIn post (f_maxUrls, f_defaultDelay, f_clock, f_bufferLength, f_canonLength, f_canonHost, f_canonHostLength, f_canonPath, f_schemePort, f_partLength, nI uc, f_urlChars, f_hostCount, f_ruleCount, f_ruleChars, a_buffer, a_canon, a_part, a_urlPool, a_urlStart, a_urlLength, a_urlPath, a_urlHost, a_urlState, a_urlTime, a_names, a_nameLength, a_hostDelay, a_hostNext, a_rulePool, a_ruleStart, a_ruleLength, a_ruleHost) x y := by
  refine cf_fold0 (fun f i s => wX_urlsOfHostIn_5 post x y f_maxUrls f_defaultDelay f_clock f_bufferLength f_canonLength f_canonHost f_canonHostLength f_canonPath f_schemePort f_partLength (nI uc) f_urlChars f_hostCount f_ruleCount f_ruleChars a_buffer a_canon a_part a_urlPool a_urlStart a_urlLength a_urlPath a_urlHost a_urlState a_urlTime a_names a_nameLength a_hostDelay a_hostNext a_rulePool a_ruleStart a_ruleLength a_ruleHost f (nI s) (nI i)) (fun i => cf_ct (fun u => a_urlHost u = x ∧ a_urlState u = y) i) uc (fun f => pk_le uc uc (fun _ => h) (fun z => by omega)) (fun f i hi W => ?_)
  refine pk_le uc i (fun z => by omega) (fun _ => ⟨pk_in i 32 (by omega), cf_bi i (by omega) (fun e => ⟨pk_in i 32 (by omega), cf_bi i (by omega) (fun e2 => nm_r (nI_1 _) (nm_r (nI_1 i) ?_)) (fun e2 => nm_r (nI_1 i) ?_)⟩) (fun e => nm_r (nI_1 i) ?_)⟩)
  · rw [cf_ctT (P := fun u => a_urlHost u = x ∧ a_urlState u = y) ⟨e, e2⟩] at W
    exact W
  · rw [cf_ctF (P := fun u => a_urlHost u = x ∧ a_urlState u = y) (fun w => e2 w.2)] at W
    exact W
  · rw [cf_ctF (P := fun u => a_urlHost u = x ∧ a_urlState u = y) (fun w => e w.1)] at W
    exact W
end
end
section
/-! what a call decides, and the class's three calls -/
def cf_Rf (D : Prop) (F Q : Int32 → Prop) (q : Int32) (Fu : Prop) (hc : Nat) (r : Int32) : Prop := (D ∧ r = -2) ∨ (¬ D ∧ ∃ x, F x ∧ ((Q x ∧ r = q) ∨ (¬ Q x ∧ ((Fu ∧ r = -4) ∨ (¬ Fu ∧ x = -1 ∧ 8 ≤ hc ∧ r = -5)))))
def cf_Ac (D : Prop) (F Q : Int32 → Prop) (Fu : Prop) (hc : Nat) (x : Int32) : Prop := ¬ D ∧ F x ∧ ¬ Q x ∧ ¬ Fu ∧ (x = -1 → hc < 8)
theorem cf_Rfu {D : Prop} {F Q : Int32 → Prop} {q : Int32} {Fu : Prop} {hc : Nat} {r r' : Int32} (hF : ∀ x y, F x → F y → x = y) (h : cf_Rf D F Q q Fu hc r) (h' : cf_Rf D F Q q Fu hc r') : r = r' := by
  rcases h with ⟨a, e⟩ | ⟨a, x, fx, b⟩ <;> rcases h' with ⟨a', e'⟩ | ⟨a', x', fx', b'⟩
  · rw [e, e']
  · exact absurd a a'
  · exact absurd a' a
  · have ex := hF x x' fx fx'
    subst ex
    rcases b with ⟨b, e⟩ | ⟨b, d⟩ <;> rcases b' with ⟨b', e'⟩ | ⟨b', d'⟩
    · rw [e, e']
    · exact absurd b b'
    · exact absurd b' b
    · rcases d with ⟨d, e⟩ | ⟨d, -, -, e⟩ <;> rcases d' with ⟨d', e'⟩ | ⟨d', -, -, e'⟩
      · rw [e, e']
      · exact absurd d d'
      · exact absurd d' d
      · rw [e, e']
theorem cf_RA {D : Prop} {F Q : Int32 → Prop} {q : Int32} {Fu : Prop} {hc : Nat} {r x : Int32} (hF : ∀ x y, F x → F y → x = y) (h : cf_Rf D F Q q Fu hc r) (h' : cf_Ac D F Q Fu hc x) : False := by
  obtain ⟨a1, a2, a3, a4, a5⟩ := h'
  rcases h with ⟨a, e⟩ | ⟨a, y, fy, b⟩
  · exact a1 a
  · have ex := hF y x fy a2
    subst ex
    rcases b with ⟨b, e⟩ | ⟨b, d⟩
    · exact a3 b
    · rcases d with ⟨d, e⟩ | ⟨d, e1, e2, -⟩
      · exact a4 d
      · have := a5 e1
        omega
theorem cf_Rfc {D D' : Prop} {F F' Q Q' : Int32 → Prop} {q : Int32} {Fu : Prop} {hc : Nat} {r : Int32} (hD : D ↔ D') (hF : ∀ x, F x ↔ F' x) (hQ : ∀ x, Q x ↔ Q' x) (h : cf_Rf D F Q q Fu hc r) : cf_Rf D' F' Q' q Fu hc r := by
  rcases h with ⟨a, e⟩ | ⟨a, y, fy, b⟩
  · exact Or.inl ⟨hD.mp a, e⟩
  · refine Or.inr ⟨fun w => a (hD.mpr w), y, (hF y).mp fy, ?_⟩
    rcases b with ⟨b, e⟩ | ⟨b, d⟩
    · exact Or.inl ⟨(hQ y).mp b, e⟩
    · exact Or.inr ⟨fun w => b ((hQ y).mpr w), d⟩
theorem cf_Acc {D D' : Prop} {F F' Q Q' : Int32 → Prop} {Fu : Prop} {hc : Nat} {x : Int32} (hD : D ↔ D') (hF : ∀ x, F x ↔ F' x) (hQ : ∀ x, Q x ↔ Q' x) (h : cf_Ac D F Q Fu hc x) : cf_Ac D' F' Q' Fu hc x :=
  ⟨fun w => h.1 (hD.mpr w), (hF x).mp h.2.1, fun w => h.2.2.1 ((hQ x).mpr w), h.2.2.2⟩
section
variable {f_maxUrls f_defaultDelay f_clock f_bufferLength f_canonLength f_canonHost f_canonHostLength f_canonPath f_schemePort f_partLength f_urlCount f_urlChars f_hostCount f_ruleCount f_ruleChars : Int32} {a_buffer a_canon a_part a_urlPool a_urlStart a_urlLength a_urlPath a_urlHost a_urlState a_urlTime a_names a_nameLength a_hostDelay a_hostNext a_rulePool a_ruleStart a_ruleLength a_ruleHost : Nat → Int32}
variable {t : Nat → Nat} {L : Nat}
theorem cx_submit {post : Int32 → SX → Prop} {mu uc uch hc rc : Nat} (hL : L ≤ 48) (hb : ∀ j, a_buffer j = nI (t j)) (ht : ∀ j, t j ≤ 126) (h32 : mu ≤ 32) (hum : uc ≤ mu) (hch : uch ≤ 256) (h8 : hc ≤ 8) (hr8 : rc ≤ 8) (hU : ∀ u, u < uc → ∃ s m, a_urlStart u = nI s ∧ a_urlLength u = nI m ∧ s + m ≤ 256) (hR : ∀ r, r < rc → ∃ s m, a_ruleStart r = nI s ∧ a_ruleLength r = nI m ∧ s + m ≤ 128)
    (hN : (∀ c he p pE qE po D1 D2, ¬ cf_PS t L c he p pE qE po D1 D2) → ∀ a1 a2 n1 n2 n3 n4 n5 n6, post (-1) (nI mu, f_defaultDelay, f_clock, 0, n1, n2, n3, n4, n5, n6, nI uc, nI uch, nI hc, nI rc, f_ruleChars, a_buffer, a1, a2, a_urlPool, a_urlStart, a_urlLength, a_urlPath, a_urlHost, a_urlState, a_urlTime, a_names, a_nameLength, a_hostDelay, a_hostNext, a_rulePool, a_ruleStart, a_ruleLength, a_ruleHost))
    (hRf : ∀ c he p pE qE po D1 D2 n H HL P, cf_PS t L c he p pE qE po D1 D2 → n = (cf_out t he po D1 D2).length → H = c + 3 → HL = he - (c + 3) → P = he + po.length → ∀ a1, cf_K a1 n (cf_out t he po D1 D2) → ∀ r, cf_Rf (∃ u, u < uc ∧ cf_Dup a_urlPool a_urlStart a_urlLength a1 n u) (cf_FF (cf_Ph a_names a_nameLength a1 H HL) hc) (fun x => ∃ r, r < rc ∧ cf_Pr a_rulePool a_ruleStart a_ruleLength a_ruleHost a1 P n x r) (-3) (mu ≤ uc ∨ 256 < uch + n) hc r → ∀ a2 n5 n6, post r (nI mu, f_defaultDelay, f_clock, 0, nI n, nI H, nI HL, nI P, n5, n6, nI uc, nI uch, nI hc, nI rc, f_ruleChars, a_buffer, a1, a2, a_urlPool, a_urlStart, a_urlLength, a_urlPath, a_urlHost, a_urlState, a_urlTime, a_names, a_nameLength, a_hostDelay, a_hostNext, a_rulePool, a_ruleStart, a_ruleLength, a_ruleHost))
    (hA : ∀ c he p pE qE po D1 D2 n H HL P, cf_PS t L c he p pE qE po D1 D2 → n = (cf_out t he po D1 D2).length → H = c + 3 → HL = he - (c + 3) → P = he + po.length → ∀ a1, cf_K a1 n (cf_out t he po D1 D2) → ∀ x, cf_Ac (∃ u, u < uc ∧ cf_Dup a_urlPool a_urlStart a_urlLength a1 n u) (cf_FF (cf_Ph a_names a_nameLength a1 H HL) hc) (fun x => ∃ r, r < rc ∧ cf_Pr a_rulePool a_ruleStart a_ruleLength a_ruleHost a1 P n x r) (mu ≤ uc ∨ 256 < uch + n) hc x →
      (∀ h, h < hc → x = nI h → ∀ a2 n5 n6, post (nI uc) (nI mu, f_defaultDelay, f_clock, 0, nI n, nI H, nI HL, nI P, n5, n6, nI (uc + 1), nI (uch + n), nI hc, nI rc, f_ruleChars, a_buffer, a1, a2, cf_cp a_urlPool uch a1 0 n, upd a_urlStart uc (nI uch), upd a_urlLength uc (nI n), upd a_urlPath uc (nI P), upd a_urlHost uc (nI h), upd a_urlState uc 1, upd a_urlTime uc (-1), a_names, a_nameLength, a_hostDelay, a_hostNext, a_rulePool, a_ruleStart, a_ruleLength, a_ruleHost)) ∧
      (x = -1 → ∀ a2 n5 n6, post (nI uc) (nI mu, f_defaultDelay, f_clock, 0, nI n, nI H, nI HL, nI P, n5, n6, nI (uc + 1), nI (uch + n), nI (hc + 1), nI rc, f_ruleChars, a_buffer, a1, a2, cf_cp a_urlPool uch a1 0 n, upd a_urlStart uc (nI uch), upd a_urlLength uc (nI n), upd a_urlPath uc (nI P), upd a_urlHost uc (nI hc), upd a_urlState uc 1, upd a_urlTime uc (-1), cf_cp a_names (hc * 16) a1 H HL, upd a_nameLength hc (nI HL), upd a_hostDelay hc f_defaultDelay, upd a_hostNext hc 0, a_rulePool, a_ruleStart, a_ruleLength, a_ruleHost))) :
    wpX_submit post (nI mu, f_defaultDelay, f_clock, nI L, f_canonLength, f_canonHost, f_canonHostLength, f_canonPath, f_schemePort, f_partLength, nI uc, nI uch, nI hc, nI rc, f_ruleChars, a_buffer, a_canon, a_part, a_urlPool, a_urlStart, a_urlLength, a_urlPath, a_urlHost, a_urlState, a_urlTime, a_names, a_nameLength, a_hostDelay, a_hostNext, a_rulePool, a_ruleStart, a_ruleLength, a_ruleHost) := by
  unfold wpX_submit
  dsimp only
  refine cx_canon hL hb ht (fun h a1 a2 n1 n2 n3 n4 n5 n6 => br_t rfl (hN h _ _ _ _ _ _ _ _)) (fun c he p pE qE po D1 D2 ps a1 a2 n5 n6 hK => br_f (by decide) ?_)
  have bo := cf_outB ht hL ps
  have ol := cf_outL (t := t) (he := he) (po := po) (D1 := D1) (D2 := D2)
  have hRf' := hRf c he p pE qE po D1 D2 _ _ _ _ ps rfl rfl rfl rfl a1 hK
  have hA' := hA c he p pE qE po D1 D2 _ _ _ _ ps rfl rfl rfl rfl a1 hK
  generalize (cf_out t he po D1 D2).length = n at *
  refine cx_isAdmitted hU (by omega) (by omega) (fun d => br_f (by decide) (hRf' _ (Or.inl ⟨d, rfl⟩) _ _ _)) (fun d => br_t rfl (cx_findHost h8 (by omega) (by omega) (fun x fx => ?_)))
  have nd : ¬ (∃ u, u < uc ∧ cf_Dup a_urlPool a_urlStart a_urlLength a1 n u) := fun w => by
    obtain ⟨u, hu, w⟩ := w
    exact d u hu w
  refine cx_isDisallowed hR hr8 (by omega) (by omega) (fun q => br_f (by decide) (hRf' _ (Or.inr ⟨nd, x, fx, Or.inl ⟨q, rfl⟩⟩) _ _ _)) (fun q => br_t rfl ?_)
  have nq : ¬ (∃ r, r < rc ∧ cf_Pr a_rulePool a_ruleStart a_ruleLength a_ruleHost a1 (he + po.length) n x r) := fun w => by
    obtain ⟨r, hr, w⟩ := w
    exact q r hr w
  refine pk_le mu uc (fun z => hRf' _ (Or.inr ⟨nd, x, fx, Or.inr ⟨nq, Or.inl ⟨Or.inl z, rfl⟩⟩⟩) _ _ _) (fun z => pk_le (uch + n) 256 (fun z2 => ?_) (fun z2 => hRf' _ (Or.inr ⟨nd, x, fx, Or.inr ⟨nq, Or.inl ⟨Or.inr z2, rfl⟩⟩⟩) _ _ _) (nI_add uch n))
  have nf : ¬ (mu ≤ uc ∨ 256 < uch + n) := by omega
  have fx2 := fx
  rcases fx with ⟨h, hh, -, -, rfl⟩ | ⟨-, rfl⟩
  · have g := (hA' _ ⟨nd, fx2, nq, nf, fun w => absurd w (cf_m1 (by omega))⟩).1 h hh rfl
    exact br_f (cf_m1 (by omega)) (br_f (cf_m1 (by omega)) (cx_addUrl (by omega) (by omega) (by omega) (g _ _ _)))
  · rcases Nat.lt_or_ge hc 8 with y | y
    · have g := (hA' _ ⟨nd, fx2, nq, nf, fun _ => y⟩).2 rfl
      exact cx_newHost y (by omega) (by omega) (br_f (cf_m1 (by omega)) (cx_addUrl (by omega) (by omega) (by omega) (g _ _ _)))
    · exact br_t rfl (pk_lt hc 8 (fun w => by omega) (fun _ => br_t rfl (hRf' _ (Or.inr ⟨nd, _, fx2, Or.inr ⟨nq, Or.inr ⟨nf, rfl, y, rfl⟩⟩⟩) _ _ _)))
end
end
section
/-! the class: disallow and setDelay (made by mk33.py) -/
section
variable {f_maxUrls f_defaultDelay f_clock f_bufferLength f_canonLength f_canonHost f_canonHostLength f_canonPath f_schemePort f_partLength f_urlCount f_urlChars f_hostCount f_ruleCount f_ruleChars : Int32} {a_buffer a_canon a_part a_urlPool a_urlStart a_urlLength a_urlPath a_urlHost a_urlState a_urlTime a_names a_nameLength a_hostDelay a_hostNext a_rulePool a_ruleStart a_ruleLength a_ruleHost : Nat → Int32}
variable {t : Nat → Nat} {L : Nat}
theorem cx_disallow {post : Int32 → SX → Prop} {uc hc rc rch : Nat} (hL : L ≤ 48) (hb : ∀ j, a_buffer j = nI (t j)) (ht : ∀ j, t j ≤ 126) (h32 : uc ≤ 32) (h8 : hc ≤ 8) (hr8 : rc ≤ 8) (hrch : rch ≤ 128) (hU : ∀ u, u < uc → ∃ s m p, a_urlStart u = nI s ∧ a_urlLength u = nI m ∧ a_urlPath u = nI p ∧ p ≤ m ∧ s + m ≤ 256) (hR : ∀ r, r < rc → ∃ s m, a_ruleStart r = nI s ∧ a_ruleLength r = nI m ∧ s + m ≤ 128)
    (hN : (∀ c he p pE qE po D1 D2, ¬ cf_PS t L c he p pE qE po D1 D2) → ∀ a1 a2 n1 n2 n3 n4 n5 n6, post (-1) (f_maxUrls, f_defaultDelay, f_clock, 0, n1, n2, n3, n4, n5, n6, nI uc, f_urlChars, nI hc, nI rc, nI rch, a_buffer, a1, a2, a_urlPool, a_urlStart, a_urlLength, a_urlPath, a_urlHost, a_urlState, a_urlTime, a_names, a_nameLength, a_hostDelay, a_hostNext, a_rulePool, a_ruleStart, a_ruleLength, a_ruleHost))
    (hRf : ∀ c he p pE qE po D1 D2 n H HL P, cf_PS t L c he p pE qE po D1 D2 → n = (cf_out t he po D1 D2).length → H = c + 3 → HL = he - (c + 3) → P = he + po.length → ∀ a1, cf_K a1 n (cf_out t he po D1 D2) → ∀ r, cf_Rf False (cf_FF (cf_Ph a_names a_nameLength a1 H HL) hc) (fun x => ∃ r, r < rc ∧ cf_Pe a_rulePool a_ruleStart a_ruleLength a_ruleHost a1 P n x r) (-2) (8 ≤ rc ∨ 128 < rch + (n - P)) hc r → ∀ a2 n5 n6, post r (f_maxUrls, f_defaultDelay, f_clock, 0, nI n, nI H, nI HL, nI P, n5, n6, nI uc, f_urlChars, nI hc, nI rc, nI rch, a_buffer, a1, a2, a_urlPool, a_urlStart, a_urlLength, a_urlPath, a_urlHost, a_urlState, a_urlTime, a_names, a_nameLength, a_hostDelay, a_hostNext, a_rulePool, a_ruleStart, a_ruleLength, a_ruleHost))
    (hA : ∀ c he p pE qE po D1 D2 n H HL P, cf_PS t L c he p pE qE po D1 D2 → n = (cf_out t he po D1 D2).length → H = c + 3 → HL = he - (c + 3) → P = he + po.length → ∀ a1, cf_K a1 n (cf_out t he po D1 D2) → ∀ x, cf_Ac False (cf_FF (cf_Ph a_names a_nameLength a1 H HL) hc) (fun x => ∃ r, r < rc ∧ cf_Pe a_rulePool a_ruleStart a_ruleLength a_ruleHost a1 P n x r) (8 ≤ rc ∨ 128 < rch + (n - P)) hc x →
      (∀ h, h < hc → x = nI h → ∀ a2 n5 n6, post (nI (cf_bk (cf_M a_urlPool a_urlStart a_urlLength a_urlPath a_urlHost (cf_cp a_rulePool rch a1 P (n - P)) (upd a_ruleStart rc (nI rch)) (upd a_ruleLength rc (nI (n - P))) (upd a_ruleHost rc (nI h)) rc) a_urlState uc).2) (f_maxUrls, f_defaultDelay, f_clock, 0, nI n, nI H, nI HL, nI P, n5, n6, nI uc, f_urlChars, nI hc, nI (rc + 1), nI (rch + (n - P)), a_buffer, a1, a2, a_urlPool, a_urlStart, a_urlLength, a_urlPath, a_urlHost, (cf_bk (cf_M a_urlPool a_urlStart a_urlLength a_urlPath a_urlHost (cf_cp a_rulePool rch a1 P (n - P)) (upd a_ruleStart rc (nI rch)) (upd a_ruleLength rc (nI (n - P))) (upd a_ruleHost rc (nI h)) rc) a_urlState uc).1, a_urlTime, a_names, a_nameLength, a_hostDelay, a_hostNext, cf_cp a_rulePool rch a1 P (n - P), upd a_ruleStart rc (nI rch), upd a_ruleLength rc (nI (n - P)), upd a_ruleHost rc (nI h))) ∧
      (x = -1 → ∀ a2 n5 n6, post (nI (cf_bk (cf_M a_urlPool a_urlStart a_urlLength a_urlPath a_urlHost (cf_cp a_rulePool rch a1 P (n - P)) (upd a_ruleStart rc (nI rch)) (upd a_ruleLength rc (nI (n - P))) (upd a_ruleHost rc (nI hc)) rc) a_urlState uc).2) (f_maxUrls, f_defaultDelay, f_clock, 0, nI n, nI H, nI HL, nI P, n5, n6, nI uc, f_urlChars, nI (hc + 1), nI (rc + 1), nI (rch + (n - P)), a_buffer, a1, a2, a_urlPool, a_urlStart, a_urlLength, a_urlPath, a_urlHost, (cf_bk (cf_M a_urlPool a_urlStart a_urlLength a_urlPath a_urlHost (cf_cp a_rulePool rch a1 P (n - P)) (upd a_ruleStart rc (nI rch)) (upd a_ruleLength rc (nI (n - P))) (upd a_ruleHost rc (nI hc)) rc) a_urlState uc).1, a_urlTime, cf_cp a_names (hc * 16) a1 H HL, upd a_nameLength hc (nI HL), upd a_hostDelay hc f_defaultDelay, upd a_hostNext hc 0, cf_cp a_rulePool rch a1 P (n - P), upd a_ruleStart rc (nI rch), upd a_ruleLength rc (nI (n - P)), upd a_ruleHost rc (nI hc)))) :
    wpX_disallow post (f_maxUrls, f_defaultDelay, f_clock, nI L, f_canonLength, f_canonHost, f_canonHostLength, f_canonPath, f_schemePort, f_partLength, nI uc, f_urlChars, nI hc, nI rc, nI rch, a_buffer, a_canon, a_part, a_urlPool, a_urlStart, a_urlLength, a_urlPath, a_urlHost, a_urlState, a_urlTime, a_names, a_nameLength, a_hostDelay, a_hostNext, a_rulePool, a_ruleStart, a_ruleLength, a_ruleHost) := by
  unfold wpX_disallow
  dsimp only
  refine cx_canon hL hb ht (fun h a1 a2 n1 n2 n3 n4 n5 n6 => br_t rfl (hN h _ _ _ _ _ _ _ _)) (fun c he p pE qE po D1 D2 ps a1 a2 n5 n6 hK => br_f (by decide) ?_)
  have bo := cf_outB ht hL ps
  have ol := cf_outL (t := t) (he := he) (po := po) (D1 := D1) (D2 := D2)
  have hRf' := hRf c he p pE qE po D1 D2 _ _ _ _ ps rfl rfl rfl rfl a1 hK
  have hA' := hA c he p pE qE po D1 D2 _ _ _ _ ps rfl rfl rfl rfl a1 hK
  have hpn : he + po.length ≤ (cf_out t he po D1 D2).length := by omega
  have hhl : he - (c + 3) ≤ 16 := by omega
  have hhn : c + 3 + (he - (c + 3)) ≤ 49 := by omega
  have hn49 : (cf_out t he po D1 D2).length ≤ 49 := by omega
  generalize (cf_out t he po D1 D2).length = n at *
  generalize he + po.length = P at *
  generalize c + 3 = H at *
  generalize he - H = HL at *
  refine cx_findHost h8 hhl hhn (fun x fx => cx_isRule hR hr8 hn49 hpn (fun q => br_f (by decide) (hRf' _ (Or.inr ⟨id, x, fx, Or.inl ⟨q, rfl⟩⟩) _ _ _)) (fun q => br_t rfl ?_))
  have nq : ¬ (∃ r, r < rc ∧ cf_Pe a_rulePool a_ruleStart a_ruleLength a_ruleHost a1 P n x r) := fun w => by
    obtain ⟨r, hr, w⟩ := w
    exact q r hr w
  have es : (nI rch + nI n) - nI P = nI (rch + (n - P)) := by
    rw [nI_add, pk_sub (by omega)]
    exact congrArg nI (by omega)
  refine pk_le 8 rc (fun z => hRf' _ (Or.inr ⟨id, x, fx, Or.inr ⟨nq, Or.inl ⟨Or.inl z, rfl⟩⟩⟩) _ _ _) (fun z => pk_le (rch + (n - P)) 128 (fun z2 => ?_) (fun z2 => hRf' _ (Or.inr ⟨id, x, fx, Or.inr ⟨nq, Or.inl ⟨Or.inr z2, rfl⟩⟩⟩) _ _ _) es)
  have nf : ¬ (8 ≤ rc ∨ 128 < rch + (n - P)) := by omega
  have fx2 := fx
  rcases fx with ⟨h, hh, -, -, rfl⟩ | ⟨-, rfl⟩
  · have g := (hA' _ ⟨id, fx2, nq, nf, fun w => absurd w (cf_m1 (by omega))⟩).1 h hh rfl
    refine br_f (cf_m1 (by omega)) (br_f (cf_m1 (by omega)) (cx_addRule z hpn (by omega) (by omega) (cx_block (M := (cf_M a_urlPool a_urlStart a_urlLength a_urlPath a_urlHost (cf_cp a_rulePool rch a1 P (n - P)) (upd a_ruleStart rc (nI rch)) (upd a_ruleLength rc (nI (n - P))) (upd a_ruleHost rc (nI h)) rc)) (x := 0) h32 (fun us u p hu k1 k0 => ?_) (g _ _ _))))
    obtain ⟨s, m, p0, e1, e2, e3, e4, e5⟩ := hU u hu
    exact cx_matches (by omega) z e1 e2 e3 e4 e5 pk_us pk_us (by omega) k1 k0
  · rcases Nat.lt_or_ge hc 8 with y | y
    · have g := (hA' _ ⟨id, fx2, nq, nf, fun _ => y⟩).2 rfl
      refine cx_newHost y hhl hhn (br_f (cf_m1 (by omega)) (cx_addRule z hpn (by omega) (by omega) (cx_block (M := (cf_M a_urlPool a_urlStart a_urlLength a_urlPath a_urlHost (cf_cp a_rulePool rch a1 P (n - P)) (upd a_ruleStart rc (nI rch)) (upd a_ruleLength rc (nI (n - P))) (upd a_ruleHost rc (nI hc)) rc)) (x := 0) h32 (fun us u p hu k1 k0 => ?_) (g _ _ _))))
      obtain ⟨s, m, p0, e1, e2, e3, e4, e5⟩ := hU u hu
      exact cx_matches (by omega) z e1 e2 e3 e4 e5 pk_us pk_us (by omega) k1 k0
    · exact br_t rfl (pk_lt hc 8 (fun w => by omega) (fun _ => br_t rfl (hRf' _ (Or.inr ⟨id, _, fx2, Or.inr ⟨nq, Or.inr ⟨nf, rfl, y, rfl⟩⟩⟩) _ _ _)))
theorem cx_setDelay {post : Int32 → SX → Prop} {hc : Nat} {v : Int32} (hL : L ≤ 48) (hb : ∀ j, a_buffer j = nI (t j)) (ht : ∀ j, t j ≤ 126) (h8 : hc ≤ 8) (hv1 : ¬ v < 1) (hv2 : v ≤ 16)
    (hN : (∀ c he p pE qE po D1 D2, ¬ cf_PS t L c he p pE qE po D1 D2) → ∀ a1 a2 n1 n2 n3 n4 n5 n6, post (-1) (f_maxUrls, f_defaultDelay, f_clock, 0, n1, n2, n3, n4, n5, n6, f_urlCount, f_urlChars, nI hc, f_ruleCount, f_ruleChars, a_buffer, a1, a2, a_urlPool, a_urlStart, a_urlLength, a_urlPath, a_urlHost, a_urlState, a_urlTime, a_names, a_nameLength, a_hostDelay, a_hostNext, a_rulePool, a_ruleStart, a_ruleLength, a_ruleHost))
    (hRf : ∀ c he p pE qE po D1 D2 n H HL P, cf_PS t L c he p pE qE po D1 D2 → n = (cf_out t he po D1 D2).length → H = c + 3 → HL = he - (c + 3) → P = he + po.length → ∀ a1, cf_K a1 n (cf_out t he po D1 D2) → ∀ r, cf_Rf False (cf_FF (cf_Ph a_names a_nameLength a1 H HL) hc) (fun _ => False) 0 False hc r → ∀ a2 n5 n6, post r (f_maxUrls, f_defaultDelay, f_clock, 0, nI n, nI H, nI HL, nI P, n5, n6, f_urlCount, f_urlChars, nI hc, f_ruleCount, f_ruleChars, a_buffer, a1, a2, a_urlPool, a_urlStart, a_urlLength, a_urlPath, a_urlHost, a_urlState, a_urlTime, a_names, a_nameLength, a_hostDelay, a_hostNext, a_rulePool, a_ruleStart, a_ruleLength, a_ruleHost))
    (hA : ∀ c he p pE qE po D1 D2 n H HL P, cf_PS t L c he p pE qE po D1 D2 → n = (cf_out t he po D1 D2).length → H = c + 3 → HL = he - (c + 3) → P = he + po.length → ∀ a1, cf_K a1 n (cf_out t he po D1 D2) → ∀ x, cf_Ac False (cf_FF (cf_Ph a_names a_nameLength a1 H HL) hc) (fun _ => False) False hc x →
      (∀ h, h < hc → x = nI h → ∀ a2 n5 n6, post (nI h) (f_maxUrls, f_defaultDelay, f_clock, 0, nI n, nI H, nI HL, nI P, n5, n6, f_urlCount, f_urlChars, nI hc, f_ruleCount, f_ruleChars, a_buffer, a1, a2, a_urlPool, a_urlStart, a_urlLength, a_urlPath, a_urlHost, a_urlState, a_urlTime, a_names, a_nameLength, upd a_hostDelay h v, a_hostNext, a_rulePool, a_ruleStart, a_ruleLength, a_ruleHost)) ∧
      (x = -1 → ∀ a2 n5 n6, post (nI hc) (f_maxUrls, f_defaultDelay, f_clock, 0, nI n, nI H, nI HL, nI P, n5, n6, f_urlCount, f_urlChars, nI (hc + 1), f_ruleCount, f_ruleChars, a_buffer, a1, a2, a_urlPool, a_urlStart, a_urlLength, a_urlPath, a_urlHost, a_urlState, a_urlTime, cf_cp a_names (hc * 16) a1 H HL, upd a_nameLength hc (nI HL), upd (upd a_hostDelay hc f_defaultDelay) hc v, upd a_hostNext hc 0, a_rulePool, a_ruleStart, a_ruleLength, a_ruleHost))) :
    wpX_setDelay post (f_maxUrls, f_defaultDelay, f_clock, nI L, f_canonLength, f_canonHost, f_canonHostLength, f_canonPath, f_schemePort, f_partLength, f_urlCount, f_urlChars, nI hc, f_ruleCount, f_ruleChars, a_buffer, a_canon, a_part, a_urlPool, a_urlStart, a_urlLength, a_urlPath, a_urlHost, a_urlState, a_urlTime, a_names, a_nameLength, a_hostDelay, a_hostNext, a_rulePool, a_ruleStart, a_ruleLength, a_ruleHost) v := by
  refine br_f hv1 (br_t hv2 ?_)
  refine cx_canon hL hb ht (fun h a1 a2 n1 n2 n3 n4 n5 n6 => br_t rfl (hN h _ _ _ _ _ _ _ _)) (fun c he p pE qE po D1 D2 ps a1 a2 n5 n6 hK => br_f (by decide) ?_)
  have bo := cf_outB ht hL ps
  have hRf' := hRf c he p pE qE po D1 D2 _ _ _ _ ps rfl rfl rfl rfl a1 hK
  have hA' := hA c he p pE qE po D1 D2 _ _ _ _ ps rfl rfl rfl rfl a1 hK
  have hhl : he - (c + 3) ≤ 16 := by omega
  have hhn : c + 3 + (he - (c + 3)) ≤ 49 := by omega
  refine cx_findHost h8 hhl hhn (fun x fx => ?_)
  have fx2 := fx
  rcases fx with ⟨h, hh, -, -, rfl⟩ | ⟨-, rfl⟩
  · have g := (hA' _ ⟨id, fx2, id, id, fun w => absurd w (cf_m1 (by omega))⟩).1 h hh rfl
    exact br_f (cf_m1 (by omega)) (br_f (cf_m1 (by omega)) ⟨pk_in h 8 (by omega), nm_r (e' := upd a_hostDelay h v) (by rw [pk_cl h]) (g _ _ _)⟩)
  · rcases Nat.lt_or_ge hc 8 with y | y
    · have g := (hA' _ ⟨id, fx2, id, id, fun _ => y⟩).2 rfl
      exact cx_newHost y hhl hhn (br_f (cf_m1 (by omega)) ⟨pk_in hc 8 y, nm_r (e' := upd (upd a_hostDelay hc f_defaultDelay) hc v) (by rw [pk_cl hc]) (g _ _ _)⟩)
    · exact br_t rfl (pk_lt hc 8 (fun w => by omega) (fun _ => br_t rfl (hRf' _ (Or.inr ⟨id, _, fx2, Or.inr ⟨id, Or.inr ⟨id, rfl, y, rfl⟩⟩⟩) _ _ _)))
end
end
section
/-! the reference: the lists -/
def cf_Pp (rp rs rl c : Nat → Int32) (P n r : Nat) : Prop := (rl r).toNatClampNeg ≤ n - P ∧ cf_EQ rp (rs r).toNatClampNeg c P (rl r).toNatClampNeg
section
variable {f_maxUrls f_defaultDelay f_clock f_bufferLength f_urlCount f_hostCount f_ruleCount f_cLen f_cHost f_cHostLen f_cPq f_decLen f_segN : Int32} {a_buffer a_urlPool a_urlStart a_urlLength a_urlState a_urlHost a_urlTime a_names a_nameLength a_hostDelay a_hostNext a_hostSent a_rulePool a_ruleStart a_ruleLength a_ruleHost a_ycanon a_dec a_segS a_segL : Nat → Int32}
theorem cy_sameAs {post : Int32 → Prop} {uc n u s m : Nat} (e1 : a_urlStart u = nI s) (e2 : a_urlLength u = nI m) (e3 : s + m ≤ 256) (hu : u < 32) (hn : n ≤ 49) (h1 : cf_Dup a_urlPool a_urlStart a_urlLength a_ycanon n u → post 1) (h0 : ¬ cf_Dup a_urlPool a_urlStart a_urlLength a_ycanon n u → post 0) : wpY_sameAsUrl post (f_maxUrls, f_defaultDelay, f_clock, f_bufferLength, f_urlCount, f_hostCount, f_ruleCount, nI n, f_cHost, f_cHostLen, f_cPq, f_decLen, f_segN, a_buffer, a_urlPool, a_urlStart, a_urlLength, a_urlState, a_urlHost, a_urlTime, a_names, a_nameLength, a_hostDelay, a_hostNext, a_hostSent, a_rulePool, a_ruleStart, a_ruleLength, a_ruleHost, a_ycanon, a_dec, a_segS, a_segL) (nI u) := by
  have vi : vp_in (nI u) 32 := pk_in u 32 hu
  have es : (a_urlStart u).toNatClampNeg = s := by rw [e1]; exact pk_cl s
  unfold cf_Dup at h1 h0
  rw [es] at h1 h0
  refine ⟨vi, cf_bi u (by omega) (fun e => ?_) (fun e => h0 (fun w => e w.1))⟩
  have em : m = n := by
    have q := e
    rw [e2, nI_eq (by omega) (by omega)] at q
    exact q
  have d1 : ∀ i, a_urlStart (nI u).toNatClampNeg + nI i = nI (s + i) := fun i => by rw [cf_ix u rfl (by omega) e1, nI_add]
  have cv : ∀ i, i < n → ((a_urlPool (a_urlStart (nI u).toNatClampNeg + nI i).toNatClampNeg = a_ycanon (nI i).toNatClampNeg) = (a_urlPool (s + i) = a_ycanon i)) := by
    intro i hi
    rw [pk_cl (s + i) (d1 i), pk_cl i]
  exact cf_scan0 (fun f i => wY_sameAsUrl_17 post (nI u) f_maxUrls f_defaultDelay f_clock f_bufferLength f_urlCount f_hostCount f_ruleCount (nI n) f_cHost f_cHostLen f_cPq f_decLen f_segN a_buffer a_urlPool a_urlStart a_urlLength a_urlState a_urlHost a_urlTime a_names a_nameLength a_hostDelay a_hostNext a_hostSent a_rulePool a_ruleStart a_ruleLength a_ruleHost a_ycanon a_dec a_segS a_segL f (nI i)) (fun i => ¬ a_urlPool (s + i) = a_ycanon i) n
    (fun f hall => pk_le n n (fun _ => h1 ⟨e, fun i hi => by rw [Nat.zero_add]; exact Classical.not_not.mp (hall i hi)⟩) (fun z => by omega))
    (fun f i hi hP _ => pk_le n i (fun z => by omega) (fun _ => ⟨vi, pk_in (s + i) 256 (by omega) (d1 i), pk_in i 64 (by omega), br_f (by rw [cv i hi]; exact hP) (h0 (fun w => hP (by have q := w.2 i hi; rw [Nat.zero_add] at q; exact q)))⟩))
    (fun f i hi hP W => pk_le n i (fun z => by omega) (fun _ => ⟨vi, pk_in (s + i) 256 (by omega) (d1 i), pk_in i 64 (by omega), br_t (by rw [cv i hi]; exact Classical.not_not.mp hP) (nm_r (nI_1 i) W)⟩))
theorem cy_prefix {post : Int32 → Prop} {n P r s m : Nat} (e1 : a_ruleStart r = nI s) (e2 : a_ruleLength r = nI m) (e3 : s + m ≤ 128) (hr : r < 8) (hn : n ≤ 49) (hP0 : P ≤ n) (h1 : cf_Pp a_rulePool a_ruleStart a_ruleLength a_ycanon P n r → post 1) (h0 : ¬ cf_Pp a_rulePool a_ruleStart a_ruleLength a_ycanon P n r → post 0) : wpY_prefixOfCanon post (f_maxUrls, f_defaultDelay, f_clock, f_bufferLength, f_urlCount, f_hostCount, f_ruleCount, nI n, f_cHost, f_cHostLen, nI P, f_decLen, f_segN, a_buffer, a_urlPool, a_urlStart, a_urlLength, a_urlState, a_urlHost, a_urlTime, a_names, a_nameLength, a_hostDelay, a_hostNext, a_hostSent, a_rulePool, a_ruleStart, a_ruleLength, a_ruleHost, a_ycanon, a_dec, a_segS, a_segL) (nI r) := by
  have vi : vp_in (nI r) 8 := pk_in r 8 hr
  have c1 : (a_ruleStart r).toNatClampNeg = s := by rw [e1]; exact pk_cl s
  have c2 : (a_ruleLength r).toNatClampNeg = m := by rw [e2]; exact pk_cl m
  unfold cf_Pp at h1 h0
  rw [c1, c2] at h1 h0
  have d2 : a_ruleLength (nI r).toNatClampNeg = nI m := cf_ix r rfl (by omega) e2
  have d1 : ∀ i, a_ruleStart (nI r).toNatClampNeg + nI i = nI (s + i) := fun i => by rw [cf_ix r rfl (by omega) e1, nI_add]
  refine ⟨vi, pk_le m (n - P) (fun z => ?_) (fun z => h0 (fun w => by have := w.1; omega)) d2 (pk_sub hP0)⟩
  have cv : ∀ i, i < m → ((a_rulePool (a_ruleStart (nI r).toNatClampNeg + nI i).toNatClampNeg = a_ycanon (nI P + nI i).toNatClampNeg) = (a_rulePool (s + i) = a_ycanon (P + i))) := by
    intro i hi
    rw [pk_cl (s + i) (d1 i), pk_cl (P + i) (nI_add P i)]
  exact cf_scan0 (fun f i => wY_prefixOfCanon_22 post (nI r) f_maxUrls f_defaultDelay f_clock f_bufferLength f_urlCount f_hostCount f_ruleCount (nI n) f_cHost f_cHostLen (nI P) f_decLen f_segN a_buffer a_urlPool a_urlStart a_urlLength a_urlState a_urlHost a_urlTime a_names a_nameLength a_hostDelay a_hostNext a_hostSent a_rulePool a_ruleStart a_ruleLength a_ruleHost a_ycanon a_dec a_segS a_segL f (nI i)) (fun i => ¬ a_rulePool (s + i) = a_ycanon (P + i)) m
    (fun f hall => ⟨vi, pk_le m m (fun _ => h1 ⟨z, fun i hi => Classical.not_not.mp (hall i hi)⟩) (fun z => by omega) d2⟩)
    (fun f i hi hP _ => ⟨vi, pk_le m i (fun z => by omega) (fun _ => ⟨vi, pk_in (s + i) 128 (by omega) (d1 i), pk_in (P + i) 64 (by omega) (nI_add P i), br_f (by rw [cv i hi]; exact hP) (h0 (fun w => hP (w.2 i hi)))⟩) d2⟩)
    (fun f i hi hP W => ⟨vi, pk_le m i (fun z => by omega) (fun _ => ⟨vi, pk_in (s + i) 128 (by omega) (d1 i), pk_in (P + i) 64 (by omega) (nI_add P i), br_t (by rw [cv i hi]; exact Classical.not_not.mp hP) (nm_r (nI_1 i) W)⟩) d2⟩)
theorem cy_fh31 {post J : Int32 → Prop} {h H HL : Nat} (h8 : h < 8) (h16 : HL ≤ 16) (hH : H + HL ≤ 49) (h1 : cf_EQ a_names (h * 16) a_ycanon H HL → post (nI h)) (h0 : ¬ cf_EQ a_names (h * 16) a_ycanon H HL → J (nI (h + 1))) : ∃ f, wY_findHost_31 post J (nI h) f_maxUrls f_defaultDelay f_clock f_bufferLength f_urlCount f_hostCount f_ruleCount f_cLen (nI H) (nI HL) f_cPq f_decLen f_segN a_buffer a_urlPool a_urlStart a_urlLength a_urlState a_urlHost a_urlTime a_names a_nameLength a_hostDelay a_hostNext a_hostSent a_rulePool a_ruleStart a_ruleLength a_ruleHost a_ycanon a_dec a_segS a_segL f 1 0 := by
  have d1 : ∀ i, nI h * 16 + nI i = nI (h * 16 + i) := fun i => (congrArg (fun z => z + nI i) (pk_mul h 16)).trans (nI_add _ _)
  have cv : ∀ i, i < HL → ((a_names (nI h * 16 + nI i).toNatClampNeg = a_ycanon (nI H + nI i).toNatClampNeg) = (a_names (h * 16 + i) = a_ycanon (H + i))) := by
    intro i hi
    rw [pk_cl (h * 16 + i) (d1 i), pk_cl (H + i) (nI_add H i)]
  have key := cf_scan0 (fun f i => wY_findHost_31 post J (nI h) f_maxUrls f_defaultDelay f_clock f_bufferLength f_urlCount f_hostCount f_ruleCount f_cLen (nI H) (nI HL) f_cPq f_decLen f_segN a_buffer a_urlPool a_urlStart a_urlLength a_urlState a_urlHost a_urlTime a_names a_nameLength a_hostDelay a_hostNext a_hostSent a_rulePool a_ruleStart a_ruleLength a_ruleHost a_ycanon a_dec a_segS a_segL (f + 1) 1 (nI i)) (fun i => ¬ a_names (h * 16 + i) = a_ycanon (H + i)) HL
    (fun f hall => br_f (by decide) (pk_le HL HL (fun _ => br_f (by decide) (h1 (fun i hi => Classical.not_not.mp (hall i hi)))) (fun z => by omega)))
    (fun f i hi hP _ => br_f (by decide) (pk_le HL i (fun z => by omega) (fun _ => ⟨pk_in (h * 16 + i) 128 (by omega) (d1 i), pk_in (H + i) 64 (by omega) (nI_add H i), br_f (by rw [cv i hi]; exact hP) (nm_r (nI_1 i) (br_t rfl (br_t rfl (nm_r (nI_1 h) (h0 (fun w => hP (w i hi)))))))⟩)))
    (fun f i hi hP W => br_f (by decide) (pk_le HL i (fun z => by omega) (fun _ => ⟨pk_in (h * 16 + i) 128 (by omega) (d1 i), pk_in (H + i) 64 (by omega) (nI_add H i), br_t (by rw [cv i hi]; exact Classical.not_not.mp hP) (nm_r (nI_1 i) W)⟩)))
  obtain ⟨f, W⟩ := key
  exact ⟨f + 1, W⟩
theorem cy_findHost {post : Int32 → Prop} {hc H HL : Nat} (h8 : hc ≤ 8) (h16 : HL ≤ 16) (hH : H + HL ≤ 49) (h : ∀ r, cf_FF (cf_Ph a_names a_nameLength a_ycanon H HL) hc r → post r) : wpY_findHost post (f_maxUrls, f_defaultDelay, f_clock, f_bufferLength, f_urlCount, nI hc, f_ruleCount, f_cLen, nI H, nI HL, f_cPq, f_decLen, f_segN, a_buffer, a_urlPool, a_urlStart, a_urlLength, a_urlState, a_urlHost, a_urlTime, a_names, a_nameLength, a_hostDelay, a_hostNext, a_hostSent, a_rulePool, a_ruleStart, a_ruleLength, a_ruleHost, a_ycanon, a_dec, a_segS, a_segL) := by
  refine cf_scan0 (fun f i => wY_findHost_2 post f_maxUrls f_defaultDelay f_clock f_bufferLength f_urlCount (nI hc) f_ruleCount f_cLen (nI H) (nI HL) f_cPq f_decLen f_segN a_buffer a_urlPool a_urlStart a_urlLength a_urlState a_urlHost a_urlTime a_names a_nameLength a_hostDelay a_hostNext a_hostSent a_rulePool a_ruleStart a_ruleLength a_ruleHost a_ycanon a_dec a_segS a_segL f (nI i)) (cf_Ph a_names a_nameLength a_ycanon H HL) hc
    (fun f hall => pk_le hc hc (fun _ => h _ (Or.inr ⟨hall, rfl⟩)) (fun z => by omega)) (fun f i hi hP hl => ?_) (fun f i hi hP W => ?_)
  · exact pk_le hc i (fun z => by omega) (fun _ => ⟨pk_in i 8 (by omega), br_t (cf_ix i rfl (by omega) hP.1) (cy_fh31 (by omega) h16 hH (fun _ => h _ (Or.inl ⟨i, hi, hP, hl, rfl⟩)) (fun w => absurd hP.2 w))⟩)
  · exact pk_le hc i (fun z => by omega) (fun _ => ⟨pk_in i 8 (by omega), cf_bi i (by omega) (fun e => cy_fh31 (by omega) h16 hH (fun w => absurd ⟨e, w⟩ hP) (fun _ => W)) (fun e => ⟨1, br_t rfl (br_t rfl (nm_r (nI_1 i) W))⟩)⟩)
theorem cy_addHost {post : Int32 → SY → Prop} {hc H HL : Nat} (h8 : hc < 8) (h16 : HL ≤ 16) (hH : H + HL ≤ 49) (h : post (nI hc) (f_maxUrls, f_defaultDelay, f_clock, f_bufferLength, f_urlCount, nI (hc + 1), f_ruleCount, f_cLen, nI H, nI HL, f_cPq, f_decLen, f_segN, a_buffer, a_urlPool, a_urlStart, a_urlLength, a_urlState, a_urlHost, a_urlTime, cf_cp a_names (hc * 16) a_ycanon H HL, upd a_nameLength hc (nI HL), upd a_hostDelay hc f_defaultDelay, upd a_hostNext hc 0, upd a_hostSent hc 0, a_rulePool, a_ruleStart, a_ruleLength, a_ruleHost, a_ycanon, a_dec, a_segS, a_segL)) : wpY_addHost post (f_maxUrls, f_defaultDelay, f_clock, f_bufferLength, f_urlCount, nI hc, f_ruleCount, f_cLen, nI H, nI HL, f_cPq, f_decLen, f_segN, a_buffer, a_urlPool, a_urlStart, a_urlLength, a_urlState, a_urlHost, a_urlTime, a_names, a_nameLength, a_hostDelay, a_hostNext, a_hostSent, a_rulePool, a_ruleStart, a_ruleLength, a_ruleHost, a_ycanon, a_dec, a_segS, a_segL) := by
  have vi : vp_in (nI hc) 8 := pk_in hc 8 h8
  have ec : (nI hc).toNatClampNeg = hc := pk_cl hc
  have d1 : ∀ i, nI hc * 16 + nI i = nI (hc * 16 + i) := fun i => (congrArg (fun z => z + nI i) (pk_mul hc 16)).trans (nI_add _ _)
  exact cf_fold0 (fun f i s => wY_addHost_7 post (nI hc) f_maxUrls f_defaultDelay f_clock f_bufferLength f_urlCount (nI hc) f_ruleCount f_cLen (nI H) (nI HL) f_cPq f_decLen f_segN f (nI i) a_buffer a_urlPool a_urlStart a_urlLength a_urlState a_urlHost a_urlTime s a_nameLength a_hostDelay a_hostNext a_hostSent a_rulePool a_ruleStart a_ruleLength a_ruleHost a_ycanon a_dec a_segS a_segL) (fun i => cf_cp a_names (hc * 16) a_ycanon H i) HL
    (fun f => pk_le HL HL (fun _ => ⟨vi, nm_r (e' := upd a_nameLength hc (nI HL)) (by rw [ec]) ⟨vi, nm_r (e' := upd a_hostDelay hc f_defaultDelay) (by rw [ec]) ⟨vi, nm_r (e' := upd a_hostNext hc 0) (by rw [ec]) ⟨vi, nm_r (e' := upd a_hostSent hc 0) (by rw [ec]) (nm_r (nI_1 hc) h)⟩⟩⟩⟩) (fun z => by omega))
    (fun f i hi W => pk_le HL i (fun z => by omega) (fun _ => pk_le 16 i (fun z => by omega) (fun _ => ⟨pk_in (H + i) 64 (by omega) (nI_add H i), pk_in (hc * 16 + i) 128 (by omega) (d1 i), nm_r (e' := cf_cp a_names (hc * 16) a_ycanon H (i + 1)) (by rw [pk_cl (hc * 16 + i) (d1 i), pk_cl (H + i) (nI_add H i)]; rfl) (nm_r (nI_1 i) W)⟩)))
theorem cy_urlChars {post : Int32 → Prop} {uc : Nat} (huc : uc ≤ 32) (h : post (cf_sm a_urlLength uc)) : wpY_urlChars post (f_maxUrls, f_defaultDelay, f_clock, f_bufferLength, nI uc, f_hostCount, f_ruleCount, f_cLen, f_cHost, f_cHostLen, f_cPq, f_decLen, f_segN, a_buffer, a_urlPool, a_urlStart, a_urlLength, a_urlState, a_urlHost, a_urlTime, a_names, a_nameLength, a_hostDelay, a_hostNext, a_hostSent, a_rulePool, a_ruleStart, a_ruleLength, a_ruleHost, a_ycanon, a_dec, a_segS, a_segL) := by
  exact cf_fold0 (fun f i s => wY_urlChars_4 post f_maxUrls f_defaultDelay f_clock f_bufferLength (nI uc) f_hostCount f_ruleCount f_cLen f_cHost f_cHostLen f_cPq f_decLen f_segN a_buffer a_urlPool a_urlStart a_urlLength a_urlState a_urlHost a_urlTime a_names a_nameLength a_hostDelay a_hostNext a_hostSent a_rulePool a_ruleStart a_ruleLength a_ruleHost a_ycanon a_dec a_segS a_segL f s (nI i)) (fun i => cf_sm a_urlLength i) uc (fun f => pk_le uc uc (fun _ => h) (fun z => by omega)) (fun f i hi W => pk_le uc i (fun z => by omega) (fun _ => ⟨pk_in i 32 (by omega), nm_r (e' := cf_sm a_urlLength (i + 1)) (by rw [pk_cl i]; rfl) (nm_r (nI_1 i) W)⟩))
theorem cy_ruleChars {post : Int32 → Prop} {rc : Nat} (hrc : rc ≤ 8) (h : post (cf_sm a_ruleLength rc)) : wpY_ruleChars post (f_maxUrls, f_defaultDelay, f_clock, f_bufferLength, f_urlCount, f_hostCount, nI rc, f_cLen, f_cHost, f_cHostLen, f_cPq, f_decLen, f_segN, a_buffer, a_urlPool, a_urlStart, a_urlLength, a_urlState, a_urlHost, a_urlTime, a_names, a_nameLength, a_hostDelay, a_hostNext, a_hostSent, a_rulePool, a_ruleStart, a_ruleLength, a_ruleHost, a_ycanon, a_dec, a_segS, a_segL) := by
  exact cf_fold0 (fun f i s => wY_ruleChars_4 post f_maxUrls f_defaultDelay f_clock f_bufferLength f_urlCount f_hostCount (nI rc) f_cLen f_cHost f_cHostLen f_cPq f_decLen f_segN a_buffer a_urlPool a_urlStart a_urlLength a_urlState a_urlHost a_urlTime a_names a_nameLength a_hostDelay a_hostNext a_hostSent a_rulePool a_ruleStart a_ruleLength a_ruleHost a_ycanon a_dec a_segS a_segL f s (nI i)) (fun i => cf_sm a_ruleLength i) rc (fun f => pk_le rc rc (fun _ => h) (fun z => by omega)) (fun f i hi W => pk_le rc i (fun z => by omega) (fun _ => ⟨pk_in i 8 (by omega), nm_r (e' := cf_sm a_ruleLength (i + 1)) (by rw [pk_cl i]; rfl) (nm_r (nI_1 i) W)⟩))
theorem cy_m80 {post : Int32 → Prop} {a_pt : Nat → Int32} {u r s n p rs0 rl0 : Nat} (hu : u < 32) (hr : r < 8) (e1 : a_urlStart u = nI s) (e2 : a_urlLength u = nI n) (e3 : a_pt u = nI p) (hp : p ≤ n) (hs : s + n ≤ 256) (e4 : a_ruleStart r = nI rs0) (e5 : a_ruleLength r = nI rl0) (h128 : rs0 + rl0 ≤ 128) (eh : a_urlHost u = a_ruleHost r) (h1 : cf_M a_urlPool a_urlStart a_urlLength a_pt a_urlHost a_rulePool a_ruleStart a_ruleLength a_ruleHost r u → post 1) (h0 : ¬ cf_M a_urlPool a_urlStart a_urlLength a_pt a_urlHost a_rulePool a_ruleStart a_ruleLength a_ruleHost r u → post 0) : wY_urlMatchesRule_80 post (nI u) (nI r) (nI s) (nI p) f_maxUrls f_defaultDelay f_clock f_bufferLength f_urlCount f_hostCount f_ruleCount f_cLen f_cHost f_cHostLen f_cPq f_decLen f_segN a_buffer a_urlPool a_urlStart a_urlLength a_urlState a_urlHost a_urlTime a_names a_nameLength a_hostDelay a_hostNext a_hostSent a_rulePool a_ruleStart a_ruleLength a_ruleHost a_ycanon a_dec a_segS a_segL := by
  have vi : vp_in (nI u) 32 := pk_in u 32 hu
  have vr : vp_in (nI r) 8 := pk_in r 8 hr
  have d2 : a_urlLength (nI u).toNatClampNeg = nI n := cf_ix u rfl (by omega) e2
  have d5 : a_ruleLength (nI r).toNatClampNeg = nI rl0 := cf_ix r rfl (by omega) e5
  have c1 : (a_urlStart u).toNatClampNeg = s := by rw [e1]; exact pk_cl s
  have c2 : (a_urlLength u).toNatClampNeg = n := by rw [e2]; exact pk_cl n
  have c3 : (a_pt u).toNatClampNeg = p := by rw [e3]; exact pk_cl p
  have c4 : (a_ruleStart r).toNatClampNeg = rs0 := by rw [e4]; exact pk_cl rs0
  have c5 : (a_ruleLength r).toNatClampNeg = rl0 := by rw [e5]; exact pk_cl rl0
  unfold cf_M at h1 h0
  rw [c1, c2, c3, c4, c5] at h1 h0
  have d4 : ∀ i, a_ruleStart (nI r).toNatClampNeg + nI i = nI (rs0 + i) := fun i => by rw [cf_ix r rfl (by omega) e4, nI_add]
  have d6 : ∀ i, (nI s + nI p) + nI i = nI (s + p + i) := fun i => by rw [nI_add, nI_add]
  have cv : ∀ i, i < rl0 → rl0 ≤ n - p → ((a_rulePool (a_ruleStart (nI r).toNatClampNeg + nI i).toNatClampNeg = a_urlPool ((nI s + nI p) + nI i).toNatClampNeg) = (a_rulePool (rs0 + i) = a_urlPool (s + p + i))) := by
    intro i hi hq
    rw [pk_cl (rs0 + i) (d4 i), pk_cl (s + p + i) (d6 i)]
  have es : a_urlLength (nI u).toNatClampNeg - nI p = nI (n - p) := by rw [d2, pk_sub hp]
  refine br_f (nI_pos (by omega)) ⟨vr, vi, pk_le rl0 (n - p) (fun z => ?_) (fun z => h0 (fun w => by have := w.2.1; omega)) d5 es⟩
  exact cf_scan0 (fun f i => wY_urlMatchesRule_108 post (nI r) (nI s) (nI p) f_maxUrls f_defaultDelay f_clock f_bufferLength f_urlCount f_hostCount f_ruleCount f_cLen f_cHost f_cHostLen f_cPq f_decLen f_segN a_buffer a_urlPool a_urlStart a_urlLength a_urlState a_urlHost a_urlTime a_names a_nameLength a_hostDelay a_hostNext a_hostSent a_rulePool a_ruleStart a_ruleLength a_ruleHost a_ycanon a_dec a_segS a_segL f (nI i)) (fun i => ¬ a_rulePool (rs0 + i) = a_urlPool (s + p + i)) rl0
    (fun f hall => ⟨vr, pk_le rl0 rl0 (fun _ => h1 ⟨eh, z, fun i hi => Classical.not_not.mp (hall i hi)⟩) (fun z => by omega) d5⟩)
    (fun f i hi hP _ => ⟨vr, pk_le rl0 i (fun z => by omega) (fun _ => ⟨vr, pk_in (rs0 + i) 128 (by omega) (d4 i), pk_in (s + p + i) 256 (by omega) (d6 i), br_f (by rw [cv i hi z]; exact hP) (h0 (fun w => hP (w.2.2 i hi)))⟩) d5⟩)
    (fun f i hi hP W => ⟨vr, pk_le rl0 i (fun z => by omega) (fun _ => ⟨vr, pk_in (rs0 + i) 128 (by omega) (d4 i), pk_in (s + p + i) 256 (by omega) (d6 i), br_t (by rw [cv i hi z]; exact Classical.not_not.mp hP) (nm_r (nI_1 i) W)⟩) d5⟩)
theorem cy_m33 {post : Int32 → Prop} {u r s n p a : Nat} {x5 : Int32} (hu : u < 32) (e2 : a_urlLength u = nI n) (hs : s + n ≤ 256) (ha : a + 2 ≤ p) (hp : p < n) (q1 : a_urlPool (s + a) = 47) (q2 : a_urlPool (s + (a + 1)) = 47) (q3 : a_urlPool (s + p) = 47) (q4 : ∀ j, j < p → j ≠ a → j ≠ a + 1 → a_urlPool (s + j) ≠ 47) (h : wY_urlMatchesRule_80 post (nI u) (nI r) (nI s) (nI p) f_maxUrls f_defaultDelay f_clock f_bufferLength f_urlCount f_hostCount f_ruleCount f_cLen f_cHost f_cHostLen f_cPq f_decLen f_segN a_buffer a_urlPool a_urlStart a_urlLength a_urlState a_urlHost a_urlTime a_names a_nameLength a_hostDelay a_hostNext a_hostSent a_rulePool a_ruleStart a_ruleLength a_ruleHost a_ycanon a_dec a_segS a_segL) : ∀ d i f, i + d = p → d < f → wY_urlMatchesRule_33 post (nI u) (nI r) (nI s) x5 f_maxUrls f_defaultDelay f_clock f_bufferLength f_urlCount f_hostCount f_ruleCount f_cLen f_cHost f_cHostLen f_cPq f_decLen f_segN a_buffer a_urlPool a_urlStart a_urlLength a_urlState a_urlHost a_urlTime a_names a_nameLength a_hostDelay a_hostNext a_hostSent a_rulePool a_ruleStart a_ruleLength a_ruleHost a_ycanon a_dec a_segS a_segL f (nI (if i ≤ a then 0 else if i ≤ a + 1 then 1 else 2)) (nI i) := by
  have vi : vp_in (nI u) 32 := pk_in u 32 hu
  have d2 : a_urlLength (nI u).toNatClampNeg = nI n := cf_ix u rfl (by omega) e2
  intro d
  induction d with
  | zero =>
    intro i f hi hf
    have e : i = p := by omega
    subst e
    cases f with
    | zero => omega
    | succ f =>
      rw [if_neg (by omega), if_neg (by omega)]
      exact ⟨vi, pk_le n i (fun z => by omega) (fun _ => ⟨pk_in (s + i) 256 (by omega) (nI_add s i), br_t (cf_ix (s + i) (nI_add s i) (by omega) q3) (nm_r (e' := 3) (by decide) (br_t rfl h))⟩) d2⟩
  | succ d ih =>
    intro i f hi hf
    cases f with
    | zero => omega
    | succ f =>
      have W := ih (i + 1) f (by omega) (by omega)
      by_cases c1 : i = a
      · subst c1
        rw [if_neg (by omega), if_pos (by omega)] at W
        rw [if_pos (by omega)]
        exact ⟨vi, pk_le n i (fun z => by omega) (fun _ => ⟨pk_in (s + i) 256 (by omega) (nI_add s i), br_t (cf_ix (s + i) (nI_add s i) (by omega) q1) (nm_r (e' := 1) (by decide) (br_f (by decide) (nm_r (nI_1 i) W)))⟩) d2⟩
      · by_cases c2 : i = a + 1
        · subst c2
          rw [if_neg (by omega), if_neg (by omega)] at W
          rw [if_neg (by omega), if_pos (by omega)]
          exact ⟨vi, pk_le n (a + 1) (fun z => by omega) (fun _ => ⟨pk_in (s + (a + 1)) 256 (by omega) (nI_add s (a + 1)), br_t (cf_ix (s + (a + 1)) (nI_add s (a + 1)) (by omega) q2) (nm_r (e' := 2) (by decide) (br_f (by decide) (nm_r (nI_1 (a + 1)) W)))⟩) d2⟩
        · have eif : (if i + 1 ≤ a then 0 else if i + 1 ≤ a + 1 then 1 else 2) = (if i ≤ a then 0 else if i ≤ a + 1 then 1 else 2) := by
            rcases Nat.lt_or_ge i a with z | z
            · rw [if_pos (by omega), if_pos (by omega)]
            · rw [if_neg (by omega), if_neg (by omega), if_neg (by omega), if_neg (by omega)]
          rw [eif] at W
          exact ⟨vi, pk_le n i (fun z => by omega) (fun _ => ⟨pk_in (s + i) 256 (by omega) (nI_add s i), cf_bi (s + i) (by omega) (fun w => absurd w (q4 i (by omega) c1 c2)) (fun _ => nm_r (nI_1 i) W) (nI_add s i)⟩) d2⟩
theorem cy_matches {post : Int32 → Prop} {a_pt : Nat → Int32} {u r s n p a rs0 rl0 : Nat} (hu : u < 32) (hr : r < 8) (e1 : a_urlStart u = nI s) (e2 : a_urlLength u = nI n) (e3 : a_pt u = nI p) (hs : s + n ≤ 256) (ha : a + 2 ≤ p) (hp : p < n) (q1 : a_urlPool (s + a) = 47) (q2 : a_urlPool (s + (a + 1)) = 47) (q3 : a_urlPool (s + p) = 47) (q4 : ∀ j, j < p → j ≠ a → j ≠ a + 1 → a_urlPool (s + j) ≠ 47) (e4 : a_ruleStart r = nI rs0) (e5 : a_ruleLength r = nI rl0) (h128 : rs0 + rl0 ≤ 128) (h1 : cf_M a_urlPool a_urlStart a_urlLength a_pt a_urlHost a_rulePool a_ruleStart a_ruleLength a_ruleHost r u → post 1) (h0 : ¬ cf_M a_urlPool a_urlStart a_urlLength a_pt a_urlHost a_rulePool a_ruleStart a_ruleLength a_ruleHost r u → post 0) : wpY_urlMatchesRule post (f_maxUrls, f_defaultDelay, f_clock, f_bufferLength, f_urlCount, f_hostCount, f_ruleCount, f_cLen, f_cHost, f_cHostLen, f_cPq, f_decLen, f_segN, a_buffer, a_urlPool, a_urlStart, a_urlLength, a_urlState, a_urlHost, a_urlTime, a_names, a_nameLength, a_hostDelay, a_hostNext, a_hostSent, a_rulePool, a_ruleStart, a_ruleLength, a_ruleHost, a_ycanon, a_dec, a_segS, a_segL) (nI u) (nI r) := by
  have vi : vp_in (nI u) 32 := pk_in u 32 hu
  have vr : vp_in (nI r) 8 := pk_in r 8 hr
  have cu : (nI u).toNatClampNeg = u := pk_cl u
  have cr : (nI r).toNatClampNeg = r := pk_cl r
  have eq0 : (a_urlHost (nI u).toNatClampNeg = a_ruleHost (nI r).toNatClampNeg) = (a_urlHost u = a_ruleHost r) := by rw [cu, cr]
  refine ⟨vi, vr, ?_⟩
  rw [eq0]
  refine br_c (fun e => ⟨vi, nm_r (cf_ix u rfl (by omega) e1) ⟨p + 1, ?_⟩⟩) (fun e => h0 (fun w => e w.1))
  have g : wY_urlMatchesRule_33 post (nI u) (nI r) (nI s) (-1) f_maxUrls f_defaultDelay f_clock f_bufferLength f_urlCount f_hostCount f_ruleCount f_cLen f_cHost f_cHostLen f_cPq f_decLen f_segN a_buffer a_urlPool a_urlStart a_urlLength a_urlState a_urlHost a_urlTime a_names a_nameLength a_hostDelay a_hostNext a_hostSent a_rulePool a_ruleStart a_ruleLength a_ruleHost a_ycanon a_dec a_segS a_segL (p + 1) (nI (if 0 ≤ a then 0 else if 0 ≤ a + 1 then 1 else 2)) (nI 0) := cy_m33 hu e2 hs ha hp q1 q2 q3 q4 (cy_m80 (a_pt := a_pt) hu hr e1 e2 e3 (by omega) hs e4 e5 h128 e h1 h0) p 0 (p + 1) (by omega) (by omega)
  rw [if_pos (Nat.zero_le _)] at g
  exact g
end
end
section
/-! the reference: submit, disallow, setDelay (made by mk35.py) -/
section
variable {f_maxUrls f_defaultDelay f_clock f_bufferLength f_urlCount f_hostCount f_ruleCount f_cLen f_cHost f_cHostLen f_cPq f_decLen f_segN : Int32} {a_buffer a_urlPool a_urlStart a_urlLength a_urlState a_urlHost a_urlTime a_names a_nameLength a_hostDelay a_hostNext a_hostSent a_rulePool a_ruleStart a_ruleLength a_ruleHost a_ycanon a_dec a_segS a_segL : Nat → Int32}
variable {t : Nat → Nat} {L : Nat}
theorem cy_s141 {post : Int32 → SY → Prop} {uc uch n h : Nat} (hu : uc < 32) (hn : n ≤ 49) (h256 : uch + n ≤ 256) (g : post (nI uc) (f_maxUrls, f_defaultDelay, f_clock, f_bufferLength, nI (uc + 1), f_hostCount, f_ruleCount, nI n, f_cHost, f_cHostLen, f_cPq, f_decLen, f_segN, a_buffer, cf_cp a_urlPool uch a_ycanon 0 n, upd a_urlStart uc (nI uch), upd a_urlLength uc (nI n), upd a_urlState uc 1, upd a_urlHost uc (nI h), upd a_urlTime uc (-1), a_names, a_nameLength, a_hostDelay, a_hostNext, a_hostSent, a_rulePool, a_ruleStart, a_ruleLength, a_ruleHost, a_ycanon, a_dec, a_segS, a_segL)) : wY_submit_141 post (nI h) (nI uch) f_maxUrls f_defaultDelay f_clock f_bufferLength (nI uc) f_hostCount f_ruleCount (nI n) f_cHost f_cHostLen f_cPq f_decLen f_segN a_buffer a_urlPool a_urlStart a_urlLength a_urlState a_urlHost a_urlTime a_names a_nameLength a_hostDelay a_hostNext a_hostSent a_rulePool a_ruleStart a_ruleLength a_ruleHost a_ycanon a_dec a_segS a_segL := by
  have vi : vp_in (nI uc) 32 := pk_in uc 32 hu
  have ec : (nI uc).toNatClampNeg = uc := pk_cl uc
  refine ⟨vi, nm_r (e' := upd a_urlStart uc (nI uch)) (by rw [ec]) ⟨vi, nm_r (e' := upd a_urlLength uc (nI n)) (by rw [ec]) ?_⟩⟩
  exact cf_fold0 (fun f i s => wY_submit_169 post (nI h) (nI uch) (nI uc) f_maxUrls f_defaultDelay f_clock f_bufferLength (nI uc) f_hostCount f_ruleCount (nI n) f_cHost f_cHostLen f_cPq f_decLen f_segN f (nI i) a_buffer s (upd a_urlStart uc (nI uch)) (upd a_urlLength uc (nI n)) a_urlState a_urlHost a_urlTime a_names a_nameLength a_hostDelay a_hostNext a_hostSent a_rulePool a_ruleStart a_ruleLength a_ruleHost a_ycanon a_dec a_segS a_segL) (fun i => cf_cp a_urlPool uch a_ycanon 0 i) n
    (fun f => pk_le n n (fun _ => ⟨vi, nm_r (e' := upd a_urlState uc 1) (by rw [ec]) ⟨vi, nm_r (e' := upd a_urlHost uc (nI h)) (by rw [ec]) ⟨vi, nm_r (e' := upd a_urlTime uc (-1)) (by rw [ec]) (nm_r (nI_1 uc) g)⟩⟩⟩) (fun z => by omega))
    (fun f i hi W => pk_le n i (fun z => by omega) (fun _ => ⟨pk_in i 64 (by omega), pk_in (uch + i) 256 (by omega) (nI_add uch i), nm_r (e' := cf_cp a_urlPool uch a_ycanon 0 (i + 1)) (by rw [pk_cl (uch + i) (nI_add uch i), pk_cl i]; show _ = upd _ _ (a_ycanon (0 + i)); rw [Nat.zero_add]) (nm_r (nI_1 i) W)⟩))
theorem cy_submit {post : Int32 → SY → Prop} {mu uc uch hc rc : Nat} (hL : L ≤ 48) (hb : ∀ j, a_buffer j = nI (t j)) (ht : ∀ j, t j ≤ 126) (h32 : mu ≤ 32) (hum : uc ≤ mu) (hch : uch ≤ 256) (hsum : cf_sm a_urlLength uc = nI uch) (h8 : hc ≤ 8) (hr8 : rc ≤ 8) (hU : ∀ u, u < uc → ∃ s m, a_urlStart u = nI s ∧ a_urlLength u = nI m ∧ s + m ≤ 256) (hR : ∀ r, r < rc → ∃ s m, a_ruleStart r = nI s ∧ a_ruleLength r = nI m ∧ s + m ≤ 128)
    (hN : (∀ c he p pE qE po D1 D2, ¬ cf_PS t L c he p pE qE po D1 D2) → ∀ a1 a2 a3 a4 n1 n2 n3 n4 n5 n6, post (-1) (nI mu, f_defaultDelay, f_clock, 0, nI uc, nI hc, nI rc, n1, n2, n3, n4, n5, n6, a_buffer, a_urlPool, a_urlStart, a_urlLength, a_urlState, a_urlHost, a_urlTime, a_names, a_nameLength, a_hostDelay, a_hostNext, a_hostSent, a_rulePool, a_ruleStart, a_ruleLength, a_ruleHost, a1, a2, a3, a4))
    (hRf : ∀ c he p pE qE po D1 D2 n H HL P, cf_PS t L c he p pE qE po D1 D2 → n = (cf_out t he po D1 D2).length → H = c + 3 → HL = he - (c + 3) → P = he + po.length → ∀ a1, cf_K a1 n (cf_out t he po D1 D2) → ∀ r, cf_Rf (∃ u, u < uc ∧ cf_Dup a_urlPool a_urlStart a_urlLength a1 n u) (cf_FF (cf_Ph a_names a_nameLength a1 H HL) hc) (fun x => ∃ r, r < rc ∧ cf_Pr a_rulePool a_ruleStart a_ruleLength a_ruleHost a1 P n x r) (-3) (mu ≤ uc ∨ 256 < uch + n) hc r → ∀ a2 a3 a4 n5 n6, post r (nI mu, f_defaultDelay, f_clock, 0, nI uc, nI hc, nI rc, nI n, nI H, nI HL, nI P, n5, n6, a_buffer, a_urlPool, a_urlStart, a_urlLength, a_urlState, a_urlHost, a_urlTime, a_names, a_nameLength, a_hostDelay, a_hostNext, a_hostSent, a_rulePool, a_ruleStart, a_ruleLength, a_ruleHost, a1, a2, a3, a4))
    (hA : ∀ c he p pE qE po D1 D2 n H HL P, cf_PS t L c he p pE qE po D1 D2 → n = (cf_out t he po D1 D2).length → H = c + 3 → HL = he - (c + 3) → P = he + po.length → ∀ a1, cf_K a1 n (cf_out t he po D1 D2) → ∀ x, cf_Ac (∃ u, u < uc ∧ cf_Dup a_urlPool a_urlStart a_urlLength a1 n u) (cf_FF (cf_Ph a_names a_nameLength a1 H HL) hc) (fun x => ∃ r, r < rc ∧ cf_Pr a_rulePool a_ruleStart a_ruleLength a_ruleHost a1 P n x r) (mu ≤ uc ∨ 256 < uch + n) hc x →
      (∀ h, h < hc → x = nI h → ∀ a2 a3 a4 n5 n6, post (nI uc) (nI mu, f_defaultDelay, f_clock, 0, nI (uc + 1), nI hc, nI rc, nI n, nI H, nI HL, nI P, n5, n6, a_buffer, cf_cp a_urlPool uch a1 0 n, upd a_urlStart uc (nI uch), upd a_urlLength uc (nI n), upd a_urlState uc 1, upd a_urlHost uc (nI h), upd a_urlTime uc (-1), a_names, a_nameLength, a_hostDelay, a_hostNext, a_hostSent, a_rulePool, a_ruleStart, a_ruleLength, a_ruleHost, a1, a2, a3, a4)) ∧
      (x = -1 → ∀ a2 a3 a4 n5 n6, post (nI uc) (nI mu, f_defaultDelay, f_clock, 0, nI (uc + 1), nI (hc + 1), nI rc, nI n, nI H, nI HL, nI P, n5, n6, a_buffer, cf_cp a_urlPool uch a1 0 n, upd a_urlStart uc (nI uch), upd a_urlLength uc (nI n), upd a_urlState uc 1, upd a_urlHost uc (nI hc), upd a_urlTime uc (-1), cf_cp a_names (hc * 16) a1 H HL, upd a_nameLength hc (nI HL), upd a_hostDelay hc f_defaultDelay, upd a_hostNext hc 0, upd a_hostSent hc 0, a_rulePool, a_ruleStart, a_ruleLength, a_ruleHost, a1, a2, a3, a4))) :
    wpY_submit post (nI mu, f_defaultDelay, f_clock, nI L, nI uc, nI hc, nI rc, f_cLen, f_cHost, f_cHostLen, f_cPq, f_decLen, f_segN, a_buffer, a_urlPool, a_urlStart, a_urlLength, a_urlState, a_urlHost, a_urlTime, a_names, a_nameLength, a_hostDelay, a_hostNext, a_hostSent, a_rulePool, a_ruleStart, a_ruleLength, a_ruleHost, a_ycanon, a_dec, a_segS, a_segL) := by
  unfold wpY_submit
  dsimp only
  refine cy_parse hL hb ht (fun h a1 a2 a3 a4 n1 n2 n3 n4 n5 n6 => br_t rfl (hN h _ _ _ _ _ _ _ _ _ _)) (fun c he p pE qE po D1 D2 ps a1 a2 a3 a4 n5 n6 hK => br_f (by decide) ?_)
  have bo := cf_outB ht hL ps
  have ol := cf_outL (t := t) (he := he) (po := po) (D1 := D1) (D2 := D2)
  have hRf' := hRf c he p pE qE po D1 D2 _ _ _ _ ps rfl rfl rfl rfl a1 hK
  have hA' := hA c he p pE qE po D1 D2 _ _ _ _ ps rfl rfl rfl rfl a1 hK
  have hpn : he + po.length ≤ (cf_out t he po D1 D2).length := by omega
  have hhl : he - (c + 3) ≤ 16 := by omega
  have hhn : c + 3 + (he - (c + 3)) ≤ 49 := by omega
  have hn49 : (cf_out t he po D1 D2).length ≤ 49 := by omega
  generalize (cf_out t he po D1 D2).length = n at *
  generalize he + po.length = P at *
  generalize c + 3 = H at *
  generalize he - H = HL at *
  refine cf_scan0 (fun f i => wY_submit_18 post (nI mu) f_defaultDelay f_clock 0 (nI uc) (nI hc) (nI rc) (nI n) (nI H) (nI HL) (nI P) n5 n6 a_buffer a_urlPool a_urlStart a_urlLength a_urlState a_urlHost a_urlTime a_names a_nameLength a_hostDelay a_hostNext a_hostSent a_rulePool a_ruleStart a_ruleLength a_ruleHost a1 a2 a3 a4 f (nI i)) (fun u => cf_Dup a_urlPool a_urlStart a_urlLength a1 n u) uc (fun f hall => ?_) (fun f i hi hP _ => ?_) (fun f i hi hP W => ?_)
  · have nd : ¬ (∃ u, u < uc ∧ cf_Dup a_urlPool a_urlStart a_urlLength a1 n u) := fun w => by
      obtain ⟨u, hu, w⟩ := w
      exact hall u hu w
    refine pk_le uc uc (fun _ => cy_findHost h8 hhl hhn (fun x fx => ?_)) (fun z => by omega)
    refine cf_scan0 (fun f i => wY_submit_50 post x (nI mu) f_defaultDelay f_clock 0 (nI uc) (nI hc) (nI rc) (nI n) (nI H) (nI HL) (nI P) n5 n6 a_buffer a_urlPool a_urlStart a_urlLength a_urlState a_urlHost a_urlTime a_names a_nameLength a_hostDelay a_hostNext a_hostSent a_rulePool a_ruleStart a_ruleLength a_ruleHost a1 a2 a3 a4 f (nI i)) (fun r => cf_Pr a_rulePool a_ruleStart a_ruleLength a_ruleHost a1 P n x r) rc (fun f hall2 => ?_) (fun f i hi hP _ => ?_) (fun f i hi hP W => ?_)
    · have nq : ¬ (∃ r, r < rc ∧ cf_Pr a_rulePool a_ruleStart a_ruleLength a_ruleHost a1 P n x r) := fun w => by
        obtain ⟨r, hr, w⟩ := w
        exact hall2 r hr w
      refine pk_le rc rc (fun _ => cy_urlChars (by omega) ?_) (fun z => by omega)
      have es : cf_sm a_urlLength uc + nI n = nI (uch + n) := by rw [hsum, nI_add]
      refine pk_le mu uc (fun z => hRf' _ (Or.inr ⟨nd, x, fx, Or.inr ⟨nq, Or.inl ⟨Or.inl z, rfl⟩⟩⟩) _ _ _ _ _) (fun z => pk_le (uch + n) 256 (fun z2 => ?_) (fun z2 => hRf' _ (Or.inr ⟨nd, x, fx, Or.inr ⟨nq, Or.inl ⟨Or.inr z2, rfl⟩⟩⟩) _ _ _ _ _) es)
      have nf : ¬ (mu ≤ uc ∨ 256 < uch + n) := by omega
      rw [hsum]
      have fx2 := fx
      rcases fx with ⟨h, hh, -, -, rfl⟩ | ⟨-, rfl⟩
      · have g := (hA' _ ⟨nd, fx2, nq, nf, fun w => absurd w (cf_m1 (by omega))⟩).1 h hh rfl
        exact br_t (nI_pos' (by omega)) (br_t (nI_pos' (by omega)) (cy_s141 (by omega) (by omega) (by omega) (g _ _ _ _ _)))
      · rcases Nat.lt_or_ge hc 8 with y | y
        · have g := (hA' _ ⟨nd, fx2, nq, nf, fun _ => y⟩).2 rfl
          exact br_f (by decide) (pk_lt hc 8 (fun _ => br_f (by decide) (cy_addHost y hhl hhn (cy_s141 (by omega) (by omega) (by omega) (g _ _ _ _ _)))) (fun w => by omega))
        · exact br_f (by decide) (pk_lt hc 8 (fun w => by omega) (fun _ => hRf' _ (Or.inr ⟨nd, _, fx2, Or.inr ⟨nq, Or.inr ⟨nf, rfl, y, rfl⟩⟩⟩) _ _ _ _ _))
    · obtain ⟨s, m, e1, e2, e3⟩ := hR i hi
      exact pk_le rc i (fun z => by omega) (fun _ => ⟨pk_in i 8 (by omega), br_t (cf_ix i rfl (by omega) hP.1) (cy_prefix e1 e2 e3 (by omega) hn49 hpn (fun _ => br_f (by decide) (hRf' _ (Or.inr ⟨nd, x, fx, Or.inl ⟨⟨i, hi, hP⟩, rfl⟩⟩) _ _ _ _ _)) (fun w => absurd hP.2 w))⟩)
    · obtain ⟨s, m, e1, e2, e3⟩ := hR i hi
      exact pk_le rc i (fun z => by omega) (fun _ => ⟨pk_in i 8 (by omega), cf_bi i (by omega) (fun e => cy_prefix e1 e2 e3 (by omega) hn49 hpn (fun w => absurd ⟨e, w⟩ hP) (fun _ => br_t rfl (nm_r (nI_1 i) W))) (fun e => nm_r (nI_1 i) W)⟩)
  · obtain ⟨s, m, e1, e2, e3⟩ := hU i hi
    exact pk_le uc i (fun z => by omega) (fun _ => cy_sameAs (uc := uc) e1 e2 e3 (by omega) hn49 (fun d => br_f (by decide) (hRf' _ (Or.inl ⟨⟨i, hi, d⟩, rfl⟩) _ _ _ _ _)) (fun d => absurd hP d))
  · obtain ⟨s, m, e1, e2, e3⟩ := hU i hi
    exact pk_le uc i (fun z => by omega) (fun _ => cy_sameAs (uc := uc) e1 e2 e3 (by omega) hn49 (fun d => absurd d hP) (fun d => br_t rfl (nm_r (nI_1 i) W)))
theorem cy_d136 {post : Int32 → SY → Prop} {a_pt : Nat → Int32} {uc rc rch n P h : Nat} (h32 : uc ≤ 32) (hr : rc < 8) (hP : P ≤ n) (hn : n ≤ 49) (h128 : rch + (n - P) ≤ 128) (hU : ∀ u, u < uc → ∃ s m p a, a_urlStart u = nI s ∧ a_urlLength u = nI m ∧ a_pt u = nI p ∧ s + m ≤ 256 ∧ a + 2 ≤ p ∧ p < m ∧ a_urlPool (s + a) = 47 ∧ a_urlPool (s + (a + 1)) = 47 ∧ a_urlPool (s + p) = 47 ∧ ∀ j, j < p → j ≠ a → j ≠ a + 1 → a_urlPool (s + j) ≠ 47) (g : post (nI (cf_bk (cf_M a_urlPool a_urlStart a_urlLength a_pt a_urlHost (cf_cp a_rulePool rch a_ycanon P (n - P)) (upd a_ruleStart rc (nI rch)) (upd a_ruleLength rc (nI (n - P))) (upd a_ruleHost rc (nI h)) rc) a_urlState uc).2) (f_maxUrls, f_defaultDelay, f_clock, f_bufferLength, nI uc, f_hostCount, nI (rc + 1), f_cLen, f_cHost, f_cHostLen, nI P, f_decLen, f_segN, a_buffer, a_urlPool, a_urlStart, a_urlLength, (cf_bk (cf_M a_urlPool a_urlStart a_urlLength a_pt a_urlHost (cf_cp a_rulePool rch a_ycanon P (n - P)) (upd a_ruleStart rc (nI rch)) (upd a_ruleLength rc (nI (n - P))) (upd a_ruleHost rc (nI h)) rc) a_urlState uc).1, a_urlHost, a_urlTime, a_names, a_nameLength, a_hostDelay, a_hostNext, a_hostSent, cf_cp a_rulePool rch a_ycanon P (n - P), upd a_ruleStart rc (nI rch), upd a_ruleLength rc (nI (n - P)), upd a_ruleHost rc (nI h), a_ycanon, a_dec, a_segS, a_segL)) : wY_disallow_136 post (nI h) (nI (n - P)) (nI rch) f_maxUrls f_defaultDelay f_clock f_bufferLength (nI uc) f_hostCount (nI rc) f_cLen f_cHost f_cHostLen (nI P) f_decLen f_segN a_buffer a_urlPool a_urlStart a_urlLength a_urlState a_urlHost a_urlTime a_names a_nameLength a_hostDelay a_hostNext a_hostSent a_rulePool a_ruleStart a_ruleLength a_ruleHost a_ycanon a_dec a_segS a_segL := by
  have vi : vp_in (nI rc) 8 := pk_in rc 8 hr
  have ec : (nI rc).toNatClampNeg = rc := pk_cl rc
  refine ⟨vi, nm_r (e' := upd a_ruleStart rc (nI rch)) (by rw [ec]) ⟨vi, nm_r (e' := upd a_ruleLength rc (nI (n - P))) (by rw [ec]) ⟨vi, nm_r (e' := upd a_ruleHost rc (nI h)) (by rw [ec]) ?_⟩⟩⟩
  refine cf_fold0 (fun f i s => wY_disallow_170 post (nI (n - P)) (nI rch) (nI rc) f_maxUrls f_defaultDelay f_clock f_bufferLength (nI uc) f_hostCount (nI rc) f_cLen f_cHost f_cHostLen (nI P) f_decLen f_segN f (nI i) a_buffer a_urlPool a_urlStart a_urlLength a_urlState a_urlHost a_urlTime a_names a_nameLength a_hostDelay a_hostNext a_hostSent s (upd a_ruleStart rc (nI rch)) (upd a_ruleLength rc (nI (n - P))) (upd a_ruleHost rc (nI h)) a_ycanon a_dec a_segS a_segL) (fun i => cf_cp a_rulePool rch a_ycanon P i) (n - P)
    (fun f => pk_le (n - P) (n - P) (fun _ => nm_r (nI_1 rc) ?_) (fun z => by omega))
    (fun f i hi W => pk_le (n - P) i (fun z => by omega) (fun _ => ⟨pk_in (P + i) 64 (by omega) (nI_add P i), pk_in (rch + i) 128 (by omega) (nI_add rch i), nm_r (e' := cf_cp a_rulePool rch a_ycanon P (i + 1)) (by rw [pk_cl (rch + i) (nI_add rch i), pk_cl (P + i) (nI_add P i)]; rfl) (nm_r (nI_1 i) W)⟩))
  refine cf_fold0 (fun f i s => wY_disallow_220 post (nI rc) f_maxUrls f_defaultDelay f_clock f_bufferLength (nI uc) f_hostCount (nI (rc + 1)) f_cLen f_cHost f_cHostLen (nI P) f_decLen f_segN f (nI s.2) (nI i) a_buffer a_urlPool a_urlStart a_urlLength s.1 a_urlHost a_urlTime a_names a_nameLength a_hostDelay a_hostNext a_hostSent (cf_cp a_rulePool rch a_ycanon P (n - P)) (upd a_ruleStart rc (nI rch)) (upd a_ruleLength rc (nI (n - P))) (upd a_ruleHost rc (nI h)) a_ycanon a_dec a_segS a_segL) (fun i => cf_bk (cf_M a_urlPool a_urlStart a_urlLength a_pt a_urlHost (cf_cp a_rulePool rch a_ycanon P (n - P)) (upd a_ruleStart rc (nI rch)) (upd a_ruleLength rc (nI (n - P))) (upd a_ruleHost rc (nI h)) rc) a_urlState i) uc (fun f => pk_le uc uc (fun _ => g) (fun z => by omega)) (fun f i hi W => ?_)
  have hm : ∀ us (p : Int32 → Prop), ((cf_M a_urlPool a_urlStart a_urlLength a_pt a_urlHost (cf_cp a_rulePool rch a_ycanon P (n - P)) (upd a_ruleStart rc (nI rch)) (upd a_ruleLength rc (nI (n - P))) (upd a_ruleHost rc (nI h)) rc) i → p 1) → (¬ (cf_M a_urlPool a_urlStart a_urlLength a_pt a_urlHost (cf_cp a_rulePool rch a_ycanon P (n - P)) (upd a_ruleStart rc (nI rch)) (upd a_ruleLength rc (nI (n - P))) (upd a_ruleHost rc (nI h)) rc) i → p 0) → wpY_urlMatchesRule p (f_maxUrls, f_defaultDelay, f_clock, f_bufferLength, nI uc, f_hostCount, nI (rc + 1), f_cLen, f_cHost, f_cHostLen, nI P, f_decLen, f_segN, a_buffer, a_urlPool, a_urlStart, a_urlLength, us, a_urlHost, a_urlTime, a_names, a_nameLength, a_hostDelay, a_hostNext, a_hostSent, cf_cp a_rulePool rch a_ycanon P (n - P), upd a_ruleStart rc (nI rch), upd a_ruleLength rc (nI (n - P)), upd a_ruleHost rc (nI h), a_ycanon, a_dec, a_segS, a_segL) (nI i) (nI rc) := by
    intro us p k1 k0
    obtain ⟨s, m, p0, a, e1, e2, e3, e4, e5, e6, q1, q2, q3, q4⟩ := hU i hi
    exact cy_matches (by omega) hr e1 e2 e3 e4 e5 e6 q1 q2 q3 q4 pk_us pk_us (by omega) k1 k0
  refine pk_le uc i (fun z => by omega) (fun _ => ⟨pk_in i 32 (by omega), cf_bi i (by omega) (fun e => hm _ _ (fun m => br_f (by decide) ⟨pk_in i 32 (by omega), ?_⟩) (fun m => br_t rfl (nm_r (nI_1 i) ?_))) (fun e => nm_r (nI_1 i) ?_)⟩)
  · rw [cf_bkT ⟨e, m⟩] at W
    exact nm_r (e' := upd (cf_bk (cf_M a_urlPool a_urlStart a_urlLength a_pt a_urlHost (cf_cp a_rulePool rch a_ycanon P (n - P)) (upd a_ruleStart rc (nI rch)) (upd a_ruleLength rc (nI (n - P))) (upd a_ruleHost rc (nI h)) rc) a_urlState i).1 i 3) (by rw [pk_cl i]) (nm_r (nI_1 _) (nm_r (nI_1 i) W))
  · rw [cf_bkF (fun w => m w.2)] at W
    exact W
  · rw [cf_bkF (fun w => e w.1)] at W
    exact W
theorem cy_disallow {post : Int32 → SY → Prop} {a_pt : Nat → Int32} {uc hc rc rch : Nat} (hL : L ≤ 48) (hb : ∀ j, a_buffer j = nI (t j)) (ht : ∀ j, t j ≤ 126) (h32 : uc ≤ 32) (h8 : hc ≤ 8) (hr8 : rc ≤ 8) (hrch : rch ≤ 128) (hsum : cf_sm a_ruleLength rc = nI rch) (hU : ∀ u, u < uc → ∃ s m p a, a_urlStart u = nI s ∧ a_urlLength u = nI m ∧ a_pt u = nI p ∧ s + m ≤ 256 ∧ a + 2 ≤ p ∧ p < m ∧ a_urlPool (s + a) = 47 ∧ a_urlPool (s + (a + 1)) = 47 ∧ a_urlPool (s + p) = 47 ∧ ∀ j, j < p → j ≠ a → j ≠ a + 1 → a_urlPool (s + j) ≠ 47) (hR : ∀ r, r < rc → ∃ s m, a_ruleStart r = nI s ∧ a_ruleLength r = nI m ∧ s + m ≤ 128)
    (hN : (∀ c he p pE qE po D1 D2, ¬ cf_PS t L c he p pE qE po D1 D2) → ∀ a1 a2 a3 a4 n1 n2 n3 n4 n5 n6, post (-1) (f_maxUrls, f_defaultDelay, f_clock, 0, nI uc, nI hc, nI rc, n1, n2, n3, n4, n5, n6, a_buffer, a_urlPool, a_urlStart, a_urlLength, a_urlState, a_urlHost, a_urlTime, a_names, a_nameLength, a_hostDelay, a_hostNext, a_hostSent, a_rulePool, a_ruleStart, a_ruleLength, a_ruleHost, a1, a2, a3, a4))
    (hRf : ∀ c he p pE qE po D1 D2 n H HL P, cf_PS t L c he p pE qE po D1 D2 → n = (cf_out t he po D1 D2).length → H = c + 3 → HL = he - (c + 3) → P = he + po.length → ∀ a1, cf_K a1 n (cf_out t he po D1 D2) → ∀ r, cf_Rf False (cf_FF (cf_Ph a_names a_nameLength a1 H HL) hc) (fun x => ∃ r, r < rc ∧ cf_Pe a_rulePool a_ruleStart a_ruleLength a_ruleHost a1 P n x r) (-2) (8 ≤ rc ∨ 128 < rch + (n - P)) hc r → ∀ a2 a3 a4 n5 n6, post r (f_maxUrls, f_defaultDelay, f_clock, 0, nI uc, nI hc, nI rc, nI n, nI H, nI HL, nI P, n5, n6, a_buffer, a_urlPool, a_urlStart, a_urlLength, a_urlState, a_urlHost, a_urlTime, a_names, a_nameLength, a_hostDelay, a_hostNext, a_hostSent, a_rulePool, a_ruleStart, a_ruleLength, a_ruleHost, a1, a2, a3, a4))
    (hA : ∀ c he p pE qE po D1 D2 n H HL P, cf_PS t L c he p pE qE po D1 D2 → n = (cf_out t he po D1 D2).length → H = c + 3 → HL = he - (c + 3) → P = he + po.length → ∀ a1, cf_K a1 n (cf_out t he po D1 D2) → ∀ x, cf_Ac False (cf_FF (cf_Ph a_names a_nameLength a1 H HL) hc) (fun x => ∃ r, r < rc ∧ cf_Pe a_rulePool a_ruleStart a_ruleLength a_ruleHost a1 P n x r) (8 ≤ rc ∨ 128 < rch + (n - P)) hc x →
      (∀ h, h < hc → x = nI h → ∀ a2 a3 a4 n5 n6, post (nI (cf_bk (cf_M a_urlPool a_urlStart a_urlLength a_pt a_urlHost (cf_cp a_rulePool rch a1 P (n - P)) (upd a_ruleStart rc (nI rch)) (upd a_ruleLength rc (nI (n - P))) (upd a_ruleHost rc (nI h)) rc) a_urlState uc).2) (f_maxUrls, f_defaultDelay, f_clock, 0, nI uc, nI hc, nI (rc + 1), nI n, nI H, nI HL, nI P, n5, n6, a_buffer, a_urlPool, a_urlStart, a_urlLength, (cf_bk (cf_M a_urlPool a_urlStart a_urlLength a_pt a_urlHost (cf_cp a_rulePool rch a1 P (n - P)) (upd a_ruleStart rc (nI rch)) (upd a_ruleLength rc (nI (n - P))) (upd a_ruleHost rc (nI h)) rc) a_urlState uc).1, a_urlHost, a_urlTime, a_names, a_nameLength, a_hostDelay, a_hostNext, a_hostSent, cf_cp a_rulePool rch a1 P (n - P), upd a_ruleStart rc (nI rch), upd a_ruleLength rc (nI (n - P)), upd a_ruleHost rc (nI h), a1, a2, a3, a4)) ∧
      (x = -1 → ∀ a2 a3 a4 n5 n6, post (nI (cf_bk (cf_M a_urlPool a_urlStart a_urlLength a_pt a_urlHost (cf_cp a_rulePool rch a1 P (n - P)) (upd a_ruleStart rc (nI rch)) (upd a_ruleLength rc (nI (n - P))) (upd a_ruleHost rc (nI hc)) rc) a_urlState uc).2) (f_maxUrls, f_defaultDelay, f_clock, 0, nI uc, nI (hc + 1), nI (rc + 1), nI n, nI H, nI HL, nI P, n5, n6, a_buffer, a_urlPool, a_urlStart, a_urlLength, (cf_bk (cf_M a_urlPool a_urlStart a_urlLength a_pt a_urlHost (cf_cp a_rulePool rch a1 P (n - P)) (upd a_ruleStart rc (nI rch)) (upd a_ruleLength rc (nI (n - P))) (upd a_ruleHost rc (nI hc)) rc) a_urlState uc).1, a_urlHost, a_urlTime, cf_cp a_names (hc * 16) a1 H HL, upd a_nameLength hc (nI HL), upd a_hostDelay hc f_defaultDelay, upd a_hostNext hc 0, upd a_hostSent hc 0, cf_cp a_rulePool rch a1 P (n - P), upd a_ruleStart rc (nI rch), upd a_ruleLength rc (nI (n - P)), upd a_ruleHost rc (nI hc), a1, a2, a3, a4))) :
    wpY_disallow post (f_maxUrls, f_defaultDelay, f_clock, nI L, nI uc, nI hc, nI rc, f_cLen, f_cHost, f_cHostLen, f_cPq, f_decLen, f_segN, a_buffer, a_urlPool, a_urlStart, a_urlLength, a_urlState, a_urlHost, a_urlTime, a_names, a_nameLength, a_hostDelay, a_hostNext, a_hostSent, a_rulePool, a_ruleStart, a_ruleLength, a_ruleHost, a_ycanon, a_dec, a_segS, a_segL) := by
  unfold wpY_disallow
  dsimp only
  refine cy_parse hL hb ht (fun h a1 a2 a3 a4 n1 n2 n3 n4 n5 n6 => br_t rfl (hN h _ _ _ _ _ _ _ _ _ _)) (fun c he p pE qE po D1 D2 ps a1 a2 a3 a4 n5 n6 hK => br_f (by decide) ?_)
  have bo := cf_outB ht hL ps
  have ol := cf_outL (t := t) (he := he) (po := po) (D1 := D1) (D2 := D2)
  have hRf' := hRf c he p pE qE po D1 D2 _ _ _ _ ps rfl rfl rfl rfl a1 hK
  have hA' := hA c he p pE qE po D1 D2 _ _ _ _ ps rfl rfl rfl rfl a1 hK
  have hpn : he + po.length ≤ (cf_out t he po D1 D2).length := by omega
  have hhl : he - (c + 3) ≤ 16 := by omega
  have hhn : c + 3 + (he - (c + 3)) ≤ 49 := by omega
  have hn49 : (cf_out t he po D1 D2).length ≤ 49 := by omega
  generalize (cf_out t he po D1 D2).length = n at *
  generalize he + po.length = P at *
  generalize c + 3 = H at *
  generalize he - H = HL at *
  refine cy_findHost h8 hhl hhn (fun x fx => nm_r (pk_sub hpn) ?_)
  refine cf_scan0 (fun f i => wY_disallow_34 post x (nI (n - P)) f_maxUrls f_defaultDelay f_clock 0 (nI uc) (nI hc) (nI rc) (nI n) (nI H) (nI HL) (nI P) n5 n6 a_buffer a_urlPool a_urlStart a_urlLength a_urlState a_urlHost a_urlTime a_names a_nameLength a_hostDelay a_hostNext a_hostSent a_rulePool a_ruleStart a_ruleLength a_ruleHost a1 a2 a3 a4 f (nI i)) (fun r => cf_Pe a_rulePool a_ruleStart a_ruleLength a_ruleHost a1 P n x r) rc (fun f hall2 => ?_) (fun f i hi hP _ => ?_) (fun f i hi hP W => ?_)
  · have nq : ¬ (∃ r, r < rc ∧ cf_Pe a_rulePool a_ruleStart a_ruleLength a_ruleHost a1 P n x r) := fun w => by
      obtain ⟨r, hr, w⟩ := w
      exact hall2 r hr w
    refine pk_le rc rc (fun _ => cy_ruleChars hr8 ?_) (fun z => by omega)
    have es : cf_sm a_ruleLength rc + nI (n - P) = nI (rch + (n - P)) := by rw [hsum, nI_add]
    refine pk_le 8 rc (fun z => hRf' _ (Or.inr ⟨id, x, fx, Or.inr ⟨nq, Or.inl ⟨Or.inl z, rfl⟩⟩⟩) _ _ _ _ _) (fun z => pk_le (rch + (n - P)) 128 (fun z2 => ?_) (fun z2 => hRf' _ (Or.inr ⟨id, x, fx, Or.inr ⟨nq, Or.inl ⟨Or.inr z2, rfl⟩⟩⟩) _ _ _ _ _) es)
    have nf : ¬ (8 ≤ rc ∨ 128 < rch + (n - P)) := by omega
    rw [hsum]
    have fx2 := fx
    rcases fx with ⟨h, hh, -, -, rfl⟩ | ⟨-, rfl⟩
    · have g := (hA' _ ⟨id, fx2, nq, nf, fun w => absurd w (cf_m1 (by omega))⟩).1 h hh rfl
      exact br_t (nI_pos' (by omega)) (br_t (nI_pos' (by omega)) (cy_d136 (a_pt := a_pt) h32 z hpn hn49 z2 hU (g _ _ _ _ _)))
    · rcases Nat.lt_or_ge hc 8 with y | y
      · have g := (hA' _ ⟨id, fx2, nq, nf, fun _ => y⟩).2 rfl
        exact br_f (by decide) (pk_lt hc 8 (fun _ => br_f (by decide) (cy_addHost y hhl hhn (cy_d136 (a_pt := a_pt) h32 z hpn hn49 z2 hU (g _ _ _ _ _)))) (fun w => by omega))
      · exact br_f (by decide) (pk_lt hc 8 (fun w => by omega) (fun _ => hRf' _ (Or.inr ⟨id, _, fx2, Or.inr ⟨nq, Or.inr ⟨nf, rfl, y, rfl⟩⟩⟩) _ _ _ _ _))
  · obtain ⟨s, m, e1, e2, e3⟩ := hR i hi
    have c2 : (a_ruleLength i).toNatClampNeg = m := by rw [e2]; exact pk_cl m
    have d2 : a_ruleLength (nI i).toNatClampNeg = nI m := cf_ix i rfl (by omega) e2
    have q2 := hP.2.1
    rw [c2] at q2
    exact pk_le rc i (fun z => by omega) (fun _ => ⟨pk_in i 8 (by omega), br_t (cf_ix i rfl (by omega) hP.1) ⟨pk_in i 8 (by omega), pk_eq m (n - P) (fun _ => cy_prefix e1 e2 e3 (by omega) hn49 hpn (fun _ => br_f (by decide) (hRf' _ (Or.inr ⟨id, x, fx, Or.inl ⟨⟨i, hi, hP⟩, rfl⟩⟩) _ _ _ _ _)) (fun w => absurd ⟨Nat.le_of_eq hP.2.1, hP.2.2⟩ w)) (fun w => absurd q2 w) d2⟩⟩)
  · obtain ⟨s, m, e1, e2, e3⟩ := hR i hi
    have c2 : (a_ruleLength i).toNatClampNeg = m := by rw [e2]; exact pk_cl m
    have d2 : a_ruleLength (nI i).toNatClampNeg = nI m := cf_ix i rfl (by omega) e2
    exact pk_le rc i (fun z => by omega) (fun _ => ⟨pk_in i 8 (by omega), cf_bi i (by omega) (fun e => ⟨pk_in i 8 (by omega), pk_eq m (n - P) (fun y => cy_prefix e1 e2 e3 (by omega) hn49 hpn (fun w => absurd ⟨e, by rw [c2]; exact y, w.2⟩ hP) (fun _ => br_t rfl (nm_r (nI_1 i) W))) (fun y => nm_r (nI_1 i) W) d2⟩) (fun e => nm_r (nI_1 i) W)⟩)
theorem cy_setDelay {post : Int32 → SY → Prop} {hc : Nat} {v : Int32} (hL : L ≤ 48) (hb : ∀ j, a_buffer j = nI (t j)) (ht : ∀ j, t j ≤ 126) (h8 : hc ≤ 8) (hv1 : ¬ v < 1) (hv2 : v ≤ 16)
    (hN : (∀ c he p pE qE po D1 D2, ¬ cf_PS t L c he p pE qE po D1 D2) → ∀ a1 a2 a3 a4 n1 n2 n3 n4 n5 n6, post (-1) (f_maxUrls, f_defaultDelay, f_clock, 0, f_urlCount, nI hc, f_ruleCount, n1, n2, n3, n4, n5, n6, a_buffer, a_urlPool, a_urlStart, a_urlLength, a_urlState, a_urlHost, a_urlTime, a_names, a_nameLength, a_hostDelay, a_hostNext, a_hostSent, a_rulePool, a_ruleStart, a_ruleLength, a_ruleHost, a1, a2, a3, a4))
    (hRf : ∀ c he p pE qE po D1 D2 n H HL P, cf_PS t L c he p pE qE po D1 D2 → n = (cf_out t he po D1 D2).length → H = c + 3 → HL = he - (c + 3) → P = he + po.length → ∀ a1, cf_K a1 n (cf_out t he po D1 D2) → ∀ r, cf_Rf False (cf_FF (cf_Ph a_names a_nameLength a1 H HL) hc) (fun _ => False) 0 False hc r → ∀ a2 a3 a4 n5 n6, post r (f_maxUrls, f_defaultDelay, f_clock, 0, f_urlCount, nI hc, f_ruleCount, nI n, nI H, nI HL, nI P, n5, n6, a_buffer, a_urlPool, a_urlStart, a_urlLength, a_urlState, a_urlHost, a_urlTime, a_names, a_nameLength, a_hostDelay, a_hostNext, a_hostSent, a_rulePool, a_ruleStart, a_ruleLength, a_ruleHost, a1, a2, a3, a4))
    (hA : ∀ c he p pE qE po D1 D2 n H HL P, cf_PS t L c he p pE qE po D1 D2 → n = (cf_out t he po D1 D2).length → H = c + 3 → HL = he - (c + 3) → P = he + po.length → ∀ a1, cf_K a1 n (cf_out t he po D1 D2) → ∀ x, cf_Ac False (cf_FF (cf_Ph a_names a_nameLength a1 H HL) hc) (fun _ => False) False hc x →
      (∀ h, h < hc → x = nI h → ∀ a2 a3 a4 n5 n6, post (nI h) (f_maxUrls, f_defaultDelay, f_clock, 0, f_urlCount, nI hc, f_ruleCount, nI n, nI H, nI HL, nI P, n5, n6, a_buffer, a_urlPool, a_urlStart, a_urlLength, a_urlState, a_urlHost, a_urlTime, a_names, a_nameLength, upd a_hostDelay h v, a_hostNext, a_hostSent, a_rulePool, a_ruleStart, a_ruleLength, a_ruleHost, a1, a2, a3, a4)) ∧
      (x = -1 → ∀ a2 a3 a4 n5 n6, post (nI hc) (f_maxUrls, f_defaultDelay, f_clock, 0, f_urlCount, nI (hc + 1), f_ruleCount, nI n, nI H, nI HL, nI P, n5, n6, a_buffer, a_urlPool, a_urlStart, a_urlLength, a_urlState, a_urlHost, a_urlTime, cf_cp a_names (hc * 16) a1 H HL, upd a_nameLength hc (nI HL), upd (upd a_hostDelay hc f_defaultDelay) hc v, upd a_hostNext hc 0, upd a_hostSent hc 0, a_rulePool, a_ruleStart, a_ruleLength, a_ruleHost, a1, a2, a3, a4))) :
    wpY_setDelay post (f_maxUrls, f_defaultDelay, f_clock, nI L, f_urlCount, nI hc, f_ruleCount, f_cLen, f_cHost, f_cHostLen, f_cPq, f_decLen, f_segN, a_buffer, a_urlPool, a_urlStart, a_urlLength, a_urlState, a_urlHost, a_urlTime, a_names, a_nameLength, a_hostDelay, a_hostNext, a_hostSent, a_rulePool, a_ruleStart, a_ruleLength, a_ruleHost, a_ycanon, a_dec, a_segS, a_segL) v := by
  refine br_f hv1 (br_t hv2 ?_)
  refine cy_parse hL hb ht (fun h a1 a2 a3 a4 n1 n2 n3 n4 n5 n6 => br_t rfl (hN h _ _ _ _ _ _ _ _ _ _)) (fun c he p pE qE po D1 D2 ps a1 a2 a3 a4 n5 n6 hK => br_f (by decide) ?_)
  have bo := cf_outB ht hL ps
  have hRf' := hRf c he p pE qE po D1 D2 _ _ _ _ ps rfl rfl rfl rfl a1 hK
  have hA' := hA c he p pE qE po D1 D2 _ _ _ _ ps rfl rfl rfl rfl a1 hK
  have hhl : he - (c + 3) ≤ 16 := by omega
  have hhn : c + 3 + (he - (c + 3)) ≤ 49 := by omega
  refine cy_findHost h8 hhl hhn (fun x fx => ?_)
  have fx2 := fx
  rcases fx with ⟨h, hh, -, -, rfl⟩ | ⟨-, rfl⟩
  · have g := (hA' _ ⟨id, fx2, id, id, fun w => absurd w (cf_m1 (by omega))⟩).1 h hh rfl
    exact br_t (nI_pos' (by omega)) (br_t (nI_pos' (by omega)) ⟨pk_in h 8 (by omega), nm_r (e' := upd a_hostDelay h v) (by rw [pk_cl h]) (g _ _ _ _ _)⟩)
  · rcases Nat.lt_or_ge hc 8 with y | y
    · have g := (hA' _ ⟨id, fx2, id, id, fun _ => y⟩).2 rfl
      exact br_f (by decide) (pk_lt hc 8 (fun _ => br_f (by decide) (cy_addHost y hhl hhn ⟨pk_in hc 8 y, nm_r (e' := upd (upd a_hostDelay hc f_defaultDelay) hc v) (by rw [pk_cl hc]) (g _ _ _ _ _)⟩)) (fun w => by omega))
    · exact br_f (by decide) (pk_lt hc 8 (fun w => by omega) (fun _ => hRf' _ (Or.inr ⟨id, _, fx2, Or.inr ⟨id, Or.inr ⟨id, rfl, y, rfl⟩⟩⟩) _ _ _ _ _))
end
end
section
/-! the reference: clock and counts; then one run of tick on both sides -/
theorem cf_least {P : Nat → Prop} : ∀ n, P n → ∃ k, k ≤ n ∧ P k ∧ ∀ j, j < k → ¬ P j := by
  intro n
  induction n using Nat.strongRecOn with
  | ind n ih =>
    intro hn
    by_cases h : ∃ j, j < n ∧ P j
    · obtain ⟨j, hj, pj⟩ := h
      obtain ⟨k, hk, pk, lk⟩ := ih j hj pj
      exact ⟨k, by omega, pk, lk⟩
    · exact ⟨n, Nat.le_refl _, hn, fun j hj pj => h ⟨j, hj, pj⟩⟩
section
variable {f_maxUrls f_defaultDelay f_clock f_bufferLength f_urlCount f_hostCount f_ruleCount f_cLen f_cHost f_cHostLen f_cPq f_decLen f_segN : Int32} {a_buffer a_urlPool a_urlStart a_urlLength a_urlState a_urlHost a_urlTime a_names a_nameLength a_hostDelay a_hostNext a_hostSent a_rulePool a_ruleStart a_ruleLength a_ruleHost a_ycanon a_dec a_segS a_segL : Nat → Int32}
theorem cy_firstQueued {post : Int32 → Prop} {x : Int32} {uc : Nat} (huc : uc ≤ 32) (h : ∀ r, cf_FF (fun u => a_urlHost u = x ∧ a_urlState u = 1) uc r → post r) : wpY_firstQueued post (f_maxUrls, f_defaultDelay, f_clock, f_bufferLength, nI uc, f_hostCount, f_ruleCount, f_cLen, f_cHost, f_cHostLen, f_cPq, f_decLen, f_segN, a_buffer, a_urlPool, a_urlStart, a_urlLength, a_urlState, a_urlHost, a_urlTime, a_names, a_nameLength, a_hostDelay, a_hostNext, a_hostSent, a_rulePool, a_ruleStart, a_ruleLength, a_ruleHost, a_ycanon, a_dec, a_segS, a_segL) x := by
  refine cf_scan0 (fun f i => wY_firstQueued_2 post x f_maxUrls f_defaultDelay f_clock f_bufferLength (nI uc) f_hostCount f_ruleCount f_cLen f_cHost f_cHostLen f_cPq f_decLen f_segN a_buffer a_urlPool a_urlStart a_urlLength a_urlState a_urlHost a_urlTime a_names a_nameLength a_hostDelay a_hostNext a_hostSent a_rulePool a_ruleStart a_ruleLength a_ruleHost a_ycanon a_dec a_segS a_segL f (nI i)) (fun u => a_urlHost u = x ∧ a_urlState u = 1) uc
    (fun f hall => pk_le uc uc (fun _ => h _ (Or.inr ⟨hall, rfl⟩)) (fun z => by omega)) (fun f i hi hP hl => ?_) (fun f i hi hP W => ?_)
  · exact pk_le uc i (fun z => by omega) (fun _ => ⟨pk_in i 32 (by omega), br_t (cf_ix i rfl (by omega) hP.1) ⟨pk_in i 32 (by omega), br_t (cf_ix i rfl (by omega) hP.2) (h _ (Or.inl ⟨i, hi, hP, hl, rfl⟩))⟩⟩)
  · exact pk_le uc i (fun z => by omega) (fun _ => ⟨pk_in i 32 (by omega), cf_bi i (by omega) (fun e => ⟨pk_in i 32 (by omega), cf_bi i (by omega) (fun e2 => absurd ⟨e, e2⟩ hP) (fun e2 => nm_r (nI_1 i) W)⟩) (fun e => nm_r (nI_1 i) W)⟩)
theorem cy_queuedOf {post : Int32 → Prop} {x : Int32} {uc : Nat} (huc : uc ≤ 32) (h : post (nI (cf_ct (fun u => a_urlHost u = x ∧ a_urlState u = 1) uc))) : wpY_queuedOf post (f_maxUrls, f_defaultDelay, f_clock, f_bufferLength, nI uc, f_hostCount, f_ruleCount, f_cLen, f_cHost, f_cHostLen, f_cPq, f_decLen, f_segN, a_buffer, a_urlPool, a_urlStart, a_urlLength, a_urlState, a_urlHost, a_urlTime, a_names, a_nameLength, a_hostDelay, a_hostNext, a_hostSent, a_rulePool, a_ruleStart, a_ruleLength, a_ruleHost, a_ycanon, a_dec, a_segS, a_segL) x := by
  refine cf_fold0 (fun f i s => wY_queuedOf_4 post x f_maxUrls f_defaultDelay f_clock f_bufferLength (nI uc) f_hostCount f_ruleCount f_cLen f_cHost f_cHostLen f_cPq f_decLen f_segN a_buffer a_urlPool a_urlStart a_urlLength a_urlState a_urlHost a_urlTime a_names a_nameLength a_hostDelay a_hostNext a_hostSent a_rulePool a_ruleStart a_ruleLength a_ruleHost a_ycanon a_dec a_segS a_segL f (nI s) (nI i)) (fun i => cf_ct (fun u => a_urlHost u = x ∧ a_urlState u = 1) i) uc (fun f => pk_le uc uc (fun _ => h) (fun z => by omega)) (fun f i hi W => ?_)
  refine pk_le uc i (fun z => by omega) (fun _ => ⟨pk_in i 32 (by omega), cf_bi i (by omega) (fun e => ⟨pk_in i 32 (by omega), cf_bi i (by omega) (fun e2 => nm_r (nI_1 _) (nm_r (nI_1 i) ?_)) (fun e2 => nm_r (nI_1 i) ?_)⟩) (fun e => nm_r (nI_1 i) ?_)⟩)
  · rw [cf_ctT (P := fun u => a_urlHost u = x ∧ a_urlState u = 1) ⟨e, e2⟩] at W
    exact W
  · rw [cf_ctF (P := fun u => a_urlHost u = x ∧ a_urlState u = 1) (fun w => e2 w.2)] at W
    exact W
  · rw [cf_ctF (P := fun u => a_urlHost u = x ∧ a_urlState u = 1) (fun w => e w.1)] at W
    exact W
theorem cy_stateCount {post : Int32 → Prop} {x : Int32} {uc : Nat} (huc : uc ≤ 32) (h : post (nI (cf_ct (fun u => a_urlState u = x) uc))) : wpY_stateCount post (f_maxUrls, f_defaultDelay, f_clock, f_bufferLength, nI uc, f_hostCount, f_ruleCount, f_cLen, f_cHost, f_cHostLen, f_cPq, f_decLen, f_segN, a_buffer, a_urlPool, a_urlStart, a_urlLength, a_urlState, a_urlHost, a_urlTime, a_names, a_nameLength, a_hostDelay, a_hostNext, a_hostSent, a_rulePool, a_ruleStart, a_ruleLength, a_ruleHost, a_ycanon, a_dec, a_segS, a_segL) x := by
  refine cf_fold0 (fun f i s => wY_stateCount_4 post x f_maxUrls f_defaultDelay f_clock f_bufferLength (nI uc) f_hostCount f_ruleCount f_cLen f_cHost f_cHostLen f_cPq f_decLen f_segN a_buffer a_urlPool a_urlStart a_urlLength a_urlState a_urlHost a_urlTime a_names a_nameLength a_hostDelay a_hostNext a_hostSent a_rulePool a_ruleStart a_ruleLength a_ruleHost a_ycanon a_dec a_segS a_segL f (nI s) (nI i)) (fun i => cf_ct (fun u => a_urlState u = x) i) uc (fun f => pk_le uc uc (fun _ => h) (fun z => by omega)) (fun f i hi W => ?_)
  refine pk_le uc i (fun z => by omega) (fun _ => ⟨pk_in i 32 (by omega), cf_bi i (by omega) (fun e => nm_r (nI_1 _) (nm_r (nI_1 i) ?_)) (fun e => nm_r (nI_1 i) ?_)⟩)
  · rw [cf_ctT (P := fun u => a_urlState u = x) e] at W
    exact W
  · rw [cf_ctF (P := fun u => a_urlState u = x) e] at W
    exact W
theorem cy_t39 {post : Int32 → SY → Prop} {J : Int32 → Int32 → Int32 → (Nat → Int32) → (Nat → Int32) → (Nat → Int32) → (Nat → Int32) → (Nat → Int32) → (Nat → Int32) → (Nat → Int32) → (Nat → Int32) → (Nat → Int32) → (Nat → Int32) → (Nat → Int32) → (Nat → Int32) → (Nat → Int32) → (Nat → Int32) → (Nat → Int32) → (Nat → Int32) → (Nat → Int32) → (Nat → Int32) → (Nat → Int32) → (Nat → Int32) → Prop} {x2 x3 x4 : Int32} {hc uc : Nat} (h8 : hc ≤ 8) (huc : uc ≤ 32) (hx : ∀ f, wY_tick_39 post J x2 x3 x4 f_maxUrls f_defaultDelay f_clock f_bufferLength (nI uc) (nI hc) f_ruleCount f_cLen f_cHost f_cHostLen f_cPq f_decLen f_segN a_buffer a_urlPool a_urlStart a_urlLength a_urlState a_urlHost a_urlTime a_names a_nameLength a_hostDelay a_hostNext a_hostSent a_rulePool a_ruleStart a_ruleLength a_ruleHost a_ycanon a_dec a_segS a_segL (f + 1) (cf_ch (cf_Rd f_clock a_hostNext a_urlHost a_urlState uc) a_hostNext hc) (nI hc)) : ∃ f, wY_tick_39 post J x2 x3 x4 f_maxUrls f_defaultDelay f_clock f_bufferLength (nI uc) (nI hc) f_ruleCount f_cLen f_cHost f_cHostLen f_cPq f_decLen f_segN a_buffer a_urlPool a_urlStart a_urlLength a_urlState a_urlHost a_urlTime a_names a_nameLength a_hostDelay a_hostNext a_hostSent a_rulePool a_ruleStart a_ruleLength a_ruleHost a_ycanon a_dec a_segS a_segL f (-1) 0 := by
  refine cf_fold0 (fun f i s => wY_tick_39 post J x2 x3 x4 f_maxUrls f_defaultDelay f_clock f_bufferLength (nI uc) (nI hc) f_ruleCount f_cLen f_cHost f_cHostLen f_cPq f_decLen f_segN a_buffer a_urlPool a_urlStart a_urlLength a_urlState a_urlHost a_urlTime a_names a_nameLength a_hostDelay a_hostNext a_hostSent a_rulePool a_ruleStart a_ruleLength a_ruleHost a_ycanon a_dec a_segS a_segL f s (nI i)) (fun i => cf_ch (cf_Rd f_clock a_hostNext a_urlHost a_urlState uc) a_hostNext i) hc hx (fun f i hi W => ?_)
  have pos := cf_ctP (P := fun u => a_urlHost u = nI i ∧ a_urlState u = 1) uc
  have cb := cf_ctB (fun u => a_urlHost u = nI i ∧ a_urlState u = 1) uc
  refine pk_le hc i (fun z => by omega) (fun _ => ⟨pk_in i 8 (by omega), cf_bl i (by omega) (fun e => nm_r (nI_1 i) ?_) (fun e => cy_queuedOf huc (pk_le (cf_ct (fun u => a_urlHost u = nI i ∧ a_urlState u = 1) uc) 0 (fun z => nm_r (nI_1 i) ?_) (fun z => ?_)))⟩)
  · rw [cf_chF (fun w => w.1.1 e)] at W
    exact W
  · rw [cf_chF (fun w => by have := pos.mpr w.1.2; omega)] at W
    exact W
  · have R : cf_Rd f_clock a_hostNext a_urlHost a_urlState uc i := ⟨e, pos.mp z⟩
    rcases cf_chI (cf_Rd f_clock a_hostNext a_urlHost a_urlState uc) a_hostNext i with y | ⟨j, hj, rj, ej⟩
    · rw [cf_chT ⟨R, Or.inl y⟩] at W
      exact br_t (by rw [y]; exact cf_m0) (nm_r (nI_1 i) W)
    · have ej' : (cf_ch (cf_Rd f_clock a_hostNext a_urlHost a_urlState uc) a_hostNext i).toNatClampNeg = j := by rw [ej]; exact pk_cl j
      refine br_f (by rw [ej]; exact nI_pos (by omega)) ⟨pk_in i 8 (by omega), pk_in j 8 (by omega) ej, cf_b2 j i (by omega) (by omega) (fun z => nm_r (nI_1 i) ?_) (fun z => nm_r (nI_1 i) ?_) ej⟩
      · rw [cf_chF (fun w => by
          rcases w.2 with q | q
          · rw [ej] at q
            exact cf_m1 (by omega) q
          · rw [ej'] at q
            exact absurd z (Int32.not_le.mpr q))] at W
        exact W
      · rw [cf_chT ⟨R, Or.inr (by rw [ej']; exact Int32.not_le.mp z)⟩] at W
        exact W
end
section
variable {f_maxUrls f_defaultDelay f_clock f_bufferLength f_canonLength f_canonHost f_canonHostLength f_canonPath f_schemePort f_partLength f_urlCount f_urlChars f_hostCount f_ruleCount f_ruleChars f_cLen f_cHost f_cHostLen f_cPq f_decLen f_segN : Int32} {a_buffer a_canon a_part a_urlPool a_urlStart a_urlLength a_urlPath a_urlHost a_urlState a_urlTime a_names a_nameLength a_hostDelay a_hostNext a_rulePool a_ruleStart a_ruleLength a_ruleHost a_hostSent a_ycanon a_dec a_segS a_segL : Nat → Int32}
theorem cb_tick {m hc uc : Nat} (hm : m ≤ 64) (h8 : hc ≤ 8) (huc : uc ≤ 32) : ∀ d i k ck us ut nx sent, i + d = m → cf_IH hc uc a_nameLength sent a_urlHost us → ∃ r ck' us' ut' nx' sent', cf_IH hc uc a_nameLength sent' a_urlHost us' ∧
    (∀ (post : Int32 → SX → Prop) f, d < f → post r (f_maxUrls, f_defaultDelay, ck', f_bufferLength, f_canonLength, f_canonHost, f_canonHostLength, f_canonPath, f_schemePort, f_partLength, nI uc, f_urlChars, nI hc, f_ruleCount, f_ruleChars, a_buffer, a_canon, a_part, a_urlPool, a_urlStart, a_urlLength, a_urlPath, a_urlHost, us', ut', a_names, a_nameLength, a_hostDelay, nx', a_rulePool, a_ruleStart, a_ruleLength, a_ruleHost) → wX_tick_13 post (nI m) f k (nI i) f_maxUrls f_defaultDelay ck f_bufferLength f_canonLength f_canonHost f_canonHostLength f_canonPath f_schemePort f_partLength (nI uc) f_urlChars (nI hc) f_ruleCount f_ruleChars a_buffer a_canon a_part a_urlPool a_urlStart a_urlLength a_urlPath a_urlHost us ut a_names a_nameLength a_hostDelay nx a_rulePool a_ruleStart a_ruleLength a_ruleHost) ∧
    (∀ (post : Int32 → SY → Prop) f, d < f → post r (f_maxUrls, f_defaultDelay, ck', f_bufferLength, nI uc, nI hc, f_ruleCount, f_cLen, f_cHost, f_cHostLen, f_cPq, f_decLen, f_segN, a_buffer, a_urlPool, a_urlStart, a_urlLength, us', a_urlHost, ut', a_names, a_nameLength, a_hostDelay, nx', sent', a_rulePool, a_ruleStart, a_ruleLength, a_ruleHost, a_ycanon, a_dec, a_segS, a_segL) → wY_tick_27 post (nI m) f_maxUrls f_defaultDelay f_bufferLength (nI uc) (nI hc) f_ruleCount f_cLen f_cHost f_cHostLen f_cPq f_decLen f_segN f k (nI i) ck a_buffer a_urlPool a_urlStart a_urlLength us a_urlHost ut a_names a_nameLength a_hostDelay nx sent a_rulePool a_ruleStart a_ruleLength a_ruleHost a_ycanon a_dec a_segS a_segL) := by
  intro d
  induction d with
  | zero =>
    intro i k ck us ut nx sent hi I
    refine ⟨k, ck, us, ut, nx, sent, I, fun post f hf h => ?_, fun post f hf h => ?_⟩
    · cases f with
      | zero => omega
      | succ f => exact pk_le m i (fun _ => h) (fun z => by omega)
    · cases f with
      | zero => omega
      | succ f => exact pk_le m i (fun _ => h) (fun z => by omega)
  | succ d ih =>
    intro i k ck us ut nx sent hi I
    rcases cf_chI (cf_Rd ck nx a_urlHost us uc) nx hc with eb | ⟨b, hb, rb, eb⟩
    · obtain ⟨r, ck', us', ut', nx', sent', I', hX, hY⟩ := ih (i + 1) k (ck + 1) us ut nx sent (by omega) I
      refine ⟨r, ck', us', ut', nx', sent', I', fun post f hf h => ?_, fun post f hf h => ?_⟩
      · cases f with
        | zero => omega
        | succ f =>
          refine pk_le m i (fun z => by omega) (fun _ => cx_chooseHost h8 huc ?_)
          rw [eb]
          exact br_t rfl (nm_e (nm_r (nI_1 i) (hX post f (by omega) h)))
      · cases f with
        | zero => omega
        | succ f =>
          refine pk_le m i (fun z => by omega) (fun _ => cy_t39 h8 huc (fun g => ?_))
          rw [eb]
          exact pk_le hc hc (fun _ => br_t cf_m0 (nm_e (nm_r (nI_1 i) (hY post f (by omega) h)))) (fun z => by omega)
    · obtain ⟨u0, hu0, pu0⟩ := rb.2
      obtain ⟨a, ha0, pa, la⟩ := cf_least (P := fun u => a_urlHost u = nI b ∧ us u = 1) u0 pu0
      have ha : a < uc := by omega
      obtain ⟨r, ck', us', ut', nx', sent', I', hX, hY⟩ := ih (i + 1) (k + 1) (ck + 1) (upd us a 2) (upd ut a ck) (upd nx b (ck + a_hostDelay b)) (upd sent b (sent b + 1)) (by omega) (cf_IHd I ha pa.2 pa.1 hb)
      refine ⟨r, ck', us', ut', nx', sent', I', fun post f hf h => ?_, fun post f hf h => ?_⟩
      · cases f with
        | zero => omega
        | succ f =>
          refine pk_le m i (fun z => by omega) (fun _ => cx_chooseHost h8 huc ?_)
          rw [eb]
          exact br_f (cf_m1 (by omega)) (cx_dispatch huc (by omega) ha pa la (nm_e (nm_e (nm_r (nI_1 i) (hX post f (by omega) h)))))
      · cases f with
        | zero => omega
        | succ f =>
          refine pk_le m i (fun z => by omega) (fun _ => cy_t39 h8 huc (fun g => ?_))
          rw [eb]
          refine pk_le hc hc (fun _ => br_f (nI_pos (by omega)) (cy_firstQueued huc (fun r2 hr2 => ?_))) (fun z => by omega)
          have e : r2 = nI a := cf_FFu (fun _ _ => Iff.rfl) hr2 (Or.inl ⟨a, ha, pa, la, rfl⟩)
          subst e
          have va : vp_in (nI a) 32 := pk_in a 32 (by omega)
          have vb : vp_in (nI b) 8 := pk_in b 8 (by omega)
          have ca : (nI a).toNatClampNeg = a := pk_cl a
          have cb : (nI b).toNatClampNeg = b := pk_cl b
          exact br_f (nI_pos (by omega)) ⟨va, nm_r (e' := upd us a 2) (by rw [ca]) ⟨va, nm_r (e' := upd ut a ck) (by rw [ca]) ⟨vb, vb, nm_r (e' := upd sent b (sent b + 1)) (by rw [cb]) ⟨vb, vb, nm_r (e' := upd nx b (ck + a_hostDelay b)) (by rw [cb]) (nm_e (nm_e (nm_r (nI_1 i) (hY post f (by omega) h))))⟩⟩⟩⟩
end
end
section
/-! the relation; the constructors; put (made by mk40.py) -/
/-- both sides keep the same lists and the same texts; what a canonicalisation leaves behind is free -/
def i_Rel (_ : Nat) (u : SX) (v : SY) : Prop := ∃ (L mu uc uch hc rc rch : Nat) (f_defaultDelay f_clock f_canonLength f_canonHost f_canonHostLength f_canonPath f_schemePort f_partLength f_cLen f_cHost f_cHostLen f_cPq f_decLen f_segN : Int32) (a_buffer a_canon a_part a_urlPool a_urlStart a_urlLength a_urlPath a_urlHost a_urlState a_urlTime a_names a_nameLength a_hostDelay a_hostNext a_rulePool a_ruleStart a_ruleLength a_ruleHost a_hostSent a_ycanon a_dec a_segS a_segL : Nat → Int32), u = (nI mu, f_defaultDelay, f_clock, nI L, f_canonLength, f_canonHost, f_canonHostLength, f_canonPath, f_schemePort, f_partLength, nI uc, nI uch, nI hc, nI rc, nI rch, a_buffer, a_canon, a_part, a_urlPool, a_urlStart, a_urlLength, a_urlPath, a_urlHost, a_urlState, a_urlTime, a_names, a_nameLength, a_hostDelay, a_hostNext, a_rulePool, a_ruleStart, a_ruleLength, a_ruleHost) ∧ v = (nI mu, f_defaultDelay, f_clock, nI L, nI uc, nI hc, nI rc, f_cLen, f_cHost, f_cHostLen, f_cPq, f_decLen, f_segN, a_buffer, a_urlPool, a_urlStart, a_urlLength, a_urlState, a_urlHost, a_urlTime, a_names, a_nameLength, a_hostDelay, a_hostNext, a_hostSent, a_rulePool, a_ruleStart, a_ruleLength, a_ruleHost, a_ycanon, a_dec, a_segS, a_segL) ∧ L ≤ 48 ∧ cf_BT a_buffer ∧ cf_IU mu uc uch hc a_urlPool a_urlStart a_urlLength a_urlPath a_urlHost ∧ cf_IH hc uc a_nameLength a_hostSent a_urlHost a_urlState ∧ cf_IR rc rch a_ruleStart a_ruleLength
def cf_PR (x : Int32) : Prop := ¬ x < 33 ∧ ¬ 126 < x
theorem cf_PRn {x : Int32} (h : cf_PR x) : ∃ m, m ≤ 126 ∧ x = nI m :=
  nI_of2 (M := 126) (n := 126) rfl (fun z => h.1 (Int32.lt_trans z (by decide))) (Int32.not_lt.mp h.2)
section
variable {f_maxUrls f_defaultDelay f_clock f_bufferLength f_canonLength f_canonHost f_canonHostLength f_canonPath f_schemePort f_partLength f_urlCount f_urlChars f_hostCount f_ruleCount f_ruleChars f_cLen f_cHost f_cHostLen f_cPq f_decLen f_segN : Int32} {a_buffer a_canon a_part a_urlPool a_urlStart a_urlLength a_urlPath a_urlHost a_urlState a_urlTime a_names a_nameLength a_hostDelay a_hostNext a_rulePool a_ruleStart a_ruleLength a_ruleHost a_hostSent a_ycanon a_dec a_segS a_segL : Nat → Int32}
variable {L mu uc uch hc rc rch : Nat}
theorem cb_rel {k : Nat} (hL : L ≤ 48) (hB : cf_BT a_buffer) (hU : cf_IU mu uc uch hc a_urlPool a_urlStart a_urlLength a_urlPath a_urlHost) (hH : cf_IH hc uc a_nameLength a_hostSent a_urlHost a_urlState) (hR : cf_IR rc rch a_ruleStart a_ruleLength) : i_Rel k (nI mu, f_defaultDelay, f_clock, nI L, f_canonLength, f_canonHost, f_canonHostLength, f_canonPath, f_schemePort, f_partLength, nI uc, nI uch, nI hc, nI rc, nI rch, a_buffer, a_canon, a_part, a_urlPool, a_urlStart, a_urlLength, a_urlPath, a_urlHost, a_urlState, a_urlTime, a_names, a_nameLength, a_hostDelay, a_hostNext, a_rulePool, a_ruleStart, a_ruleLength, a_ruleHost) (nI mu, f_defaultDelay, f_clock, nI L, nI uc, nI hc, nI rc, f_cLen, f_cHost, f_cHostLen, f_cPq, f_decLen, f_segN, a_buffer, a_urlPool, a_urlStart, a_urlLength, a_urlState, a_urlHost, a_urlTime, a_names, a_nameLength, a_hostDelay, a_hostNext, a_hostSent, a_rulePool, a_ruleStart, a_ruleLength, a_ruleHost, a_ycanon, a_dec, a_segS, a_segL) :=
  ⟨L, mu, uc, uch, hc, rc, rch, _, _, _, _, _, _, _, _, _, _, _, _, _, _, _, _, _, _, _, _, _, _, _, _, _, _, _, _, _, _, _, _, _, _, _, _, _, rfl, rfl, hL, hB, hU, hH, hR⟩
theorem cx_isPr {post : Int32 → Prop} {x : Int32} (h1 : cf_PR x → post 1) (h0 : ¬ cf_PR x → post 0) : wpX_isPrintable post x :=
  br_c (fun z => h0 (fun w => w.1 z)) (fun z => br_c (fun z2 => h0 (fun w => w.2 z2)) (fun z2 => h1 ⟨z, z2⟩))
theorem cy_isPr {post : Int32 → Prop} {x : Int32} (h1 : cf_PR x → post 1) (h0 : ¬ cf_PR x → post 0) : wpY_printable post (f_maxUrls, f_defaultDelay, f_clock, f_bufferLength, f_urlCount, f_hostCount, f_ruleCount, f_cLen, f_cHost, f_cHostLen, f_cPq, f_decLen, f_segN, a_buffer, a_urlPool, a_urlStart, a_urlLength, a_urlState, a_urlHost, a_urlTime, a_names, a_nameLength, a_hostDelay, a_hostNext, a_hostSent, a_rulePool, a_ruleStart, a_ruleLength, a_ruleHost, a_ycanon, a_dec, a_segS, a_segL) x :=
  br_c (fun z => h0 (fun w => w.1 z)) (fun z => br_c (fun z2 => h0 (fun w => w.2 z2)) (fun z2 => h1 ⟨z, z2⟩))
end
theorem cf_IU0 (m : Nat) (h : m ≤ 32) : cf_IU m 0 0 0 (fun _ => 0) (fun _ => 0) (fun _ => 0) (fun _ => 0) (fun _ => 0) := ⟨h, Nat.zero_le _, Nat.zero_le _, rfl, fun u hu => absurd hu (Nat.not_lt_zero u)⟩
theorem cf_IH0 : cf_IH 0 0 (fun _ => 0) (fun _ => 0) (fun _ => 0) (fun _ => 0) := ⟨Nat.zero_le _, fun h hh => absurd hh (Nat.not_lt_zero h)⟩
theorem cf_IR0 : cf_IR 0 0 (fun _ => 0) (fun _ => 0) := ⟨Nat.zero_le _, Nat.zero_le _, rfl, fun r hr => absurd hr (Nat.not_lt_zero r)⟩
theorem cb_rel0 (m : Nat) (x : Int32) (h : m ≤ 32) : i_Rel 2 (nI m, x, 0, 0, 0, 0, 0, 0, 0, 0, 0, 0, 0, 0, 0, (fun _ => 0), (fun _ => 0), (fun _ => 0), (fun _ => 0), (fun _ => 0), (fun _ => 0), (fun _ => 0), (fun _ => 0), (fun _ => 0), (fun _ => 0), (fun _ => 0), (fun _ => 0), (fun _ => 0), (fun _ => 0), (fun _ => 0), (fun _ => 0), (fun _ => 0), (fun _ => 0)) (nI m, x, 0, 0, 0, 0, 0, 0, 0, 0, 0, 0, 0, (fun _ => 0), (fun _ => 0), (fun _ => 0), (fun _ => 0), (fun _ => 0), (fun _ => 0), (fun _ => 0), (fun _ => 0), (fun _ => 0), (fun _ => 0), (fun _ => 0), (fun _ => 0), (fun _ => 0), (fun _ => 0), (fun _ => 0), (fun _ => 0), (fun _ => 0), (fun _ => 0), (fun _ => 0), (fun _ => 0)) := cb_rel (L := 0) (mu := m) (uc := 0) (uch := 0) (hc := 0) (rc := 0) (rch := 0) (by omega) cf_BT0 (cf_IU0 m h) cf_IH0 cf_IR0
theorem i_vc0 (k0 : Int32) (k1 : Int32) : wpX_init (fun u => wpY_init (fun v => i_Rel 2 u v) k0 k1) k0 k1 := by
  by_cases h8 : 8 ≤ k0
  · by_cases h32 : k0 ≤ 32
    · obtain ⟨m, hm, rfl⟩ := nI_of2 (M := 32) (n := 32) rfl (fun z => absurd (Int32.lt_of_lt_of_le z (Int32.le_trans (by decide) h8)) (Int32.lt_irrefl)) h32
      refine br_t h8 (br_t h32 ?_)
      by_cases h1 : 1 ≤ k1
      · by_cases h16 : k1 ≤ 16
        · exact br_t h1 (br_t h16 (br_t h8 (br_t h32 (br_t h1 (br_t h16 (cb_rel0 m k1 hm))))))
        · exact br_t h1 (br_f h16 (br_t h8 (br_t h32 (br_t h1 (br_f h16 (cb_rel0 m 16 hm))))))
      · exact br_f h1 (br_t h8 (br_t h32 (br_f h1 (cb_rel0 m 1 hm))))
    · refine br_t h8 (br_f h32 ?_)
      by_cases h1 : 1 ≤ k1
      · by_cases h16 : k1 ≤ 16
        · exact br_t h1 (br_t h16 (br_t h8 (br_f h32 (br_t h1 (br_t h16 (cb_rel0 32 k1 (by omega)))))))
        · exact br_t h1 (br_f h16 (br_t h8 (br_f h32 (br_t h1 (br_f h16 (cb_rel0 32 16 (by omega)))))))
      · exact br_f h1 (br_t h8 (br_f h32 (br_f h1 (cb_rel0 32 1 (by omega)))))
  · refine br_f h8 ?_
    by_cases h1 : 1 ≤ k1
    · by_cases h16 : k1 ≤ 16
      · exact br_t h1 (br_t h16 (br_f h8 (br_t h1 (br_t h16 (cb_rel0 8 k1 (by omega))))))
      · exact br_t h1 (br_f h16 (br_f h8 (br_t h1 (br_f h16 (cb_rel0 8 16 (by omega))))))
    · exact br_f h1 (br_f h8 (br_f h1 (cb_rel0 8 1 (by omega))))
theorem i_vc_put {k : Nat} {u : SX} {v : SY} (I : i_Rel k u v) (hk : k + 5 ≤ 2562) (v1 : Int32) (v2 : Int32) (v3 : Int32) (v4 : Int32) : wpX_put (fun r u' => wpY_put (fun r' v' => r' = r ∧ i_Rel (k + 5) u' v') v v1 v2 v3 v4) u v1 v2 v3 v4 := by
  obtain ⟨L, mu, uc, uch, hc, rc, rch, f_defaultDelay, f_clock, f_canonLength, f_canonHost, f_canonHostLength, f_canonPath, f_schemePort, f_partLength, f_cLen, f_cHost, f_cHostLen, f_cPq, f_decLen, f_segN, a_buffer, a_canon, a_part, a_urlPool, a_urlStart, a_urlLength, a_urlPath, a_urlHost, a_urlState, a_urlTime, a_names, a_nameLength, a_hostDelay, a_hostNext, a_rulePool, a_ruleStart, a_ruleLength, a_ruleHost, a_hostSent, a_ycanon, a_dec, a_segS, a_segL, rfl, rfl, hL, hB, hU, hH, hR⟩ := I
  unfold wpX_put wpY_put wpX_leadingPrintable
  dsimp only
  by_cases p1 : cf_PR v1
  · obtain ⟨m1, h1, rfl⟩ := cf_PRn p1
    by_cases p2 : cf_PR v2
    · obtain ⟨m2, h2, rfl⟩ := cf_PRn p2
      by_cases p3 : cf_PR v3
      · obtain ⟨m3, h3, rfl⟩ := cf_PRn p3
        by_cases p4 : cf_PR v4
        · obtain ⟨m4, h4, rfl⟩ := cf_PRn p4
          exact cx_isPr (fun _ => br_f (by decide) (cx_isPr (fun _ => br_f (by decide) (cx_isPr (fun _ => br_f (by decide) (cx_isPr (fun _ => br_f (by decide) (pk_le (L + 4) 48 (fun z => (br_f (by decide) ⟨pk_in L 48 (by omega) rfl, nm_r (e' := (upd a_buffer L (nI m1))) (congrArg (fun q => upd a_buffer q (nI m1)) (pk_cl L rfl)) (br_f (by decide) ⟨pk_in (L + 1) 48 (by omega) (nI_add L 1), nm_r (e' := (upd (upd a_buffer L (nI m1)) (L + 1) (nI m2))) (congrArg (fun q => upd (upd a_buffer L (nI m1)) q (nI m2)) (pk_cl (L + 1) (nI_add L 1))) (br_f (by decide) ⟨pk_in (L + 2) 48 (by omega) (nI_add L 2), nm_r (e' := (upd (upd (upd a_buffer L (nI m1)) (L + 1) (nI m2)) (L + 2) (nI m3))) (congrArg (fun q => upd (upd (upd a_buffer L (nI m1)) (L + 1) (nI m2)) q (nI m3)) (pk_cl (L + 2) (nI_add L 2))) (br_f (by decide) ⟨pk_in (L + 3) 48 (by omega) (nI_add L 3), nm_r (e' := (upd (upd (upd (upd a_buffer L (nI m1)) (L + 1) (nI m2)) (L + 2) (nI m3)) (L + 3) (nI m4))) (congrArg (fun q => upd (upd (upd (upd a_buffer L (nI m1)) (L + 1) (nI m2)) (L + 2) (nI m3)) q (nI m4)) (pk_cl (L + 3) (nI_add L 3))) (nm_r (nI_add L 4) (cy_isPr (fun _ => br_f (by decide) (cy_isPr (fun _ => br_f (by decide) (cy_isPr (fun _ => br_f (by decide) (cy_isPr (fun _ => br_f (by decide) (pk_le (L + 4) 48 (fun y => (br_f (by decide) ⟨pk_in L 48 (by omega) rfl, nm_r (e' := (upd a_buffer L (nI m1))) (congrArg (fun q => upd a_buffer q (nI m1)) (pk_cl L rfl)) (br_f (by decide) ⟨pk_in (L + 1) 48 (by omega) (nI_add L 1), nm_r (e' := (upd (upd a_buffer L (nI m1)) (L + 1) (nI m2))) (congrArg (fun q => upd (upd a_buffer L (nI m1)) q (nI m2)) (pk_cl (L + 1) (nI_add L 1))) (br_f (by decide) ⟨pk_in (L + 2) 48 (by omega) (nI_add L 2), nm_r (e' := (upd (upd (upd a_buffer L (nI m1)) (L + 1) (nI m2)) (L + 2) (nI m3))) (congrArg (fun q => upd (upd (upd a_buffer L (nI m1)) (L + 1) (nI m2)) q (nI m3)) (pk_cl (L + 2) (nI_add L 2))) (br_f (by decide) ⟨pk_in (L + 3) 48 (by omega) (nI_add L 3), nm_r (e' := (upd (upd (upd (upd a_buffer L (nI m1)) (L + 1) (nI m2)) (L + 2) (nI m3)) (L + 3) (nI m4))) (congrArg (fun q => upd (upd (upd (upd a_buffer L (nI m1)) (L + 1) (nI m2)) (L + 2) (nI m3)) q (nI m4)) (pk_cl (L + 3) (nI_add L 3))) (nm_r (nI_add L 4) ⟨rfl, cb_rel (L := L + 4) (by omega) (cf_BTu (cf_BTu (cf_BTu (cf_BTu (hB) h1 L) h2 (L + 1)) h3 (L + 2)) h4 (L + 3)) hU hH hR⟩)⟩)⟩)⟩)⟩)) (fun y => by omega) (nI_add L 4))) (fun w => absurd p4 w))) (fun w => absurd p3 w))) (fun w => absurd p2 w))) (fun w => absurd p1 w)))⟩)⟩)⟩)⟩)) (fun z => cy_isPr (fun _ => br_f (by decide) (cy_isPr (fun _ => br_f (by decide) (cy_isPr (fun _ => br_f (by decide) (cy_isPr (fun _ => br_f (by decide) (pk_le (L + 4) 48 (fun y => (br_f (by decide) ⟨pk_in L 48 (by omega) rfl, nm_r (e' := (upd a_buffer L (nI m1))) (congrArg (fun q => upd a_buffer q (nI m1)) (pk_cl L rfl)) (br_f (by decide) ⟨pk_in (L + 1) 48 (by omega) (nI_add L 1), nm_r (e' := (upd (upd a_buffer L (nI m1)) (L + 1) (nI m2))) (congrArg (fun q => upd (upd a_buffer L (nI m1)) q (nI m2)) (pk_cl (L + 1) (nI_add L 1))) (br_f (by decide) ⟨pk_in (L + 2) 48 (by omega) (nI_add L 2), nm_r (e' := (upd (upd (upd a_buffer L (nI m1)) (L + 1) (nI m2)) (L + 2) (nI m3))) (congrArg (fun q => upd (upd (upd a_buffer L (nI m1)) (L + 1) (nI m2)) q (nI m3)) (pk_cl (L + 2) (nI_add L 2))) (br_f (by decide) ⟨pk_in (L + 3) 48 (by omega) (nI_add L 3), nm_r (e' := (upd (upd (upd (upd a_buffer L (nI m1)) (L + 1) (nI m2)) (L + 2) (nI m3)) (L + 3) (nI m4))) (congrArg (fun q => upd (upd (upd (upd a_buffer L (nI m1)) (L + 1) (nI m2)) (L + 2) (nI m3)) q (nI m4)) (pk_cl (L + 3) (nI_add L 3))) (nm_r (nI_add L 4) (by omega))⟩)⟩)⟩)⟩)) (fun y => ⟨rfl, cb_rel hL hB hU hH hR⟩) (nI_add L 4))) (fun w => absurd p4 w))) (fun w => absurd p3 w))) (fun w => absurd p2 w))) (fun w => absurd p1 w)) (nI_add L 4))) (fun w => absurd p4 w))) (fun w => absurd p3 w))) (fun w => absurd p2 w))) (fun w => absurd p1 w)
        · exact cx_isPr (fun _ => br_f (by decide) (cx_isPr (fun _ => br_f (by decide) (cx_isPr (fun _ => br_f (by decide) (cx_isPr (fun w => absurd w p4) (fun _ => br_t rfl (pk_le (L + 3) 48 (fun z => (br_f (by decide) ⟨pk_in L 48 (by omega) rfl, nm_r (e' := (upd a_buffer L (nI m1))) (congrArg (fun q => upd a_buffer q (nI m1)) (pk_cl L rfl)) (br_f (by decide) ⟨pk_in (L + 1) 48 (by omega) (nI_add L 1), nm_r (e' := (upd (upd a_buffer L (nI m1)) (L + 1) (nI m2))) (congrArg (fun q => upd (upd a_buffer L (nI m1)) q (nI m2)) (pk_cl (L + 1) (nI_add L 1))) (br_f (by decide) ⟨pk_in (L + 2) 48 (by omega) (nI_add L 2), nm_r (e' := (upd (upd (upd a_buffer L (nI m1)) (L + 1) (nI m2)) (L + 2) (nI m3))) (congrArg (fun q => upd (upd (upd a_buffer L (nI m1)) (L + 1) (nI m2)) q (nI m3)) (pk_cl (L + 2) (nI_add L 2))) (br_t (by decide) (nm_r (nI_add L 3) (cy_isPr (fun _ => br_f (by decide) (cy_isPr (fun _ => br_f (by decide) (cy_isPr (fun _ => br_f (by decide) (cy_isPr (fun w => absurd w p4) (fun _ => br_t rfl (pk_le (L + 3) 48 (fun y => (br_f (by decide) ⟨pk_in L 48 (by omega) rfl, nm_r (e' := (upd a_buffer L (nI m1))) (congrArg (fun q => upd a_buffer q (nI m1)) (pk_cl L rfl)) (br_f (by decide) ⟨pk_in (L + 1) 48 (by omega) (nI_add L 1), nm_r (e' := (upd (upd a_buffer L (nI m1)) (L + 1) (nI m2))) (congrArg (fun q => upd (upd a_buffer L (nI m1)) q (nI m2)) (pk_cl (L + 1) (nI_add L 1))) (br_f (by decide) ⟨pk_in (L + 2) 48 (by omega) (nI_add L 2), nm_r (e' := (upd (upd (upd a_buffer L (nI m1)) (L + 1) (nI m2)) (L + 2) (nI m3))) (congrArg (fun q => upd (upd (upd a_buffer L (nI m1)) (L + 1) (nI m2)) q (nI m3)) (pk_cl (L + 2) (nI_add L 2))) (br_t (by decide) (nm_r (nI_add L 3) ⟨rfl, cb_rel (L := L + 3) (by omega) (cf_BTu (cf_BTu (cf_BTu (hB) h1 L) h2 (L + 1)) h3 (L + 2)) hU hH hR⟩))⟩)⟩)⟩)) (fun y => by omega) (nI_add L 3))))) (fun w => absurd p3 w))) (fun w => absurd p2 w))) (fun w => absurd p1 w))))⟩)⟩)⟩)) (fun z => cy_isPr (fun _ => br_f (by decide) (cy_isPr (fun _ => br_f (by decide) (cy_isPr (fun _ => br_f (by decide) (cy_isPr (fun w => absurd w p4) (fun _ => br_t rfl (pk_le (L + 3) 48 (fun y => (br_f (by decide) ⟨pk_in L 48 (by omega) rfl, nm_r (e' := (upd a_buffer L (nI m1))) (congrArg (fun q => upd a_buffer q (nI m1)) (pk_cl L rfl)) (br_f (by decide) ⟨pk_in (L + 1) 48 (by omega) (nI_add L 1), nm_r (e' := (upd (upd a_buffer L (nI m1)) (L + 1) (nI m2))) (congrArg (fun q => upd (upd a_buffer L (nI m1)) q (nI m2)) (pk_cl (L + 1) (nI_add L 1))) (br_f (by decide) ⟨pk_in (L + 2) 48 (by omega) (nI_add L 2), nm_r (e' := (upd (upd (upd a_buffer L (nI m1)) (L + 1) (nI m2)) (L + 2) (nI m3))) (congrArg (fun q => upd (upd (upd a_buffer L (nI m1)) (L + 1) (nI m2)) q (nI m3)) (pk_cl (L + 2) (nI_add L 2))) (br_t (by decide) (nm_r (nI_add L 3) (by omega)))⟩)⟩)⟩)) (fun y => ⟨rfl, cb_rel hL hB hU hH hR⟩) (nI_add L 3))))) (fun w => absurd p3 w))) (fun w => absurd p2 w))) (fun w => absurd p1 w)) (nI_add L 3))))) (fun w => absurd p3 w))) (fun w => absurd p2 w))) (fun w => absurd p1 w)
      · exact cx_isPr (fun _ => br_f (by decide) (cx_isPr (fun _ => br_f (by decide) (cx_isPr (fun w => absurd w p3) (fun _ => br_t rfl (pk_le (L + 2) 48 (fun z => (br_f (by decide) ⟨pk_in L 48 (by omega) rfl, nm_r (e' := (upd a_buffer L (nI m1))) (congrArg (fun q => upd a_buffer q (nI m1)) (pk_cl L rfl)) (br_f (by decide) ⟨pk_in (L + 1) 48 (by omega) (nI_add L 1), nm_r (e' := (upd (upd a_buffer L (nI m1)) (L + 1) (nI m2))) (congrArg (fun q => upd (upd a_buffer L (nI m1)) q (nI m2)) (pk_cl (L + 1) (nI_add L 1))) (br_t (by decide) (br_t (by decide) (nm_r (nI_add L 2) (cy_isPr (fun _ => br_f (by decide) (cy_isPr (fun _ => br_f (by decide) (cy_isPr (fun w => absurd w p3) (fun _ => br_t rfl (pk_le (L + 2) 48 (fun y => (br_f (by decide) ⟨pk_in L 48 (by omega) rfl, nm_r (e' := (upd a_buffer L (nI m1))) (congrArg (fun q => upd a_buffer q (nI m1)) (pk_cl L rfl)) (br_f (by decide) ⟨pk_in (L + 1) 48 (by omega) (nI_add L 1), nm_r (e' := (upd (upd a_buffer L (nI m1)) (L + 1) (nI m2))) (congrArg (fun q => upd (upd a_buffer L (nI m1)) q (nI m2)) (pk_cl (L + 1) (nI_add L 1))) (br_t (by decide) (br_t (by decide) (nm_r (nI_add L 2) ⟨rfl, cb_rel (L := L + 2) (by omega) (cf_BTu (cf_BTu (hB) h1 L) h2 (L + 1)) hU hH hR⟩)))⟩)⟩)) (fun y => by omega) (nI_add L 2))))) (fun w => absurd p2 w))) (fun w => absurd p1 w)))))⟩)⟩)) (fun z => cy_isPr (fun _ => br_f (by decide) (cy_isPr (fun _ => br_f (by decide) (cy_isPr (fun w => absurd w p3) (fun _ => br_t rfl (pk_le (L + 2) 48 (fun y => (br_f (by decide) ⟨pk_in L 48 (by omega) rfl, nm_r (e' := (upd a_buffer L (nI m1))) (congrArg (fun q => upd a_buffer q (nI m1)) (pk_cl L rfl)) (br_f (by decide) ⟨pk_in (L + 1) 48 (by omega) (nI_add L 1), nm_r (e' := (upd (upd a_buffer L (nI m1)) (L + 1) (nI m2))) (congrArg (fun q => upd (upd a_buffer L (nI m1)) q (nI m2)) (pk_cl (L + 1) (nI_add L 1))) (br_t (by decide) (br_t (by decide) (nm_r (nI_add L 2) (by omega))))⟩)⟩)) (fun y => ⟨rfl, cb_rel hL hB hU hH hR⟩) (nI_add L 2))))) (fun w => absurd p2 w))) (fun w => absurd p1 w)) (nI_add L 2))))) (fun w => absurd p2 w))) (fun w => absurd p1 w)
    · exact cx_isPr (fun _ => br_f (by decide) (cx_isPr (fun w => absurd w p2) (fun _ => br_t rfl (pk_le (L + 1) 48 (fun z => (br_f (by decide) ⟨pk_in L 48 (by omega) rfl, nm_r (e' := (upd a_buffer L (nI m1))) (congrArg (fun q => upd a_buffer q (nI m1)) (pk_cl L rfl)) (br_t (by decide) (br_t (by decide) (br_t (by decide) (nm_r (nI_add L 1) (cy_isPr (fun _ => br_f (by decide) (cy_isPr (fun w => absurd w p2) (fun _ => br_t rfl (pk_le (L + 1) 48 (fun y => (br_f (by decide) ⟨pk_in L 48 (by omega) rfl, nm_r (e' := (upd a_buffer L (nI m1))) (congrArg (fun q => upd a_buffer q (nI m1)) (pk_cl L rfl)) (br_t (by decide) (br_t (by decide) (br_t (by decide) (nm_r (nI_add L 1) ⟨rfl, cb_rel (L := L + 1) (by omega) (cf_BTu (hB) h1 L) hU hH hR⟩))))⟩)) (fun y => by omega) (nI_add L 1))))) (fun w => absurd p1 w))))))⟩)) (fun z => cy_isPr (fun _ => br_f (by decide) (cy_isPr (fun w => absurd w p2) (fun _ => br_t rfl (pk_le (L + 1) 48 (fun y => (br_f (by decide) ⟨pk_in L 48 (by omega) rfl, nm_r (e' := (upd a_buffer L (nI m1))) (congrArg (fun q => upd a_buffer q (nI m1)) (pk_cl L rfl)) (br_t (by decide) (br_t (by decide) (br_t (by decide) (nm_r (nI_add L 1) (by omega)))))⟩)) (fun y => ⟨rfl, cb_rel hL hB hU hH hR⟩) (nI_add L 1))))) (fun w => absurd p1 w)) (nI_add L 1))))) (fun w => absurd p1 w)
  · exact cx_isPr (fun w => absurd w p1) (fun _ => br_t rfl (pk_le (L + 0) 48 (fun z => (br_t (by decide) (br_t (by decide) (br_t (by decide) (br_t (by decide) (nm_r (nI_add L 0) (cy_isPr (fun w => absurd w p1) (fun _ => br_t rfl (pk_le (L + 0) 48 (fun y => (br_t (by decide) (br_t (by decide) (br_t (by decide) (br_t (by decide) (nm_r (nI_add L 0) ⟨rfl, cb_rel (L := L + 0) (by omega) (hB) hU hH hR⟩)))))) (fun y => by omega) (nI_add L 0)))))))))) (fun z => cy_isPr (fun w => absurd w p1) (fun _ => br_t rfl (pk_le (L + 0) 48 (fun y => (br_t (by decide) (br_t (by decide) (br_t (by decide) (br_t (by decide) (nm_r (nI_add L 0) (by omega))))))) (fun y => ⟨rfl, cb_rel hL hB hU hH hR⟩) (nI_add L 0)))) (nI_add L 0)))
end
section
/-! submit, disallow, setDelay on both sides (made by mk41.py) -/
theorem cf_ag {a a' : Nat → Int32} {n : Nat} {l : List Nat} (h : cf_K a n l) (h' : cf_K a' n l) : ∀ j, j < n → a j = a' j := fun j hj => (cf_Kg h hj).trans (cf_Kg h' hj).symm
theorem cf_DupC {pool st ln a a' : Nat → Int32} {n uc : Nat} (ag : ∀ j, j < n → a j = a' j) : (∃ u, u < uc ∧ cf_Dup pool st ln a n u) ↔ (∃ u, u < uc ∧ cf_Dup pool st ln a' n u) := by
  have q : ∀ u, cf_Dup pool st ln a n u ↔ cf_Dup pool st ln a' n u := fun u => and_congr_right (fun _ => cf_EQc (fun j hj => by rw [Nat.zero_add]; exact ag j hj))
  exact ⟨fun ⟨u, hu, w⟩ => ⟨u, hu, (q u).mp w⟩, fun ⟨u, hu, w⟩ => ⟨u, hu, (q u).mpr w⟩⟩
theorem cf_FFC {nm nl a a' : Nat → Int32} {n H HL hc : Nat} (hn : H + HL ≤ n) (ag : ∀ j, j < n → a j = a' j) (x : Int32) : cf_FF (cf_Ph nm nl a H HL) hc x ↔ cf_FF (cf_Ph nm nl a' H HL) hc x := by
  have e : cf_Ph nm nl a H HL = cf_Ph nm nl a' H HL := by
    funext h
    exact propext (and_congr_right (fun _ => cf_EQc (fun j hj => ag (H + j) (by omega))))
  rw [e]
theorem cf_PrC {rp rs rl rh a a' : Nat → Int32} {n P rc : Nat} (hP : P ≤ n) (ag : ∀ j, j < n → a j = a' j) (x : Int32) : (∃ r, r < rc ∧ cf_Pr rp rs rl rh a P n x r) ↔ (∃ r, r < rc ∧ cf_Pr rp rs rl rh a' P n x r) := by
  have q : ∀ r, cf_Pr rp rs rl rh a P n x r ↔ cf_Pr rp rs rl rh a' P n x r := fun r => and_congr_right (fun _ => and_congr_right (fun w => cf_EQc (fun j hj => ag (P + j) (by omega))))
  exact ⟨fun ⟨u, hu, w⟩ => ⟨u, hu, (q u).mp w⟩, fun ⟨u, hu, w⟩ => ⟨u, hu, (q u).mpr w⟩⟩
theorem cf_PeC {rp rs rl rh a a' : Nat → Int32} {n P rc : Nat} (hP : P ≤ n) (ag : ∀ j, j < n → a j = a' j) (x : Int32) : (∃ r, r < rc ∧ cf_Pe rp rs rl rh a P n x r) ↔ (∃ r, r < rc ∧ cf_Pe rp rs rl rh a' P n x r) := by
  have q : ∀ r, cf_Pe rp rs rl rh a P n x r ↔ cf_Pe rp rs rl rh a' P n x r := fun r => and_congr_right (fun _ => and_congr_right (fun w => cf_EQc (fun j hj => ag (P + j) (by omega))))
  exact ⟨fun ⟨u, hu, w⟩ => ⟨u, hu, (q u).mp w⟩, fun ⟨u, hu, w⟩ => ⟨u, hu, (q u).mpr w⟩⟩
theorem cf_outC {t : Nat → Nat} {L c he p pE qE : Nat} {po D1 D2 : List Nat} (ht : ∀ j, t j ≤ 126) (ps : cf_PS t L c he p pE qE po D1 D2) (j : Nat) : (cf_out t he po D1 D2).getD j 0 < 2 ^ 31 := by
  have m : ∀ x, x ∈ cf_out t he po D1 D2 → x ≤ 126 := by
    intro x hx
    unfold cf_out at hx
    have d1 := (cf_dcF ht _ _ _ (Nat.le_refl _) ps.2.2.2.2.2.1).2
    have d2 := (cf_dcF ht _ _ _ (Nat.le_refl _) ps.2.2.2.2.2.2.2).2
    rcases List.mem_append.mp hx with hx | hx
    · rcases List.mem_append.mp hx with hx | hx
      · rcases List.mem_append.mp hx with hx | hx
        · obtain ⟨j, hj, e⟩ := cf_sbM hx
          rw [e]
          exact cf_loB (ht _)
        · have q := (cf_POl ps.2.1.2.1 ps.2.2.2.1).2.2 x hx
          omega
      · unfold cf_pa at hx
        have fl : ∀ g, x ∈ cf_fl (cf_dD D1) g → x ≤ 126 := by
          intro g hg
          unfold cf_fl at hg
          obtain ⟨p, hp, hq⟩ := List.mem_flatMap.mp hg
          rcases List.mem_cons.mp hq with e | e
          · omega
          · obtain ⟨j, hj, e⟩ := cf_sbM e
            rw [e]
            exact cf_dDB d1 _
        cases hg : cf_gs D1 with
        | nil =>
          rw [hg] at hx
          have e := List.mem_singleton.mp hx
          omega
        | cons p r =>
          rw [hg] at hx
          exact fl _ hx
    · exact d2 x hx
  rcases Nat.lt_or_ge j (cf_out t he po D1 D2).length with z | z
  · have := m _ (cf_gdm z)
    omega
  · rw [List.getD_eq_getElem?_getD, List.getElem?_eq_none z]
    decide
theorem cb_same {t : Nat → Nat} {L c he p pE qE c' he' p' pE' qE' n H HL P n' H' HL' P' : Nat} {po D1 D2 po' D1' D2' : List Nat} {a a' : Nat → Int32} (ht : ∀ j, t j ≤ 126) (hL : L ≤ 48) (ps : cf_PS t L c he p pE qE po D1 D2) (e1 : n = (cf_out t he po D1 D2).length) (e2 : H = c + 3) (e3 : HL = he - (c + 3)) (e4 : P = he + po.length) (hK : cf_K a n (cf_out t he po D1 D2)) (ps' : cf_PS t L c' he' p' pE' qE' po' D1' D2') (e1' : n' = (cf_out t he' po' D1' D2').length) (e2' : H' = c' + 3) (e3' : HL' = he' - (c' + 3)) (e4' : P' = he' + po'.length) (hK' : cf_K a' n' (cf_out t he' po' D1' D2')) : n' = n ∧ H' = H ∧ HL' = HL ∧ P' = P ∧ (∀ j, j < n → a j = a' j) ∧ H + HL ≤ n ∧ P ≤ n ∧ HL ≤ 16 := by
  have bo := cf_outB ht hL ps
  have ol := cf_outL (t := t) (he := he) (po := po) (D1 := D1) (D2 := D2)
  obtain ⟨rfl, rfl, rfl, rfl, rfl⟩ := cf_PSu ps ps'
  subst e1 e2 e3 e4 e1' e2' e3' e4'
  exact ⟨rfl, rfl, rfl, rfl, cf_ag hK hK', by omega, by omega, by omega⟩
theorem cf_Fu {P : Nat → Prop} {n : Nat} (x y : Int32) (hx : cf_FF P n x) (hy : cf_FF P n y) : x = y := cf_FFu (fun _ _ => Iff.rfl) hx hy
theorem i_vc_submit {k : Nat} {u : SX} {v : SY} (I : i_Rel k u v) (hk : k + 5 ≤ 2562) : wpX_submit (fun r u' => wpY_submit (fun r' v' => r' = r ∧ i_Rel (k + 5) u' v') v) u := by
  obtain ⟨L, mu, uc, uch, hc, rc, rch, f_defaultDelay, f_clock, f_canonLength, f_canonHost, f_canonHostLength, f_canonPath, f_schemePort, f_partLength, f_cLen, f_cHost, f_cHostLen, f_cPq, f_decLen, f_segN, a_buffer, a_canon, a_part, a_urlPool, a_urlStart, a_urlLength, a_urlPath, a_urlHost, a_urlState, a_urlTime, a_names, a_nameLength, a_hostDelay, a_hostNext, a_rulePool, a_ruleStart, a_ruleLength, a_ruleHost, a_hostSent, a_ycanon, a_dec, a_segS, a_segL, rfl, rfl, hL, hB, hU, hH, hR⟩ := I
  obtain ⟨t, hb, ht⟩ := hB
  have hB : cf_BT a_buffer := ⟨t, hb, ht⟩
  have u256 := hU.2.2.1
  have r128 := hR.2.1
  have h32 : uc ≤ 32 := Nat.le_trans hU.2.1 hU.1
  have hU2 : ∀ u, u < uc → ∃ s m, a_urlStart u = nI s ∧ a_urlLength u = nI m ∧ s + m ≤ 256 := by
    intro u hu
    obtain ⟨s, n, p, x, h, e1, e2, e3, e4, e5, e6, -⟩ := hU.2.2.2.2 u hu
    exact ⟨s, n, e1, e2, by omega⟩
  have hU3 : ∀ u, u < uc → ∃ s m p, a_urlStart u = nI s ∧ a_urlLength u = nI m ∧ a_urlPath u = nI p ∧ p ≤ m ∧ s + m ≤ 256 := by
    intro u hu
    obtain ⟨s, n, p, x, h, e1, e2, e3, e4, e5, e6, e7, e8, -⟩ := hU.2.2.2.2 u hu
    exact ⟨s, n, p, e1, e2, e3, by omega, by omega⟩
  have hU4 : ∀ u, u < uc → ∃ s m p a, a_urlStart u = nI s ∧ a_urlLength u = nI m ∧ a_urlPath u = nI p ∧ s + m ≤ 256 ∧ a + 2 ≤ p ∧ p < m ∧ a_urlPool (s + a) = 47 ∧ a_urlPool (s + (a + 1)) = 47 ∧ a_urlPool (s + p) = 47 ∧ ∀ j, j < p → j ≠ a → j ≠ a + 1 → a_urlPool (s + j) ≠ 47 := by
    intro u hu
    obtain ⟨s, n, p, x, h, e1, e2, e3, e4, e5, e6, e7, e8, e9⟩ := hU.2.2.2.2 u hu
    exact ⟨s, n, p, x, e1, e2, e3, by omega, e7, e8, e9⟩
  have hU5 : ∀ u, u < uc → ∃ h, h < hc ∧ a_urlHost u = nI h := by
    intro u hu
    obtain ⟨s, n, p, x, h, e1, e2, e3, e4, e5, e6⟩ := hU.2.2.2.2 u hu
    exact ⟨h, e5, e4⟩
  have hR2 : ∀ r, r < rc → ∃ s m, a_ruleStart r = nI s ∧ a_ruleLength r = nI m ∧ s + m ≤ 128 := by
    intro r hr
    obtain ⟨s, n, e1, e2, e3⟩ := hR.2.2.2 r hr
    exact ⟨s, n, e1, e2, by omega⟩
  refine cx_submit hL hb ht hU.1 hU.2.1 hU.2.2.1 hH.1 hR.1 hU2 hR2 (fun no a1 a2 n1 n2 n3 n4 n5 n6 => ?_) (fun c he p pE qE po D1 D2 n H HL P ps e1 e2 e3 e4 a1 hK r rf a2 n5 n6 => ?_) (fun c he p pE qE po D1 D2 n H HL P ps e1 e2 e3 e4 a1 hK x ac => ⟨fun h hh ex a2 n5 n6 => ?_, fun ex a2 n5 n6 => ?_⟩)
  · exact cy_submit hL hb ht hU.1 hU.2.1 hU.2.2.1 hU.2.2.2.1.symm hH.1 hR.1 hU2 hR2 (fun _ b1 b2 b3 b4 m1 m2 m3 m4 m5 m6 => ⟨rfl, cb_rel (L := 0) (by omega) hB hU hH hR⟩) (fun c he p pE qE po D1 D2 n H HL P ps => absurd ps (no _ _ _ _ _ _ _ _)) (fun c he p pE qE po D1 D2 n H HL P ps => absurd ps (no _ _ _ _ _ _ _ _))
  · refine cy_submit hL hb ht hU.1 hU.2.1 hU.2.2.1 hU.2.2.2.1.symm hH.1 hR.1 hU2 hR2 (fun no => absurd ps (no _ _ _ _ _ _ _ _)) (fun c' he' p' pE' qE' po' D1' D2' n' H' HL' P' ps' e1' e2' e3' e4' a1' hK' r' rf' b2 b3 b4 m5 m6 => ⟨?_, cb_rel (L := 0) (by omega) hB hU hH hR⟩) (fun c' he' p' pE' qE' po' D1' D2' n' H' HL' P' ps' e1' e2' e3' e4' a1' hK' x' ac' => ?_)
    · have sm := cb_same ht hL ps e1 e2 e3 e4 hK ps' e1' e2' e3' e4' hK'
      obtain ⟨rfl, rfl, rfl, rfl, ag, hHn, hPn, hHL⟩ := sm
      exact (cf_Rfu cf_Fu (cf_Rfc (cf_DupC ag) (cf_FFC hHn ag) (cf_PrC hPn ag) rf) rf').symm
    · have sm := cb_same ht hL ps e1 e2 e3 e4 hK ps' e1' e2' e3' e4' hK'
      obtain ⟨rfl, rfl, rfl, rfl, ag, hHn, hPn, hHL⟩ := sm
      exact (cf_RA cf_Fu (cf_Rfc (cf_DupC ag) (cf_FFC hHn ag) (cf_PrC hPn ag) rf) ac').elim
  · refine cy_submit hL hb ht hU.1 hU.2.1 hU.2.2.1 hU.2.2.2.1.symm hH.1 hR.1 hU2 hR2 (fun no => absurd ps (no _ _ _ _ _ _ _ _)) (fun c' he' p' pE' qE' po' D1' D2' n' H' HL' P' ps' e1' e2' e3' e4' a1' hK' r' rf' b2 b3 b4 m5 m6 => ?_) (fun c' he' p' pE' qE' po' D1' D2' n' H' HL' P' ps' e1' e2' e3' e4' a1' hK' x' ac' => ⟨fun h' hh' ex' b2 b3 b4 m5 m6 => ?_, fun ex' b2 b3 b4 m5 m6 => ?_⟩)
    · have sm := cb_same ht hL ps e1 e2 e3 e4 hK ps' e1' e2' e3' e4' hK'
      obtain ⟨rfl, rfl, rfl, rfl, ag, hHn, hPn, hHL⟩ := sm
      exact (cf_RA cf_Fu rf' (cf_Acc (cf_DupC ag) (cf_FFC hHn ag) (cf_PrC hPn ag) ac)).elim
    · have sm := cb_same ht hL ps e1 e2 e3 e4 hK ps' e1' e2' e3' e4' hK'
      obtain ⟨rfl, rfl, rfl, rfl, ag, hHn, hPn, hHL⟩ := sm
      have exx := cf_Fu _ _ (cf_Acc (cf_DupC ag) (cf_FFC hHn ag) (cf_PrC hPn ag) ac).2.1 ac'.2.1
      rw [ex, ex'] at exx
      rw [nI_eq (by have := hH.1; omega) (by have := hH.1; omega)] at exx
      subst exx
      have ec : cf_cp a_urlPool uch a1' 0 n' = cf_cp a_urlPool uch a1 0 n' := cf_cpE _ (fun j hj => by rw [Nat.zero_add]; exact (ag j hj).symm)
      have nf := ac.2.2.2.1
      rw [ec]
      subst e4'
      rw [e4] at *
      exact ⟨rfl, cb_rel (L := 0) (by omega) hB (cf_IUa hU (by omega) (by omega) (cf_outT ps) (cf_outC ht ps) hK hh) (cf_IHu hH) hR⟩
    · have sm := cb_same ht hL ps e1 e2 e3 e4 hK ps' e1' e2' e3' e4' hK'
      obtain ⟨rfl, rfl, rfl, rfl, ag, hHn, hPn, hHL⟩ := sm
      have exx := cf_Fu _ _ (cf_Acc (cf_DupC ag) (cf_FFC hHn ag) (cf_PrC hPn ag) ac).2.1 ac'.2.1
      rw [ex, ex'] at exx
      exact absurd exx (cf_m1 (by have := hH.1; omega))
  · refine cy_submit hL hb ht hU.1 hU.2.1 hU.2.2.1 hU.2.2.2.1.symm hH.1 hR.1 hU2 hR2 (fun no => absurd ps (no _ _ _ _ _ _ _ _)) (fun c' he' p' pE' qE' po' D1' D2' n' H' HL' P' ps' e1' e2' e3' e4' a1' hK' r' rf' b2 b3 b4 m5 m6 => ?_) (fun c' he' p' pE' qE' po' D1' D2' n' H' HL' P' ps' e1' e2' e3' e4' a1' hK' x' ac' => ⟨fun h' hh' ex' b2 b3 b4 m5 m6 => ?_, fun ex' b2 b3 b4 m5 m6 => ?_⟩)
    · have sm := cb_same ht hL ps e1 e2 e3 e4 hK ps' e1' e2' e3' e4' hK'
      obtain ⟨rfl, rfl, rfl, rfl, ag, hHn, hPn, hHL⟩ := sm
      exact (cf_RA cf_Fu rf' (cf_Acc (cf_DupC ag) (cf_FFC hHn ag) (cf_PrC hPn ag) ac)).elim
    · have sm := cb_same ht hL ps e1 e2 e3 e4 hK ps' e1' e2' e3' e4' hK'
      obtain ⟨rfl, rfl, rfl, rfl, ag, hHn, hPn, hHL⟩ := sm
      have exx := cf_Fu _ _ (cf_Acc (cf_DupC ag) (cf_FFC hHn ag) (cf_PrC hPn ag) ac).2.1 ac'.2.1
      rw [ex, ex'] at exx
      exact absurd exx (cf_m1' (by have := hH.1; omega))
    · have sm := cb_same ht hL ps e1 e2 e3 e4 hK ps' e1' e2' e3' e4' hK'
      obtain ⟨rfl, rfl, rfl, rfl, ag, hHn, hPn, hHL⟩ := sm
      have exx := cf_Fu _ _ (cf_Acc (cf_DupC ag) (cf_FFC hHn ag) (cf_PrC hPn ag) ac).2.1 ac'.2.1
      rw [ex, ex'] at exx
      have ec : cf_cp a_urlPool uch a1' 0 n' = cf_cp a_urlPool uch a1 0 n' := cf_cpE _ (fun j hj => by rw [Nat.zero_add]; exact (ag j hj).symm)
      have nf := ac.2.2.2.1
      have ec2 : cf_cp a_names (hc * 16) a1' H' HL' = cf_cp a_names (hc * 16) a1 H' HL' := cf_cpE _ (fun j hj => (ag (H' + j) (by omega)).symm)
      rw [ec, ec2]
      have h8 := ac.2.2.2.2 ex
      subst e4'
      rw [e4] at *
      exact ⟨rfl, cb_rel (L := 0) (by omega) hB (cf_IUa (cf_IUh hU (Nat.le_succ hc)) (by omega) (by omega) (cf_outT ps) (cf_outC ht ps) hK (Nat.lt_succ_self hc)) (cf_IHu (cf_IHh hH h8 hHL hU5)) hR⟩
end
section
/-! disallow and setDelay on both sides (made by mk41.py) -/
theorem i_vc_disallow {k : Nat} {u : SX} {v : SY} (I : i_Rel k u v) (hk : k + 5 ≤ 2562) : wpX_disallow (fun r u' => wpY_disallow (fun r' v' => r' = r ∧ i_Rel (k + 5) u' v') v) u := by
  obtain ⟨L, mu, uc, uch, hc, rc, rch, f_defaultDelay, f_clock, f_canonLength, f_canonHost, f_canonHostLength, f_canonPath, f_schemePort, f_partLength, f_cLen, f_cHost, f_cHostLen, f_cPq, f_decLen, f_segN, a_buffer, a_canon, a_part, a_urlPool, a_urlStart, a_urlLength, a_urlPath, a_urlHost, a_urlState, a_urlTime, a_names, a_nameLength, a_hostDelay, a_hostNext, a_rulePool, a_ruleStart, a_ruleLength, a_ruleHost, a_hostSent, a_ycanon, a_dec, a_segS, a_segL, rfl, rfl, hL, hB, hU, hH, hR⟩ := I
  obtain ⟨t, hb, ht⟩ := hB
  have hB : cf_BT a_buffer := ⟨t, hb, ht⟩
  have u256 := hU.2.2.1
  have r128 := hR.2.1
  have h32 : uc ≤ 32 := Nat.le_trans hU.2.1 hU.1
  have hU2 : ∀ u, u < uc → ∃ s m, a_urlStart u = nI s ∧ a_urlLength u = nI m ∧ s + m ≤ 256 := by
    intro u hu
    obtain ⟨s, n, p, x, h, e1, e2, e3, e4, e5, e6, -⟩ := hU.2.2.2.2 u hu
    exact ⟨s, n, e1, e2, by omega⟩
  have hU3 : ∀ u, u < uc → ∃ s m p, a_urlStart u = nI s ∧ a_urlLength u = nI m ∧ a_urlPath u = nI p ∧ p ≤ m ∧ s + m ≤ 256 := by
    intro u hu
    obtain ⟨s, n, p, x, h, e1, e2, e3, e4, e5, e6, e7, e8, -⟩ := hU.2.2.2.2 u hu
    exact ⟨s, n, p, e1, e2, e3, by omega, by omega⟩
  have hU4 : ∀ u, u < uc → ∃ s m p a, a_urlStart u = nI s ∧ a_urlLength u = nI m ∧ a_urlPath u = nI p ∧ s + m ≤ 256 ∧ a + 2 ≤ p ∧ p < m ∧ a_urlPool (s + a) = 47 ∧ a_urlPool (s + (a + 1)) = 47 ∧ a_urlPool (s + p) = 47 ∧ ∀ j, j < p → j ≠ a → j ≠ a + 1 → a_urlPool (s + j) ≠ 47 := by
    intro u hu
    obtain ⟨s, n, p, x, h, e1, e2, e3, e4, e5, e6, e7, e8, e9⟩ := hU.2.2.2.2 u hu
    exact ⟨s, n, p, x, e1, e2, e3, by omega, e7, e8, e9⟩
  have hU5 : ∀ u, u < uc → ∃ h, h < hc ∧ a_urlHost u = nI h := by
    intro u hu
    obtain ⟨s, n, p, x, h, e1, e2, e3, e4, e5, e6⟩ := hU.2.2.2.2 u hu
    exact ⟨h, e5, e4⟩
  have hR2 : ∀ r, r < rc → ∃ s m, a_ruleStart r = nI s ∧ a_ruleLength r = nI m ∧ s + m ≤ 128 := by
    intro r hr
    obtain ⟨s, n, e1, e2, e3⟩ := hR.2.2.2 r hr
    exact ⟨s, n, e1, e2, by omega⟩
  refine cx_disallow hL hb ht h32 hH.1 hR.1 hR.2.1 hU3 hR2 (fun no a1 a2 n1 n2 n3 n4 n5 n6 => ?_) (fun c he p pE qE po D1 D2 n H HL P ps e1 e2 e3 e4 a1 hK r rf a2 n5 n6 => ?_) (fun c he p pE qE po D1 D2 n H HL P ps e1 e2 e3 e4 a1 hK x ac => ⟨fun h hh ex a2 n5 n6 => ?_, fun ex a2 n5 n6 => ?_⟩)
  · exact cy_disallow hL hb ht (a_pt := a_urlPath) h32 hH.1 hR.1 hR.2.1 hR.2.2.1.symm hU4 hR2 (fun _ b1 b2 b3 b4 m1 m2 m3 m4 m5 m6 => ⟨rfl, cb_rel (L := 0) (by omega) hB hU hH hR⟩) (fun c he p pE qE po D1 D2 n H HL P ps => absurd ps (no _ _ _ _ _ _ _ _)) (fun c he p pE qE po D1 D2 n H HL P ps => absurd ps (no _ _ _ _ _ _ _ _))
  · refine cy_disallow hL hb ht (a_pt := a_urlPath) h32 hH.1 hR.1 hR.2.1 hR.2.2.1.symm hU4 hR2 (fun no => absurd ps (no _ _ _ _ _ _ _ _)) (fun c' he' p' pE' qE' po' D1' D2' n' H' HL' P' ps' e1' e2' e3' e4' a1' hK' r' rf' b2 b3 b4 m5 m6 => ⟨?_, cb_rel (L := 0) (by omega) hB hU hH hR⟩) (fun c' he' p' pE' qE' po' D1' D2' n' H' HL' P' ps' e1' e2' e3' e4' a1' hK' x' ac' => ?_)
    · have sm := cb_same ht hL ps e1 e2 e3 e4 hK ps' e1' e2' e3' e4' hK'
      obtain ⟨rfl, rfl, rfl, rfl, ag, hHn, hPn, hHL⟩ := sm
      exact (cf_Rfu cf_Fu (cf_Rfc Iff.rfl (cf_FFC hHn ag) (cf_PeC hPn ag) rf) rf').symm
    · have sm := cb_same ht hL ps e1 e2 e3 e4 hK ps' e1' e2' e3' e4' hK'
      obtain ⟨rfl, rfl, rfl, rfl, ag, hHn, hPn, hHL⟩ := sm
      exact (cf_RA cf_Fu (cf_Rfc Iff.rfl (cf_FFC hHn ag) (cf_PeC hPn ag) rf) ac').elim
  · refine cy_disallow hL hb ht (a_pt := a_urlPath) h32 hH.1 hR.1 hR.2.1 hR.2.2.1.symm hU4 hR2 (fun no => absurd ps (no _ _ _ _ _ _ _ _)) (fun c' he' p' pE' qE' po' D1' D2' n' H' HL' P' ps' e1' e2' e3' e4' a1' hK' r' rf' b2 b3 b4 m5 m6 => ?_) (fun c' he' p' pE' qE' po' D1' D2' n' H' HL' P' ps' e1' e2' e3' e4' a1' hK' x' ac' => ⟨fun h' hh' ex' b2 b3 b4 m5 m6 => ?_, fun ex' b2 b3 b4 m5 m6 => ?_⟩)
    · have sm := cb_same ht hL ps e1 e2 e3 e4 hK ps' e1' e2' e3' e4' hK'
      obtain ⟨rfl, rfl, rfl, rfl, ag, hHn, hPn, hHL⟩ := sm
      exact (cf_RA cf_Fu rf' (cf_Acc Iff.rfl (cf_FFC hHn ag) (cf_PeC hPn ag) ac)).elim
    · have sm := cb_same ht hL ps e1 e2 e3 e4 hK ps' e1' e2' e3' e4' hK'
      obtain ⟨rfl, rfl, rfl, rfl, ag, hHn, hPn, hHL⟩ := sm
      have exx := cf_Fu _ _ (cf_Acc Iff.rfl (cf_FFC hHn ag) (cf_PeC hPn ag) ac).2.1 ac'.2.1
      rw [ex, ex'] at exx
      rw [nI_eq (by have := hH.1; omega) (by have := hH.1; omega)] at exx
      subst exx
      have ec : cf_cp a_rulePool rch a1' P' (n' - P') = cf_cp a_rulePool rch a1 P' (n' - P') := cf_cpE _ (fun j hj => (ag (P' + j) (by omega)).symm)
      have nf := ac.2.2.2.1
      rw [ec]
      exact ⟨rfl, cb_rel (L := 0) (by omega) hB hU (cf_IHb hH (cf_bkI _ _ _).2) (cf_IRa hR (by omega) (by omega))⟩
    · have sm := cb_same ht hL ps e1 e2 e3 e4 hK ps' e1' e2' e3' e4' hK'
      obtain ⟨rfl, rfl, rfl, rfl, ag, hHn, hPn, hHL⟩ := sm
      have exx := cf_Fu _ _ (cf_Acc Iff.rfl (cf_FFC hHn ag) (cf_PeC hPn ag) ac).2.1 ac'.2.1
      rw [ex, ex'] at exx
      exact absurd exx (cf_m1 (by have := hH.1; omega))
  · refine cy_disallow hL hb ht (a_pt := a_urlPath) h32 hH.1 hR.1 hR.2.1 hR.2.2.1.symm hU4 hR2 (fun no => absurd ps (no _ _ _ _ _ _ _ _)) (fun c' he' p' pE' qE' po' D1' D2' n' H' HL' P' ps' e1' e2' e3' e4' a1' hK' r' rf' b2 b3 b4 m5 m6 => ?_) (fun c' he' p' pE' qE' po' D1' D2' n' H' HL' P' ps' e1' e2' e3' e4' a1' hK' x' ac' => ⟨fun h' hh' ex' b2 b3 b4 m5 m6 => ?_, fun ex' b2 b3 b4 m5 m6 => ?_⟩)
    · have sm := cb_same ht hL ps e1 e2 e3 e4 hK ps' e1' e2' e3' e4' hK'
      obtain ⟨rfl, rfl, rfl, rfl, ag, hHn, hPn, hHL⟩ := sm
      exact (cf_RA cf_Fu rf' (cf_Acc Iff.rfl (cf_FFC hHn ag) (cf_PeC hPn ag) ac)).elim
    · have sm := cb_same ht hL ps e1 e2 e3 e4 hK ps' e1' e2' e3' e4' hK'
      obtain ⟨rfl, rfl, rfl, rfl, ag, hHn, hPn, hHL⟩ := sm
      have exx := cf_Fu _ _ (cf_Acc Iff.rfl (cf_FFC hHn ag) (cf_PeC hPn ag) ac).2.1 ac'.2.1
      rw [ex, ex'] at exx
      exact absurd exx (cf_m1' (by have := hH.1; omega))
    · have sm := cb_same ht hL ps e1 e2 e3 e4 hK ps' e1' e2' e3' e4' hK'
      obtain ⟨rfl, rfl, rfl, rfl, ag, hHn, hPn, hHL⟩ := sm
      have exx := cf_Fu _ _ (cf_Acc Iff.rfl (cf_FFC hHn ag) (cf_PeC hPn ag) ac).2.1 ac'.2.1
      rw [ex, ex'] at exx
      have ec : cf_cp a_rulePool rch a1' P' (n' - P') = cf_cp a_rulePool rch a1 P' (n' - P') := cf_cpE _ (fun j hj => (ag (P' + j) (by omega)).symm)
      have nf := ac.2.2.2.1
      have ec2 : cf_cp a_names (hc * 16) a1' H' HL' = cf_cp a_names (hc * 16) a1 H' HL' := cf_cpE _ (fun j hj => (ag (H' + j) (by omega)).symm)
      rw [ec, ec2]
      have h8 := ac.2.2.2.2 ex
      exact ⟨rfl, cb_rel (L := 0) (by omega) hB (cf_IUh hU (Nat.le_succ hc)) (cf_IHb (cf_IHh hH h8 hHL hU5) (cf_bkI _ _ _).2) (cf_IRa hR (by omega) (by omega))⟩
theorem i_vc_setDelay {k : Nat} {u : SX} {v : SY} (I : i_Rel k u v) (hk : k + 5 ≤ 2562) (v1 : Int32) : wpX_setDelay (fun r u' => wpY_setDelay (fun r' v' => r' = r ∧ i_Rel (k + 5) u' v') v v1) u v1 := by
  obtain ⟨L, mu, uc, uch, hc, rc, rch, f_defaultDelay, f_clock, f_canonLength, f_canonHost, f_canonHostLength, f_canonPath, f_schemePort, f_partLength, f_cLen, f_cHost, f_cHostLen, f_cPq, f_decLen, f_segN, a_buffer, a_canon, a_part, a_urlPool, a_urlStart, a_urlLength, a_urlPath, a_urlHost, a_urlState, a_urlTime, a_names, a_nameLength, a_hostDelay, a_hostNext, a_rulePool, a_ruleStart, a_ruleLength, a_ruleHost, a_hostSent, a_ycanon, a_dec, a_segS, a_segL, rfl, rfl, hL, hB, hU, hH, hR⟩ := I
  obtain ⟨t, hb, ht⟩ := hB
  have hB : cf_BT a_buffer := ⟨t, hb, ht⟩
  have u256 := hU.2.2.1
  have r128 := hR.2.1
  have h32 : uc ≤ 32 := Nat.le_trans hU.2.1 hU.1
  have hU2 : ∀ u, u < uc → ∃ s m, a_urlStart u = nI s ∧ a_urlLength u = nI m ∧ s + m ≤ 256 := by
    intro u hu
    obtain ⟨s, n, p, x, h, e1, e2, e3, e4, e5, e6, -⟩ := hU.2.2.2.2 u hu
    exact ⟨s, n, e1, e2, by omega⟩
  have hU3 : ∀ u, u < uc → ∃ s m p, a_urlStart u = nI s ∧ a_urlLength u = nI m ∧ a_urlPath u = nI p ∧ p ≤ m ∧ s + m ≤ 256 := by
    intro u hu
    obtain ⟨s, n, p, x, h, e1, e2, e3, e4, e5, e6, e7, e8, -⟩ := hU.2.2.2.2 u hu
    exact ⟨s, n, p, e1, e2, e3, by omega, by omega⟩
  have hU4 : ∀ u, u < uc → ∃ s m p a, a_urlStart u = nI s ∧ a_urlLength u = nI m ∧ a_urlPath u = nI p ∧ s + m ≤ 256 ∧ a + 2 ≤ p ∧ p < m ∧ a_urlPool (s + a) = 47 ∧ a_urlPool (s + (a + 1)) = 47 ∧ a_urlPool (s + p) = 47 ∧ ∀ j, j < p → j ≠ a → j ≠ a + 1 → a_urlPool (s + j) ≠ 47 := by
    intro u hu
    obtain ⟨s, n, p, x, h, e1, e2, e3, e4, e5, e6, e7, e8, e9⟩ := hU.2.2.2.2 u hu
    exact ⟨s, n, p, x, e1, e2, e3, by omega, e7, e8, e9⟩
  have hU5 : ∀ u, u < uc → ∃ h, h < hc ∧ a_urlHost u = nI h := by
    intro u hu
    obtain ⟨s, n, p, x, h, e1, e2, e3, e4, e5, e6⟩ := hU.2.2.2.2 u hu
    exact ⟨h, e5, e4⟩
  have hR2 : ∀ r, r < rc → ∃ s m, a_ruleStart r = nI s ∧ a_ruleLength r = nI m ∧ s + m ≤ 128 := by
    intro r hr
    obtain ⟨s, n, e1, e2, e3⟩ := hR.2.2.2 r hr
    exact ⟨s, n, e1, e2, by omega⟩
  by_cases hv1 : v1 < 1
  · exact br_t hv1 (br_t hv1 ⟨rfl, cb_rel (L := 0) (by omega) hB hU hH hR⟩)
  by_cases hv2 : v1 ≤ 16
  rotate_left
  · exact br_f hv1 (br_f hv2 (br_f hv1 (br_f hv2 ⟨rfl, cb_rel (L := 0) (by omega) hB hU hH hR⟩)))
  refine cx_setDelay hL hb ht hH.1 hv1 hv2 (fun no a1 a2 n1 n2 n3 n4 n5 n6 => ?_) (fun c he p pE qE po D1 D2 n H HL P ps e1 e2 e3 e4 a1 hK r rf a2 n5 n6 => ?_) (fun c he p pE qE po D1 D2 n H HL P ps e1 e2 e3 e4 a1 hK x ac => ⟨fun h hh ex a2 n5 n6 => ?_, fun ex a2 n5 n6 => ?_⟩)
  · exact cy_setDelay hL hb ht hH.1 hv1 hv2 (fun _ b1 b2 b3 b4 m1 m2 m3 m4 m5 m6 => ⟨rfl, cb_rel (L := 0) (by omega) hB hU hH hR⟩) (fun c he p pE qE po D1 D2 n H HL P ps => absurd ps (no _ _ _ _ _ _ _ _)) (fun c he p pE qE po D1 D2 n H HL P ps => absurd ps (no _ _ _ _ _ _ _ _))
  · refine cy_setDelay hL hb ht hH.1 hv1 hv2 (fun no => absurd ps (no _ _ _ _ _ _ _ _)) (fun c' he' p' pE' qE' po' D1' D2' n' H' HL' P' ps' e1' e2' e3' e4' a1' hK' r' rf' b2 b3 b4 m5 m6 => ⟨?_, cb_rel (L := 0) (by omega) hB hU hH hR⟩) (fun c' he' p' pE' qE' po' D1' D2' n' H' HL' P' ps' e1' e2' e3' e4' a1' hK' x' ac' => ?_)
    · have sm := cb_same ht hL ps e1 e2 e3 e4 hK ps' e1' e2' e3' e4' hK'
      obtain ⟨rfl, rfl, rfl, rfl, ag, hHn, hPn, hHL⟩ := sm
      exact (cf_Rfu cf_Fu (cf_Rfc Iff.rfl (cf_FFC hHn ag) (fun _ => Iff.rfl) rf) rf').symm
    · have sm := cb_same ht hL ps e1 e2 e3 e4 hK ps' e1' e2' e3' e4' hK'
      obtain ⟨rfl, rfl, rfl, rfl, ag, hHn, hPn, hHL⟩ := sm
      exact (cf_RA cf_Fu (cf_Rfc Iff.rfl (cf_FFC hHn ag) (fun _ => Iff.rfl) rf) ac').elim
  · refine cy_setDelay hL hb ht hH.1 hv1 hv2 (fun no => absurd ps (no _ _ _ _ _ _ _ _)) (fun c' he' p' pE' qE' po' D1' D2' n' H' HL' P' ps' e1' e2' e3' e4' a1' hK' r' rf' b2 b3 b4 m5 m6 => ?_) (fun c' he' p' pE' qE' po' D1' D2' n' H' HL' P' ps' e1' e2' e3' e4' a1' hK' x' ac' => ⟨fun h' hh' ex' b2 b3 b4 m5 m6 => ?_, fun ex' b2 b3 b4 m5 m6 => ?_⟩)
    · have sm := cb_same ht hL ps e1 e2 e3 e4 hK ps' e1' e2' e3' e4' hK'
      obtain ⟨rfl, rfl, rfl, rfl, ag, hHn, hPn, hHL⟩ := sm
      exact (cf_RA cf_Fu rf' (cf_Acc Iff.rfl (cf_FFC hHn ag) (fun _ => Iff.rfl) ac)).elim
    · have sm := cb_same ht hL ps e1 e2 e3 e4 hK ps' e1' e2' e3' e4' hK'
      obtain ⟨rfl, rfl, rfl, rfl, ag, hHn, hPn, hHL⟩ := sm
      have exx := cf_Fu _ _ (cf_Acc Iff.rfl (cf_FFC hHn ag) (fun _ => Iff.rfl) ac).2.1 ac'.2.1
      rw [ex, ex'] at exx
      rw [nI_eq (by have := hH.1; omega) (by have := hH.1; omega)] at exx
      subst exx
      exact ⟨rfl, cb_rel (L := 0) (by omega) hB hU hH hR⟩
    · have sm := cb_same ht hL ps e1 e2 e3 e4 hK ps' e1' e2' e3' e4' hK'
      obtain ⟨rfl, rfl, rfl, rfl, ag, hHn, hPn, hHL⟩ := sm
      have exx := cf_Fu _ _ (cf_Acc Iff.rfl (cf_FFC hHn ag) (fun _ => Iff.rfl) ac).2.1 ac'.2.1
      rw [ex, ex'] at exx
      exact absurd exx (cf_m1 (by have := hH.1; omega))
  · refine cy_setDelay hL hb ht hH.1 hv1 hv2 (fun no => absurd ps (no _ _ _ _ _ _ _ _)) (fun c' he' p' pE' qE' po' D1' D2' n' H' HL' P' ps' e1' e2' e3' e4' a1' hK' r' rf' b2 b3 b4 m5 m6 => ?_) (fun c' he' p' pE' qE' po' D1' D2' n' H' HL' P' ps' e1' e2' e3' e4' a1' hK' x' ac' => ⟨fun h' hh' ex' b2 b3 b4 m5 m6 => ?_, fun ex' b2 b3 b4 m5 m6 => ?_⟩)
    · have sm := cb_same ht hL ps e1 e2 e3 e4 hK ps' e1' e2' e3' e4' hK'
      obtain ⟨rfl, rfl, rfl, rfl, ag, hHn, hPn, hHL⟩ := sm
      exact (cf_RA cf_Fu rf' (cf_Acc Iff.rfl (cf_FFC hHn ag) (fun _ => Iff.rfl) ac)).elim
    · have sm := cb_same ht hL ps e1 e2 e3 e4 hK ps' e1' e2' e3' e4' hK'
      obtain ⟨rfl, rfl, rfl, rfl, ag, hHn, hPn, hHL⟩ := sm
      have exx := cf_Fu _ _ (cf_Acc Iff.rfl (cf_FFC hHn ag) (fun _ => Iff.rfl) ac).2.1 ac'.2.1
      rw [ex, ex'] at exx
      exact absurd exx (cf_m1' (by have := hH.1; omega))
    · have sm := cb_same ht hL ps e1 e2 e3 e4 hK ps' e1' e2' e3' e4' hK'
      obtain ⟨rfl, rfl, rfl, rfl, ag, hHn, hPn, hHL⟩ := sm
      have exx := cf_Fu _ _ (cf_Acc Iff.rfl (cf_FFC hHn ag) (fun _ => Iff.rfl) ac).2.1 ac'.2.1
      rw [ex, ex'] at exx
      have ec2 : cf_cp a_names (hc * 16) a1' H' HL' = cf_cp a_names (hc * 16) a1 H' HL' := cf_cpE _ (fun j hj => (ag (H' + j) (by omega)).symm)
      rw [ec2]
      have h8 := ac.2.2.2.2 ex
      exact ⟨rfl, cb_rel (L := 0) (by omega) hB (cf_IUh hU (Nat.le_succ hc)) (cf_IHh hH h8 hHL hU5) hR⟩
end
section
/-! tick and the readers on both sides (made by mk43.py) -/
theorem i_vc_tick {k : Nat} {u : SX} {v : SY} (I : i_Rel k u v) (hk : k + 5 ≤ 2562) (v1 : Int32) : wpX_tick (fun r u' => wpY_tick (fun r' v' => r' = r ∧ i_Rel (k + 5) u' v') v v1) u v1 := by
  obtain ⟨L, mu, uc, uch, hc, rc, rch, f_defaultDelay, f_clock, f_canonLength, f_canonHost, f_canonHostLength, f_canonPath, f_schemePort, f_partLength, f_cLen, f_cHost, f_cHostLen, f_cPq, f_decLen, f_segN, a_buffer, a_canon, a_part, a_urlPool, a_urlStart, a_urlLength, a_urlPath, a_urlHost, a_urlState, a_urlTime, a_names, a_nameLength, a_hostDelay, a_hostNext, a_rulePool, a_ruleStart, a_ruleLength, a_ruleHost, a_hostSent, a_ycanon, a_dec, a_segS, a_segL, rfl, rfl, hL, hB, hU, hH, hR⟩ := I
  have h32 : uc ≤ 32 := Nat.le_trans hU.2.1 hU.1
  have go : ∀ m, m ≤ 64 → ∃ r ck' us' ut' nx' sent', cf_IH hc uc a_nameLength sent' a_urlHost us' ∧
      (∀ (post : Int32 → SX → Prop) f, m < f → post r (nI mu, f_defaultDelay, ck', nI L, f_canonLength, f_canonHost, f_canonHostLength, f_canonPath, f_schemePort, f_partLength, nI uc, nI uch, nI hc, nI rc, nI rch, a_buffer, a_canon, a_part, a_urlPool, a_urlStart, a_urlLength, a_urlPath, a_urlHost, us', ut', a_names, a_nameLength, a_hostDelay, nx', a_rulePool, a_ruleStart, a_ruleLength, a_ruleHost) → wX_tick_13 post (nI m) f 0 (nI 0) (nI mu) f_defaultDelay f_clock (nI L) f_canonLength f_canonHost f_canonHostLength f_canonPath f_schemePort f_partLength (nI uc) (nI uch) (nI hc) (nI rc) (nI rch) a_buffer a_canon a_part a_urlPool a_urlStart a_urlLength a_urlPath a_urlHost a_urlState a_urlTime a_names a_nameLength a_hostDelay a_hostNext a_rulePool a_ruleStart a_ruleLength a_ruleHost) ∧
      (∀ (post : Int32 → SY → Prop) f, m < f → post r (nI mu, f_defaultDelay, ck', nI L, nI uc, nI hc, nI rc, f_cLen, f_cHost, f_cHostLen, f_cPq, f_decLen, f_segN, a_buffer, a_urlPool, a_urlStart, a_urlLength, us', a_urlHost, ut', a_names, a_nameLength, a_hostDelay, nx', sent', a_rulePool, a_ruleStart, a_ruleLength, a_ruleHost, a_ycanon, a_dec, a_segS, a_segL) → wY_tick_27 post (nI m) (nI mu) f_defaultDelay (nI L) (nI uc) (nI hc) (nI rc) f_cLen f_cHost f_cHostLen f_cPq f_decLen f_segN f 0 (nI 0) f_clock a_buffer a_urlPool a_urlStart a_urlLength a_urlState a_urlHost a_urlTime a_names a_nameLength a_hostDelay a_hostNext a_hostSent a_rulePool a_ruleStart a_ruleLength a_ruleHost a_ycanon a_dec a_segS a_segL) :=
    fun m hm => cb_tick hm hH.1 h32 m 0 0 f_clock a_urlState a_urlTime a_hostNext a_hostSent (Nat.zero_add m) hH
  by_cases h1 : 1 ≤ v1
  · by_cases h64 : v1 ≤ 64
    · obtain ⟨m, hm, rfl⟩ := nI_of2 (M := 64) (n := 64) rfl (fun z => absurd (Int32.lt_of_lt_of_le z (Int32.le_trans (by decide) h1)) (Int32.lt_irrefl)) h64
      obtain ⟨r, ck', us', ut', nx', sent', I', hX, hY⟩ := go m hm
      exact br_t h1 (br_t h64 ⟨m + 1, hX _ (m + 1) (by omega) (br_t h1 (br_t h64 ⟨m + 1, hY _ (m + 1) (by omega) ⟨rfl, cb_rel hL hB hU I' hR⟩⟩))⟩)
    · obtain ⟨r, ck', us', ut', nx', sent', I', hX, hY⟩ := go 64 (by omega)
      exact br_t h1 (br_f h64 ⟨64 + 1, hX _ (64 + 1) (by omega) (br_t h1 (br_f h64 ⟨64 + 1, hY _ (64 + 1) (by omega) ⟨rfl, cb_rel hL hB hU I' hR⟩⟩))⟩)
  · obtain ⟨r, ck', us', ut', nx', sent', I', hX, hY⟩ := go 1 (by omega)
    exact br_f h1 ⟨1 + 1, hX _ (1 + 1) (by omega) (br_f h1 ⟨1 + 1, hY _ (1 + 1) (by omega) ⟨rfl, cb_rel hL hB hU I' hR⟩⟩)⟩
theorem i_vc_count {k : Nat} {u : SX} {v : SY} (I : i_Rel k u v) (hk : k + 5 ≤ 2562) (v1 : Int32) : wpX_count (fun r => wpY_count (fun r' => r' = r ∧ i_Rel (k + 5) u v) v v1) u v1 := by
  obtain ⟨L, mu, uc, uch, hc, rc, rch, f_defaultDelay, f_clock, f_canonLength, f_canonHost, f_canonHostLength, f_canonPath, f_schemePort, f_partLength, f_cLen, f_cHost, f_cHostLen, f_cPq, f_decLen, f_segN, a_buffer, a_canon, a_part, a_urlPool, a_urlStart, a_urlLength, a_urlPath, a_urlHost, a_urlState, a_urlTime, a_names, a_nameLength, a_hostDelay, a_hostNext, a_rulePool, a_ruleStart, a_ruleLength, a_ruleHost, a_hostSent, a_ycanon, a_dec, a_segS, a_segL, rfl, rfl, hL, hB, hU, hH, hR⟩ := I
  have h32 : uc ≤ 32 := Nat.le_trans hU.2.1 hU.1
  by_cases c0 : v1 = 0
  · subst c0
    exact br_f (by decide) (br_f (by decide) (br_t rfl (br_t rfl (⟨rfl, cb_rel hL hB hU hH hR⟩))))
  by_cases c1 : v1 = 1
  · subst c1
    exact br_f (by decide) (br_f (by decide) (br_f (by decide) (br_t rfl (br_f (by decide) (br_t rfl (⟨rfl, cb_rel hL hB hU hH hR⟩))))))
  by_cases c2 : v1 = 2
  · subst c2
    exact br_f (by decide) (br_f (by decide) (br_f (by decide) (br_f (by decide) (br_t rfl (br_f (by decide) (br_f (by decide) (br_t rfl (⟨rfl, cb_rel hL hB hU hH hR⟩))))))))
  by_cases c3 : v1 = 3
  · subst c3
    exact br_f (by decide) (br_f (by decide) (br_f (by decide) (br_f (by decide) (br_f (by decide) (br_t rfl (br_f (by decide) (br_f (by decide) (br_f (by decide) (br_t rfl (⟨rfl, cb_rel hL hB hU hH hR⟩))))))))))
  by_cases c4 : v1 = 4
  · subst c4
    exact br_f (by decide) (br_f (by decide) (br_f (by decide) (br_f (by decide) (br_f (by decide) (br_f (by decide) (br_t rfl (cx_urlsIn h32 (br_f (by decide) (br_f (by decide) (br_f (by decide) (br_f (by decide) (br_t rfl (cy_stateCount h32 ⟨rfl, cb_rel hL hB hU hH hR⟩)))))))))))))
  by_cases c5 : v1 = 5
  · subst c5
    exact br_f (by decide) (br_f (by decide) (br_f (by decide) (br_f (by decide) (br_f (by decide) (br_f (by decide) (br_f (by decide) (br_t rfl (cx_urlsIn h32 (br_f (by decide) (br_f (by decide) (br_f (by decide) (br_f (by decide) (br_f (by decide) (br_t rfl (cy_stateCount h32 ⟨rfl, cb_rel hL hB hU hH hR⟩)))))))))))))))
  by_cases c6 : v1 = 6
  · subst c6
    exact br_f (by decide) (br_f (by decide) (br_f (by decide) (br_f (by decide) (br_f (by decide) (br_f (by decide) (br_f (by decide) (br_f (by decide) (br_t rfl (cx_urlsIn h32 (br_f (by decide) (br_f (by decide) (br_f (by decide) (br_f (by decide) (br_f (by decide) (br_f (by decide) (br_t rfl (cy_stateCount h32 ⟨rfl, cb_rel hL hB hU hH hR⟩)))))))))))))))))
  by_cases c7 : v1 = 7
  · subst c7
    exact br_f (by decide) (br_f (by decide) (br_f (by decide) (br_f (by decide) (br_f (by decide) (br_f (by decide) (br_f (by decide) (br_f (by decide) (br_f (by decide) (br_t rfl (br_f (by decide) (br_f (by decide) (br_f (by decide) (br_f (by decide) (br_f (by decide) (br_f (by decide) (br_f (by decide) (br_t rfl (cy_urlChars h32 ⟨hU.2.2.2.1.symm, cb_rel hL hB hU hH hR⟩))))))))))))))))))
  by_cases c8 : v1 = 8
  · subst c8
    exact br_f (by decide) (br_f (by decide) (br_f (by decide) (br_f (by decide) (br_f (by decide) (br_f (by decide) (br_f (by decide) (br_f (by decide) (br_f (by decide) (br_f (by decide) (br_t rfl (br_f (by decide) (br_f (by decide) (br_f (by decide) (br_f (by decide) (br_f (by decide) (br_f (by decide) (br_f (by decide) (br_f (by decide) (br_t rfl (cy_ruleChars hR.1 ⟨hR.2.2.1.symm, cb_rel hL hB hU hH hR⟩))))))))))))))))))))
  by_cases c9 : v1 = 9
  · subst c9
    exact br_f (by decide) (br_f (by decide) (br_f (by decide) (br_f (by decide) (br_f (by decide) (br_f (by decide) (br_f (by decide) (br_f (by decide) (br_f (by decide) (br_f (by decide) (br_f (by decide) (br_t rfl (br_f (by decide) (br_f (by decide) (br_f (by decide) (br_f (by decide) (br_f (by decide) (br_f (by decide) (br_f (by decide) (br_f (by decide) (br_f (by decide) (br_t rfl (⟨rfl, cb_rel hL hB hU hH hR⟩))))))))))))))))))))))
  by_cases c10 : v1 = 10
  · subst c10
    exact br_f (by decide) (br_f (by decide) (br_f (by decide) (br_f (by decide) (br_f (by decide) (br_f (by decide) (br_f (by decide) (br_f (by decide) (br_f (by decide) (br_f (by decide) (br_f (by decide) (br_f (by decide) (br_t rfl (br_f (by decide) (br_f (by decide) (br_f (by decide) (br_f (by decide) (br_f (by decide) (br_f (by decide) (br_f (by decide) (br_f (by decide) (br_f (by decide) (br_f (by decide) (br_t rfl (⟨rfl, cb_rel hL hB hU hH hR⟩))))))))))))))))))))))))
  exact br_c (fun _ => br_f c0 (br_f c1 (br_f c2 (br_f c3 (br_f c4 (br_f c5 (br_f c6 (br_f c7 (br_f c8 (br_f c9 (br_f c10 (⟨rfl, cb_rel hL hB hU hH hR⟩)))))))))))) (fun _ => br_c (fun _ => br_f c0 (br_f c1 (br_f c2 (br_f c3 (br_f c4 (br_f c5 (br_f c6 (br_f c7 (br_f c8 (br_f c9 (br_f c10 (⟨rfl, cb_rel hL hB hU hH hR⟩)))))))))))) (fun _ => br_f c0 (br_f c1 (br_f c2 (br_f c3 (br_f c4 (br_f c5 (br_f c6 (br_f c7 (br_f c8 (br_f c9 (br_f c10 (trivial)))))))))))))
section
variable {f_maxUrls f_defaultDelay f_clock f_bufferLength f_canonLength f_canonHost f_canonHostLength f_canonPath f_schemePort f_partLength f_urlCount f_urlChars f_hostCount f_ruleCount f_ruleChars f_cLen f_cHost f_cHostLen f_cPq f_decLen f_segN : Int32} {a_buffer a_canon a_part a_urlPool a_urlStart a_urlLength a_urlPath a_urlHost a_urlState a_urlTime a_names a_nameLength a_hostDelay a_hostNext a_rulePool a_ruleStart a_ruleLength a_ruleHost a_hostSent a_ycanon a_dec a_segS a_segL : Nat → Int32}
variable {L mu uc uch hc rc rch : Nat}
theorem cx_l31 {post : Int32 → Prop} {x : Int32} {n : Nat} (h1 : ∀ j, j < n → x = nI j → post 1) (h0 : (x < 0 ∨ nI n ≤ x) → post 0) (hn : n < 2 ^ 31) : wX_isListed_31 post x (nI n) f_maxUrls f_defaultDelay f_clock f_bufferLength f_canonLength f_canonHost f_canonHostLength f_canonPath f_schemePort f_partLength f_urlCount f_urlChars f_hostCount f_ruleCount f_ruleChars a_buffer a_canon a_part a_urlPool a_urlStart a_urlLength a_urlPath a_urlHost a_urlState a_urlTime a_names a_nameLength a_hostDelay a_hostNext a_rulePool a_ruleStart a_ruleLength a_ruleHost := by
  refine br_c (fun z => h0 (Or.inl z)) (fun z => br_c (fun z2 => h0 (Or.inr z2)) (fun z2 => ?_))
  rcases pk_ix x hn with y | y | ⟨j, hj, e⟩
  · exact absurd y z
  · exact absurd y z2
  · exact h1 j hj e
theorem cx_list0 {post : Int32 → Prop} {x : Int32} (h1 : ∀ j, j < uc → x = nI j → post 1) (h0 : (x < 0 ∨ nI uc ≤ x) → post 0) (hn : uc < 2 ^ 31) : wpX_isListed post (f_maxUrls, f_defaultDelay, f_clock, f_bufferLength, f_canonLength, f_canonHost, f_canonHostLength, f_canonPath, f_schemePort, f_partLength, nI uc, f_urlChars, f_hostCount, f_ruleCount, f_ruleChars, a_buffer, a_canon, a_part, a_urlPool, a_urlStart, a_urlLength, a_urlPath, a_urlHost, a_urlState, a_urlTime, a_names, a_nameLength, a_hostDelay, a_hostNext, a_rulePool, a_ruleStart, a_ruleLength, a_ruleHost) 0 x :=
  br_t rfl (br_f (by decide) (br_f (by decide) (cx_l31 h1 h0 hn)))
theorem cx_list1 {post : Int32 → Prop} {x : Int32} (h1 : ∀ j, j < hc → x = nI j → post 1) (h0 : (x < 0 ∨ nI hc ≤ x) → post 0) (hn : hc < 2 ^ 31) : wpX_isListed post (f_maxUrls, f_defaultDelay, f_clock, f_bufferLength, f_canonLength, f_canonHost, f_canonHostLength, f_canonPath, f_schemePort, f_partLength, f_urlCount, f_urlChars, nI hc, f_ruleCount, f_ruleChars, a_buffer, a_canon, a_part, a_urlPool, a_urlStart, a_urlLength, a_urlPath, a_urlHost, a_urlState, a_urlTime, a_names, a_nameLength, a_hostDelay, a_hostNext, a_rulePool, a_ruleStart, a_ruleLength, a_ruleHost) 1 x :=
  br_f (by decide) (br_t rfl (br_f (by decide) (cx_l31 h1 h0 hn)))
theorem cx_list2 {post : Int32 → Prop} {x : Int32} (h1 : ∀ j, j < rc → x = nI j → post 1) (h0 : (x < 0 ∨ nI rc ≤ x) → post 0) (hn : rc < 2 ^ 31) : wpX_isListed post (f_maxUrls, f_defaultDelay, f_clock, f_bufferLength, f_canonLength, f_canonHost, f_canonHostLength, f_canonPath, f_schemePort, f_partLength, f_urlCount, f_urlChars, f_hostCount, nI rc, f_ruleChars, a_buffer, a_canon, a_part, a_urlPool, a_urlStart, a_urlLength, a_urlPath, a_urlHost, a_urlState, a_urlTime, a_names, a_nameLength, a_hostDelay, a_hostNext, a_rulePool, a_ruleStart, a_ruleLength, a_ruleHost) 2 x :=
  br_f (by decide) (br_f (by decide) (br_t rfl (cx_l31 h1 h0 hn)))
theorem cx_listN {post : Int32 → Prop} {x y : Int32} (n0 : ¬ x = 0) (n1 : ¬ x = 1) (n2 : ¬ x = 2) (h0 : post 0) : wpX_isListed post (f_maxUrls, f_defaultDelay, f_clock, f_bufferLength, f_canonLength, f_canonHost, f_canonHostLength, f_canonPath, f_schemePort, f_partLength, f_urlCount, f_urlChars, f_hostCount, f_ruleCount, f_ruleChars, a_buffer, a_canon, a_part, a_urlPool, a_urlStart, a_urlLength, a_urlPath, a_urlHost, a_urlState, a_urlTime, a_names, a_nameLength, a_hostDelay, a_hostNext, a_rulePool, a_ruleStart, a_ruleLength, a_ruleHost) x y :=
  br_f n0 (br_f n1 (br_f n2 (cx_l31 (n := 0) (fun j hj _ => absurd hj (Nat.not_lt_zero j)) (fun _ => h0) (by omega))))
theorem cb_len {v1 v2 : Int32} (hU : cf_IU mu uc uch hc a_urlPool a_urlStart a_urlLength a_urlPath a_urlHost) (hH : cf_IH hc uc a_nameLength a_hostSent a_urlHost a_urlState) (hR : cf_IR rc rch a_ruleStart a_ruleLength) : ∃ r, ((v1 = 3 ∧ r = nI L) ∨ (v1 = 0 ∧ ∃ j s m, j < uc ∧ v2 = nI j ∧ a_urlStart j = nI s ∧ r = nI m ∧ s + m ≤ 256) ∨ (v1 = 1 ∧ ∃ j m, j < hc ∧ v2 = nI j ∧ r = nI m ∧ m ≤ 16) ∨ (v1 = 2 ∧ ∃ j s m, j < rc ∧ v2 = nI j ∧ a_ruleStart j = nI s ∧ r = nI m ∧ s + m ≤ 128) ∨ r = -1) ∧ (∀ post : Int32 → Prop, post r → wpX_textLength post (nI mu, f_defaultDelay, f_clock, nI L, f_canonLength, f_canonHost, f_canonHostLength, f_canonPath, f_schemePort, f_partLength, nI uc, nI uch, nI hc, nI rc, nI rch, a_buffer, a_canon, a_part, a_urlPool, a_urlStart, a_urlLength, a_urlPath, a_urlHost, a_urlState, a_urlTime, a_names, a_nameLength, a_hostDelay, a_hostNext, a_rulePool, a_ruleStart, a_ruleLength, a_ruleHost) v1 v2) ∧ (∀ post : Int32 → Prop, post r → wpY_textLength post (nI mu, f_defaultDelay, f_clock, nI L, nI uc, nI hc, nI rc, f_cLen, f_cHost, f_cHostLen, f_cPq, f_decLen, f_segN, a_buffer, a_urlPool, a_urlStart, a_urlLength, a_urlState, a_urlHost, a_urlTime, a_names, a_nameLength, a_hostDelay, a_hostNext, a_hostSent, a_rulePool, a_ruleStart, a_ruleLength, a_ruleHost, a_ycanon, a_dec, a_segS, a_segL) v1 v2) := by
  have h32 : uc ≤ 32 := Nat.le_trans hU.2.1 hU.1
  have h8 := hH.1
  have r8 := hR.1
  have u256 := hU.2.2.1
  have r128 := hR.2.1
  by_cases c3 : v1 = 3
  · subst c3
    exact ⟨nI L, Or.inl ⟨rfl, rfl⟩, fun post h => br_t rfl h, fun post h => br_t rfl h⟩
  by_cases c0 : v1 = 0
  · subst c0
    by_cases hj : ∃ j, j < uc ∧ v2 = nI j
    · obtain ⟨j, hj, rfl⟩ := hj
      obtain ⟨s, m, p, x, h, e1, e2, e3, e4, e5, e6, -⟩ := hU.2.2.2.2 j hj
      have d : a_urlLength (nI j).toNatClampNeg = nI m := cf_ix j rfl (by omega) e2
      refine ⟨nI m, Or.inr (Or.inl ⟨rfl, j, s, m, hj, rfl, e1, rfl, by omega⟩), fun post h => ?_, fun post h => ?_⟩
      · refine br_f (by decide) (cx_list0 (fun _ _ _ => br_f (by decide) (br_t rfl ⟨pk_in j 32 (by omega), ?_⟩)) (fun w => ?_) (by omega))
        · rw [d]; exact h
        · rcases w with w | w
          · exact absurd w (nI_pos (by omega))
          · exact absurd w (nI_ge hj (by omega))
      · refine br_f (by decide) (br_t rfl (br_f (nI_pos (by omega)) (br_f (nI_ge hj (by omega)) ⟨pk_in j 32 (by omega), ?_⟩)))
        rw [d]; exact h
    · have out : v2 < 0 ∨ nI uc ≤ v2 := by
        rcases pk_ix v2 (show uc < 2 ^ 31 by omega) with y | y | y
        · exact Or.inl y
        · exact Or.inr y
        · exact absurd y hj
      refine ⟨-1, Or.inr (Or.inr (Or.inr (Or.inr rfl))), fun post h => br_f (by decide) (cx_list0 (fun j h1 h2 => absurd ⟨j, h1, h2⟩ hj) (fun _ => br_t rfl h) (by omega)), fun post h => ?_⟩
      have nx : wY_textLength_33 post 0 v2 (nI mu) f_defaultDelay f_clock (nI L) (nI uc) (nI hc) (nI rc) f_cLen f_cHost f_cHostLen f_cPq f_decLen f_segN a_buffer a_urlPool a_urlStart a_urlLength a_urlState a_urlHost a_urlTime a_names a_nameLength a_hostDelay a_hostNext a_hostSent a_rulePool a_ruleStart a_ruleLength a_ruleHost a_ycanon a_dec a_segS a_segL := br_f (by decide) (br_f (by decide) h)
      refine br_f (by decide) (br_t rfl (br_c (fun _ => nx) (fun y => br_c (fun _ => nx) (fun y2 => ?_))))
      exact absurd (out.resolve_left y) y2
  by_cases c1 : v1 = 1
  · subst c1
    by_cases hj : ∃ j, j < hc ∧ v2 = nI j
    · obtain ⟨j, hj, rfl⟩ := hj
      obtain ⟨⟨m, hm, e2⟩, -⟩ := hH.2 j hj
      have d : a_nameLength (nI j).toNatClampNeg = nI m := cf_ix j rfl (by omega) e2
      refine ⟨nI m, Or.inr (Or.inr (Or.inl ⟨rfl, j, m, hj, rfl, rfl, hm⟩)), fun post h => ?_, fun post h => ?_⟩
      · refine br_f (by decide) (cx_list1 (fun _ _ _ => br_f (by decide) (br_f (by decide) (br_t rfl ⟨pk_in j 8 (by omega), ?_⟩))) (fun w => ?_) (by omega))
        · rw [d]; exact h
        · rcases w with w | w
          · exact absurd w (nI_pos (by omega))
          · exact absurd w (nI_ge hj (by omega))
      · refine br_f (by decide) (br_f (by decide) (br_t rfl (br_f (nI_pos (by omega)) (br_f (nI_ge hj (by omega)) ⟨pk_in j 8 (by omega), ?_⟩))))
        rw [d]; exact h
    · have out : v2 < 0 ∨ nI hc ≤ v2 := by
        rcases pk_ix v2 (show hc < 2 ^ 31 by omega) with y | y | y
        · exact Or.inl y
        · exact Or.inr y
        · exact absurd y hj
      refine ⟨-1, Or.inr (Or.inr (Or.inr (Or.inr rfl))), fun post h => br_f (by decide) (cx_list1 (fun j h1 h2 => absurd ⟨j, h1, h2⟩ hj) (fun _ => br_t rfl h) (by omega)), fun post h => ?_⟩
      have nx : wY_textLength_57 post 1 v2 (nI mu) f_defaultDelay f_clock (nI L) (nI uc) (nI hc) (nI rc) f_cLen f_cHost f_cHostLen f_cPq f_decLen f_segN a_buffer a_urlPool a_urlStart a_urlLength a_urlState a_urlHost a_urlTime a_names a_nameLength a_hostDelay a_hostNext a_hostSent a_rulePool a_ruleStart a_ruleLength a_ruleHost a_ycanon a_dec a_segS a_segL := br_f (by decide) h
      refine br_f (by decide) (br_f (by decide) (br_t rfl (br_c (fun _ => nx) (fun y => br_c (fun _ => nx) (fun y2 => ?_)))))
      exact absurd (out.resolve_left y) y2
  by_cases c2 : v1 = 2
  · subst c2
    by_cases hj : ∃ j, j < rc ∧ v2 = nI j
    · obtain ⟨j, hj, rfl⟩ := hj
      obtain ⟨s, m, e1, e2, e3⟩ := hR.2.2.2 j hj
      have d : a_ruleLength (nI j).toNatClampNeg = nI m := cf_ix j rfl (by omega) e2
      refine ⟨nI m, Or.inr (Or.inr (Or.inr (Or.inl ⟨rfl, j, s, m, hj, rfl, e1, rfl, by omega⟩))), fun post h => ?_, fun post h => ?_⟩
      · refine br_f (by decide) (cx_list2 (fun _ _ _ => br_f (by decide) (br_f (by decide) (br_f (by decide) ⟨pk_in j 8 (by omega), ?_⟩))) (fun w => ?_) (by omega))
        · rw [d]; exact h
        · rcases w with w | w
          · exact absurd w (nI_pos (by omega))
          · exact absurd w (nI_ge hj (by omega))
      · refine br_f (by decide) (br_f (by decide) (br_f (by decide) (br_t rfl (br_f (nI_pos (by omega)) (br_f (nI_ge hj (by omega)) ⟨pk_in j 8 (by omega), ?_⟩)))))
        rw [d]; exact h
    · have out : v2 < 0 ∨ nI rc ≤ v2 := by
        rcases pk_ix v2 (show rc < 2 ^ 31 by omega) with y | y | y
        · exact Or.inl y
        · exact Or.inr y
        · exact absurd y hj
      refine ⟨-1, Or.inr (Or.inr (Or.inr (Or.inr rfl))), fun post h => br_f (by decide) (cx_list2 (fun j h1 h2 => absurd ⟨j, h1, h2⟩ hj) (fun _ => br_t rfl h) (by omega)), fun post h => ?_⟩
      refine br_f (by decide) (br_f (by decide) (br_f (by decide) (br_t rfl (br_c (fun _ => h) (fun y => br_c (fun _ => h) (fun y2 => ?_))))))
      exact absurd (out.resolve_left y) y2
  exact ⟨-1, Or.inr (Or.inr (Or.inr (Or.inr rfl))), fun post h => br_f c3 (cx_listN c0 c1 c2 (br_t rfl h)), fun post h => br_f c3 (br_f c0 (br_f c1 (br_f c2 h)))⟩
end
theorem i_vc_textLength {k : Nat} {u : SX} {v : SY} (I : i_Rel k u v) (hk : k + 5 ≤ 2562) (v1 : Int32) (v2 : Int32) : wpX_textLength (fun r => wpY_textLength (fun r' => r' = r ∧ i_Rel (k + 5) u v) v v1 v2) u v1 v2 := by
  obtain ⟨L, mu, uc, uch, hc, rc, rch, f_defaultDelay, f_clock, f_canonLength, f_canonHost, f_canonHostLength, f_canonPath, f_schemePort, f_partLength, f_cLen, f_cHost, f_cHostLen, f_cPq, f_decLen, f_segN, a_buffer, a_canon, a_part, a_urlPool, a_urlStart, a_urlLength, a_urlPath, a_urlHost, a_urlState, a_urlTime, a_names, a_nameLength, a_hostDelay, a_hostNext, a_rulePool, a_ruleStart, a_ruleLength, a_ruleHost, a_hostSent, a_ycanon, a_dec, a_segS, a_segL, rfl, rfl, hL, hB, hU, hH, hR⟩ := I
  obtain ⟨r, -, hX, hY⟩ := cb_len (v1 := v1) (v2 := v2) (L := L) hU hH hR
  exact hX _ (hY _ ⟨rfl, cb_rel hL hB hU hH hR⟩)
end
section
/-! textChar and info on both sides (made by mk43.py) -/
theorem i_vc_textChar {k : Nat} {u : SX} {v : SY} (I : i_Rel k u v) (hk : k + 5 ≤ 2562) (v1 : Int32) (v2 : Int32) (v3 : Int32) : wpX_textChar (fun r => wpY_textChar (fun r' => r' = r ∧ i_Rel (k + 5) u v) v v1 v2 v3) u v1 v2 v3 := by
  obtain ⟨L, mu, uc, uch, hc, rc, rch, f_defaultDelay, f_clock, f_canonLength, f_canonHost, f_canonHostLength, f_canonPath, f_schemePort, f_partLength, f_cLen, f_cHost, f_cHostLen, f_cPq, f_decLen, f_segN, a_buffer, a_canon, a_part, a_urlPool, a_urlStart, a_urlLength, a_urlPath, a_urlHost, a_urlState, a_urlTime, a_names, a_nameLength, a_hostDelay, a_hostNext, a_rulePool, a_ruleStart, a_ruleLength, a_ruleHost, a_hostSent, a_ycanon, a_dec, a_segS, a_segL, rfl, rfl, hL, hB, hU, hH, hR⟩ := I
  have h32 : uc ≤ 32 := Nat.le_trans hU.2.1 hU.1
  have h8 := hH.1
  have r8 := hR.1
  obtain ⟨r, info, hX, hY⟩ := cb_len (v1 := v1) (v2 := v2) (L := L) hU hH hR
  unfold wpX_textChar wpY_textChar
  dsimp only
  refine hX _ ?_
  have neg : v3 < 0 → ∀ (A B C : Prop), A → (v3 < 0 → A) ∧ (¬ v3 < 0 → B) := fun z A B _ a => br_t z a
  by_cases z0 : v3 < 0
  · refine br_t z0 (hY _ ?_)
    exact br_c (fun _ => ⟨rfl, cb_rel hL hB hU hH hR⟩) (fun _ => br_t z0 ⟨rfl, cb_rel hL hB hU hH hR⟩)
  by_cases z1 : v3 < r
  rotate_left
  · refine br_f z0 (br_f z1 (hY _ ?_))
    exact br_c (fun _ => ⟨rfl, cb_rel hL hB hU hH hR⟩) (fun _ => br_f z0 (br_f z1 ⟨rfl, cb_rel hL hB hU hH hR⟩))
  refine br_f z0 (br_t z1 ?_)
  obtain ⟨i, hi, rfl⟩ := nI_of z0
  have lt : ∀ m, m ≤ 300 → r = nI m → i < m := by
    intro m hm e
    rw [e, nI_ltI hi (by omega)] at z1
    exact z1
  have rn : ∀ m, m ≤ 300 → r = nI m → ¬ r < 0 := by
    intro m hm e
    rw [e]
    exact nI_pos (by omega)
  rcases info with ⟨rfl, e⟩ | ⟨rfl, j, s, m, hj, rfl, e1, e, hb⟩ | ⟨rfl, j, m, hj, rfl, e, hb⟩ | ⟨rfl, j, s, m, hj, rfl, e1, e, hb⟩ | e
  · have il := lt L (by omega) e
    exact br_t rfl ⟨pk_in i 48 (by omega), hY _ (br_f (rn L (by omega) e) (br_f z0 (br_t z1 (br_f (by decide) (br_f (by decide) (br_f (by decide) ⟨pk_in i 48 (by omega), rfl, cb_rel hL hB hU hH hR⟩))))))⟩
  · have il := lt m (by omega) e
    have d : a_urlStart (nI j).toNatClampNeg + nI i = nI (s + i) := by rw [cf_ix j rfl (by omega) e1, nI_add]
    exact br_f (by decide) (br_t rfl ⟨pk_in j 32 (by omega), pk_in (s + i) 256 (by omega) d, hY _ (br_f (rn m (by omega) e) (br_f z0 (br_t z1 (br_t rfl ⟨pk_in j 32 (by omega), pk_in (s + i) 256 (by omega) d, rfl, cb_rel hL hB hU hH hR⟩))))⟩)
  · have il := lt m (by omega) e
    have d : nI j * 16 + nI i = nI (j * 16 + i) := (congrArg (fun z => z + nI i) (pk_mul j 16)).trans (nI_add _ _)
    exact br_f (by decide) (br_f (by decide) (br_t rfl ⟨pk_in (j * 16 + i) 128 (by omega) d, hY _ (br_f (rn m (by omega) e) (br_f z0 (br_t z1 (br_f (by decide) (br_t rfl ⟨pk_in (j * 16 + i) 128 (by omega) d, rfl, cb_rel hL hB hU hH hR⟩)))))⟩))
  · have il := lt m (by omega) e
    have d : a_ruleStart (nI j).toNatClampNeg + nI i = nI (s + i) := by rw [cf_ix j rfl (by omega) e1, nI_add]
    exact br_f (by decide) (br_f (by decide) (br_f (by decide) ⟨pk_in j 8 (by omega), pk_in (s + i) 128 (by omega) d, hY _ (br_f (rn m (by omega) e) (br_f z0 (br_t z1 (br_f (by decide) (br_f (by decide) (br_t rfl ⟨pk_in j 8 (by omega), pk_in (s + i) 128 (by omega) d, rfl, cb_rel hL hB hU hH hR⟩))))))⟩))
  · rw [e] at z1
    exact absurd (Int32.lt_trans z1 cf_m0) z0
theorem i_vc_info {k : Nat} {u : SX} {v : SY} (I : i_Rel k u v) (hk : k + 5 ≤ 2562) (v1 : Int32) (v2 : Int32) (v3 : Int32) : wpX_info (fun r => wpY_info (fun r' => r' = r ∧ i_Rel (k + 5) u v) v v1 v2 v3) u v1 v2 v3 := by
  obtain ⟨L, mu, uc, uch, hc, rc, rch, f_defaultDelay, f_clock, f_canonLength, f_canonHost, f_canonHostLength, f_canonPath, f_schemePort, f_partLength, f_cLen, f_cHost, f_cHostLen, f_cPq, f_decLen, f_segN, a_buffer, a_canon, a_part, a_urlPool, a_urlStart, a_urlLength, a_urlPath, a_urlHost, a_urlState, a_urlTime, a_names, a_nameLength, a_hostDelay, a_hostNext, a_rulePool, a_ruleStart, a_ruleLength, a_ruleHost, a_hostSent, a_ycanon, a_dec, a_segS, a_segL, rfl, rfl, hL, hB, hU, hH, hR⟩ := I
  have h32 : uc ≤ 32 := Nat.le_trans hU.2.1 hU.1
  have h8 := hH.1
  have r8 := hR.1
  have J : ∀ k, i_Rel k (nI mu, f_defaultDelay, f_clock, nI L, f_canonLength, f_canonHost, f_canonHostLength, f_canonPath, f_schemePort, f_partLength, nI uc, nI uch, nI hc, nI rc, nI rch, a_buffer, a_canon, a_part, a_urlPool, a_urlStart, a_urlLength, a_urlPath, a_urlHost, a_urlState, a_urlTime, a_names, a_nameLength, a_hostDelay, a_hostNext, a_rulePool, a_ruleStart, a_ruleLength, a_ruleHost) (nI mu, f_defaultDelay, f_clock, nI L, nI uc, nI hc, nI rc, f_cLen, f_cHost, f_cHostLen, f_cPq, f_decLen, f_segN, a_buffer, a_urlPool, a_urlStart, a_urlLength, a_urlState, a_urlHost, a_urlTime, a_names, a_nameLength, a_hostDelay, a_hostNext, a_hostSent, a_rulePool, a_ruleStart, a_ruleLength, a_ruleHost, a_ycanon, a_dec, a_segS, a_segL) := fun k => cb_rel hL hB hU hH hR
  unfold wpX_info wpY_info
  dsimp only
  by_cases c0 : v1 = 0
  · subst c0
    refine cx_list0 (fun j hj e => ?_) (fun out => br_t rfl ?_) (by omega)
    · subst e
      have vi : vp_in (nI j) 32 := pk_in j 32 (by omega)
      refine br_f (by decide) (br_t rfl ?_)
      have y0 : ∀ {A B C : Prop}, C → (nI j < 0 → A) ∧ (¬ nI j < 0 → ((nI uc ≤ nI j → B) ∧ (¬ nI uc ≤ nI j → C))) := fun c => br_f (nI_pos (by omega)) (br_f (nI_ge hj (by omega)) c)
      by_cases f0 : v3 = 0
      · subst f0
        exact br_f (by decide) (br_f (by decide) (br_t rfl ⟨vi, br_t rfl (y0 (br_t rfl ⟨vi, rfl, J _⟩))⟩))
      by_cases f1 : v3 = 1
      · subst f1
        exact br_f (by decide) (br_f (by decide) (br_f (by decide) (br_t rfl ⟨vi, br_t rfl (y0 (br_f (by decide) (br_t rfl ⟨vi, rfl, J _⟩)))⟩)))
      by_cases f2 : v3 = 2
      · subst f2
        exact br_f (by decide) (br_f (by decide) (br_f (by decide) (br_f (by decide) (br_t rfl ⟨vi, br_t rfl (y0 (br_f (by decide) (br_f (by decide) (br_t rfl ⟨vi, rfl, J _⟩))))⟩))))
      exact br_c (fun _ => br_t rfl (y0 (br_f f0 (br_f f1 (br_f f2 ⟨rfl, J _⟩))))) (fun _ => br_c (fun _ => br_t rfl (y0 (br_f f0 (br_f f1 (br_f f2 ⟨rfl, J _⟩))))) (fun _ => br_f f0 (br_f f1 (br_f f2 trivial))))
    · refine br_t rfl (br_c (fun _ => ?_) (fun y => br_c (fun _ => ?_) (fun y2 => absurd (out.resolve_left y) y2)))
      · exact br_f (by decide) (br_f (by decide) ⟨rfl, J _⟩)
      · exact br_f (by decide) (br_f (by decide) ⟨rfl, J _⟩)
  by_cases c1 : v1 = 1
  · subst c1
    refine cx_list1 (fun j hj e => ?_) (fun out => br_t rfl ?_) (by omega)
    · subst e
      have vi : vp_in (nI j) 8 := pk_in j 8 (by omega)
      have es := (hH.2 j hj).2
      refine br_f (by decide) (br_f (by decide) (br_t rfl ?_))
      have y0 : ∀ {A B C : Prop}, C → (nI j < 0 → A) ∧ (¬ nI j < 0 → ((nI hc ≤ nI j → B) ∧ (¬ nI hc ≤ nI j → C))) := fun c => br_f (nI_pos (by omega)) (br_f (nI_ge hj (by omega)) c)
      by_cases f3 : v3 = 3
      · subst f3
        exact br_f (by decide) (br_f (by decide) (br_t rfl (cx_urlsOf h32 (br_f (by decide) (br_t rfl (y0 (br_t rfl (cy_queuedOf h32 ⟨rfl, J _⟩))))))))
      by_cases f4 : v3 = 4
      · subst f4
        exact br_f (by decide) (br_f (by decide) (br_f (by decide) (br_t rfl ⟨vi, br_f (by decide) (br_t rfl (y0 (br_f (by decide) (br_t rfl ⟨vi, rfl, J _⟩))))⟩)))
      by_cases f5 : v3 = 5
      · subst f5
        exact br_f (by decide) (br_f (by decide) (br_f (by decide) (br_f (by decide) (br_t rfl ⟨vi, br_f (by decide) (br_t rfl (y0 (br_f (by decide) (br_f (by decide) (br_t rfl ⟨vi, rfl, J _⟩)))))⟩))))
      by_cases f6 : v3 = 6
      · subst f6
        exact br_f (by decide) (br_f (by decide) (br_f (by decide) (br_f (by decide) (br_f (by decide) (br_t rfl (cx_urlsOf h32 (br_f (by decide) (br_t rfl (y0 (br_f (by decide) (br_f (by decide) (br_f (by decide) (br_t rfl ⟨vi, cf_ix j rfl (by omega) es, J _⟩)))))))))))))
      have ny : wY_info_53 (fun r' => r' = -1 ∧ i_Rel (k + 5) (nI mu, f_defaultDelay, f_clock, nI L, f_canonLength, f_canonHost, f_canonHostLength, f_canonPath, f_schemePort, f_partLength, nI uc, nI uch, nI hc, nI rc, nI rch, a_buffer, a_canon, a_part, a_urlPool, a_urlStart, a_urlLength, a_urlPath, a_urlHost, a_urlState, a_urlTime, a_names, a_nameLength, a_hostDelay, a_hostNext, a_rulePool, a_ruleStart, a_ruleLength, a_ruleHost) (nI mu, f_defaultDelay, f_clock, nI L, nI uc, nI hc, nI rc, f_cLen, f_cHost, f_cHostLen, f_cPq, f_decLen, f_segN, a_buffer, a_urlPool, a_urlStart, a_urlLength, a_urlState, a_urlHost, a_urlTime, a_names, a_nameLength, a_hostDelay, a_hostNext, a_hostSent, a_rulePool, a_ruleStart, a_ruleLength, a_ruleHost, a_ycanon, a_dec, a_segS, a_segL)) 1 (nI j) v3 (nI mu) f_defaultDelay f_clock (nI L) (nI uc) (nI hc) (nI rc) f_cLen f_cHost f_cHostLen f_cPq f_decLen f_segN a_buffer a_urlPool a_urlStart a_urlLength a_urlState a_urlHost a_urlTime a_names a_nameLength a_hostDelay a_hostNext a_hostSent a_rulePool a_ruleStart a_ruleLength a_ruleHost a_ycanon a_dec a_segS a_segL := br_t rfl (y0 (br_f f3 (br_f f4 (br_f f5 (br_f f6 ⟨rfl, J _⟩)))))
      exact br_c (fun _ => br_f (by decide) ny) (fun _ => br_c (fun _ => br_f (by decide) ny) (fun _ => br_f f3 (br_f f4 (br_f f5 (br_f f6 trivial)))))
    · refine br_f (by decide) (br_t rfl (br_c (fun _ => ?_) (fun y => br_c (fun _ => ?_) (fun y2 => absurd (out.resolve_left y) y2))))
      · exact br_f (by decide) ⟨rfl, J _⟩
      · exact br_f (by decide) ⟨rfl, J _⟩
  by_cases c2 : v1 = 2
  · subst c2
    refine cx_list2 (fun j hj e => ?_) (fun out => br_t rfl ?_) (by omega)
    · subst e
      have vi : vp_in (nI j) 8 := pk_in j 8 (by omega)
      have y0 : ∀ {A B C : Prop}, C → (nI j < 0 → A) ∧ (¬ nI j < 0 → ((nI rc ≤ nI j → B) ∧ (¬ nI rc ≤ nI j → C))) := fun c => br_f (nI_pos (by omega)) (br_f (nI_ge hj (by omega)) c)
      refine br_f (by decide) (br_f (by decide) (br_f (by decide) (br_c (fun f1 => ⟨vi, ?_⟩) (fun f1 => ?_))))
      · exact br_f (by decide) (br_f (by decide) (br_t rfl (y0 (br_t f1 ⟨vi, rfl, J _⟩))))
      · exact br_f (by decide) (br_f (by decide) (br_t rfl (y0 (br_f f1 ⟨rfl, J _⟩))))
    · exact br_f (by decide) (br_f (by decide) (br_t rfl (br_c (fun _ => ⟨rfl, J _⟩) (fun y => br_c (fun _ => ⟨rfl, J _⟩) (fun y2 => absurd (out.resolve_left y) y2)))))
  exact cx_listN c0 c1 c2 (br_t rfl (br_f c0 (br_f c1 (br_f c2 ⟨rfl, J _⟩))))
end
section
/-! the last of the owed statements -/
theorem i_up {k : Nat} {u : SX} {v : SY} (h : i_Rel k u v) : i_Rel (k + 5) u v := h
theorem i_vc_clear {k : Nat} {u : SX} {v : SY} (I : i_Rel k u v) (hk : k + 5 ≤ 2562) : wpX_clear (fun u' => wpY_clear (fun v' => i_Rel (k + 5) u' v') v) u := by
  obtain ⟨L, mu, uc, uch, hc, rc, rch, f_defaultDelay, f_clock, f_canonLength, f_canonHost, f_canonHostLength, f_canonPath, f_schemePort, f_partLength, f_cLen, f_cHost, f_cHostLen, f_cPq, f_decLen, f_segN, a_buffer, a_canon, a_part, a_urlPool, a_urlStart, a_urlLength, a_urlPath, a_urlHost, a_urlState, a_urlTime, a_names, a_nameLength, a_hostDelay, a_hostNext, a_rulePool, a_ruleStart, a_ruleLength, a_ruleHost, a_hostSent, a_ycanon, a_dec, a_segS, a_segL, rfl, rfl, hL, hB, hU, hH, hR⟩ := I
  exact cb_rel (k := k + 5) (L := 0) (by omega) hB hU hH hR
end
