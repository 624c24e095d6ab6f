/-! dot segments -/
def cf_st (dd : Nat → Nat) (n i s : Nat) (g : List (Nat × Nat)) : List (Nat × Nat) :=
  if i - s = 1 ∧ dd s = 46 then (if i = n then g ++ [(s, 0)] else g)
  else if i - s = 2 ∧ dd s = 46 ∧ dd (s + 1) = 46 then (if i = n then g.take (g.length - 1) ++ [(s, 0)] else g.take (g.length - 1))
  else g ++ [(s, i - s)]
def cf_sg (dd : Nat → Nat) (n : Nat) : Nat → Nat → Nat → List (Nat × Nat) → List (Nat × Nat)
  | 0, _, _, g => g
  | d + 1, i, s, g => if i < n ∧ dd i ≠ 47 then cf_sg dd n d (i + 1) s g else cf_sg dd n d (i + 1) (i + 1) (cf_st dd n i s g)
theorem cf_sgC {dd : Nat → Nat} {n d i s : Nat} {g : List (Nat × Nat)} (h : i < n ∧ dd i ≠ 47) : cf_sg dd n (d + 1) i s g = cf_sg dd n d (i + 1) s g := by
  rw [cf_sg, if_pos h]
theorem cf_sgS {dd : Nat → Nat} {n d i s : Nat} {g : List (Nat × Nat)} (h : ¬ (i < n ∧ dd i ≠ 47)) : cf_sg dd n (d + 1) i s g = cf_sg dd n d (i + 1) (i + 1) (cf_st dd n i s g) := by
  rw [cf_sg, if_neg h]
def cf_fl (dd : Nat → Nat) (g : List (Nat × Nat)) : List Nat := g.flatMap (fun p => 47 :: cf_sb dd p.1 p.2)
theorem cf_flA (dd : Nat → Nat) (g h : List (Nat × Nat)) : cf_fl dd (g ++ h) = cf_fl dd g ++ cf_fl dd h := by
  unfold cf_fl
  rw [List.flatMap_append]
theorem cf_fl1 (dd : Nat → Nat) (p : Nat × Nat) : cf_fl dd [p] = 47 :: cf_sb dd p.1 p.2 := by
  unfold cf_fl
  rw [List.flatMap_cons, List.flatMap_nil, List.append_nil]
theorem cf_fla (dd : Nat → Nat) (g : List (Nat × Nat)) (p : Nat × Nat) : cf_fl dd (g ++ [p]) = cf_fl dd g ++ (47 :: cf_sb dd p.1 p.2) := by
  rw [cf_flA, cf_fl1]
theorem cf_flT (dd : Nat → Nat) (g : List (Nat × Nat)) (k : Nat) : (cf_fl dd (g.take k)).length ≤ (cf_fl dd g).length := by
  have e : cf_fl dd g = cf_fl dd (g.take k) ++ cf_fl dd (g.drop k) := by
    rw [← cf_flA, List.take_append_drop]
  rw [e, List.length_append]
  omega
theorem cf_flG (dd : Nat → Nat) : ∀ g : List (Nat × Nat), g.length ≤ (cf_fl dd g).length
  | [] => Nat.zero_le _
  | p :: r => by
    have a := cf_flG dd r
    have e : cf_fl dd (p :: r) = cf_fl dd [p] ++ cf_fl dd r := cf_flA dd [p] r
    rw [e, List.length_append, cf_fl1, List.length_cons, List.length_cons]
    omega
theorem cf_tkL {g : List (Nat × Nat)} (h : g ≠ []) : ∃ p, p ∈ g ∧ g = g.take (g.length - 1) ++ [p] := by
  refine ⟨g.getLast h, List.getLast_mem h, ?_⟩
  have e := List.dropLast_concat_getLast h
  rw [List.dropLast_eq_take] at e
  exact e.symm
def cf_G (dd : Nat → Nat) (n s : Nat) (g : List (Nat × Nat)) : Prop := (cf_fl dd g).length + 1 ≤ s ∧ ∀ p, p ∈ g → p.1 + p.2 ≤ n ∧ ∀ j, j < p.2 → dd (p.1 + j) ≠ 47
theorem cf_Gm {dd : Nat → Nat} {n s s' : Nat} {g : List (Nat × Nat)} (h : cf_G dd n s g) (hs : s ≤ s') : cf_G dd n s' g := ⟨by have := h.1; omega, h.2⟩
theorem cf_Gt {dd : Nat → Nat} {n s : Nat} {g : List (Nat × Nat)} (h : cf_G dd n s g) (k : Nat) : cf_G dd n s (g.take k) :=
  ⟨by have := h.1; have := cf_flT dd g k; omega, fun p hp => h.2 p (List.mem_of_mem_take hp)⟩
theorem cf_Ga {dd : Nat → Nat} {n s s' : Nat} {g : List (Nat × Nat)} {p : Nat × Nat} (h : cf_G dd n s g) (hs : s + p.2 + 1 ≤ s') (hp : p.1 + p.2 ≤ n) (hj : ∀ j, j < p.2 → dd (p.1 + j) ≠ 47) : cf_G dd n s' (g ++ [p]) := by
  refine ⟨?_, fun q hq => ?_⟩
  · have := h.1
    rw [cf_fla, List.length_append, List.length_cons, cf_sbL]
    omega
  · rcases List.mem_append.mp hq with z | z
    · exact h.2 q z
    · rw [List.mem_singleton.mp z]
      exact ⟨hp, hj⟩
theorem cf_Gs {dd : Nat → Nat} {n i s : Nat} {g : List (Nat × Nat)} (h : cf_G dd n s g) (hs : s ≤ i) (hi : i ≤ n) (hj : ∀ j, s ≤ j → j < i → dd j ≠ 47) : cf_G dd n (i + 1) (cf_st dd n i s g) := by
  unfold cf_st
  split
  · split
    · exact cf_Ga h (by show s + 0 + 1 ≤ i + 1; omega) (by show s + 0 ≤ n; omega) (fun j z => absurd z (Nat.not_lt_zero j))
    · exact cf_Gm h (by omega)
  · split
    · split
      · exact cf_Ga (cf_Gt h _) (by show s + 0 + 1 ≤ i + 1; omega) (by show s + 0 ≤ n; omega) (fun j z => absurd z (Nat.not_lt_zero j))
      · exact cf_Gm (cf_Gt h _) (by omega)
    · refine cf_Ga h (by show s + (i - s) + 1 ≤ i + 1; omega) (by show s + (i - s) ≤ n; omega) (fun j z => ?_)
      have z' : j < i - s := z
      exact hj (s + j) (by omega) (by omega)
theorem cf_sgG {dd : Nat → Nat} {n : Nat} : ∀ d i s g, i + d = n + 1 → s ≤ i → (∀ j, s ≤ j → j < i → dd j ≠ 47) → cf_G dd n s g → cf_G dd n (n + 1) (cf_sg dd n d i s g) := by
  intro d
  induction d with
  | zero => intro i s g hd hs hj h; exact cf_Gm h (by omega)
  | succ d ih =>
    intro i s g hd hs hj h
    by_cases c : i < n ∧ dd i ≠ 47
    · rw [cf_sgC c]
      refine ih (i + 1) s g (by omega) (by omega) (fun j h1 h2 => ?_) h
      rcases Nat.lt_or_ge j i with z | z
      · exact hj j h1 z
      · have e : j = i := by omega
        rw [e]; exact c.2
    · rw [cf_sgS c]
      exact ih (i + 1) (i + 1) _ (by omega) (Nat.le_refl _) (fun j h1 h2 => by omega) (cf_Gs h hs (by omega) hj)
theorem cf_stN (dd : Nat → Nat) (n s : Nat) (g : List (Nat × Nat)) : cf_st dd n n s g ≠ [] := by
  unfold cf_st
  split
  · rw [if_pos rfl]; simp
  · split
    · rw [if_pos rfl]; simp
    · simp
theorem cf_sgN {dd : Nat → Nat} {n : Nat} : ∀ d i s g, i + d = n + 1 → i ≤ n → cf_sg dd n d i s g ≠ [] := by
  intro d
  induction d with
  | zero => intro i s g hd hi; omega
  | succ d ih =>
    intro i s g hd hi
    by_cases c : i < n ∧ dd i ≠ 47
    · rw [cf_sgC c]
      exact ih (i + 1) s g (by omega) (by omega)
    · rw [cf_sgS c]
      rcases Nat.lt_or_ge i n with z | z
      · exact ih (i + 1) (i + 1) _ (by omega) (by omega)
      · have e : d = 0 := by omega
        have e2 : i = n := by omega
        subst e; subst e2
        exact cf_stN dd i s g
def cf_pt (dd : Nat → Nat) : List (Nat × Nat) → List Nat
  | [] => [47]
  | p :: r => cf_fl dd (p :: r)
theorem cf_ptN {dd : Nat → Nat} {g : List (Nat × Nat)} (h : g ≠ []) : cf_pt dd g = cf_fl dd g := by
  cases g with
  | nil => exact absurd rfl h
  | cons p r => rfl
theorem cf_ptH (dd : Nat → Nat) (g : List (Nat × Nat)) : ∃ r, cf_pt dd g = 47 :: r := by
  cases g with
  | nil => exact ⟨[], rfl⟩
  | cons p r =>
    refine ⟨cf_sb dd p.1 p.2 ++ cf_fl dd r, ?_⟩
    show cf_fl dd ([p] ++ r) = _
    rw [cf_flA, cf_fl1]
    rfl
def cf_gs (D : List Nat) : List (Nat × Nat) := cf_sg (cf_dD D) D.length D.length 1 1 []
def cf_pa (D : List Nat) : List Nat := cf_pt (cf_dD D) (cf_gs D)
theorem cf_G0 (dd : Nat → Nat) (n : Nat) : cf_G dd n 1 [] := ⟨Nat.le_refl 1, fun p hp => by cases hp⟩
theorem cf_gsG (D : List Nat) : cf_G (cf_dD D) D.length (D.length + 1) (cf_gs D) :=
  cf_sgG D.length 1 1 [] (by omega) (Nat.le_refl 1) (fun j h1 h2 => by omega) (cf_G0 _ _)
theorem cf_gs0 : cf_gs [] = [] := rfl
theorem cf_gsN {D : List Nat} (h : 0 < D.length) : cf_gs D ≠ [] := cf_sgN D.length 1 1 [] (by omega) h
theorem cf_paL (D : List Nat) : (cf_pa D).length ≤ D.length + 1 ∧ (0 < D.length → (cf_pa D).length ≤ D.length) := by
  have a := (cf_gsG D).1
  rcases Nat.eq_zero_or_pos D.length with z | z
  · have e : D = [] := List.eq_nil_of_length_eq_zero z
    subst e
    exact ⟨Nat.le_refl 1, fun h => absurd h (Nat.lt_irrefl 0)⟩
  · have e : cf_pa D = cf_fl (cf_dD D) (cf_gs D) := cf_ptN (cf_gsN z)
    rw [e]
    exact ⟨by omega, fun _ => by omega⟩
/-! the port -/
def cf_pv (t : Nat → Nat) (f : Nat) : Nat → Nat
  | 0 => 0
  | d + 1 => cf_pv t f d * 10 + (t (f + d) - 48)
theorem cf_pvB {t : Nat → Nat} {f : Nat} : ∀ d, (∀ j, j < d → t (f + j) ≤ 57) → cf_pv t f d < 10 ^ d
  | 0, _ => Nat.zero_lt_one
  | d + 1, h => by
    have a := cf_pvB d (fun j hj => h j (by omega))
    have b := h d (by omega)
    rw [cf_pv, Nat.pow_succ]
    omega
def cf_dg : Nat → Nat → List Nat
  | 0, v => [48 + v % 10]
  | m + 1, v => (48 + v / 10 ^ (m + 1) % 10) :: cf_dg m v
def cf_dy : Nat → Nat → List Nat
  | 0, v => [48 + v % 10]
  | m + 1, v => (if 10 ^ (m + 1) ≤ v then [48 + v / 10 ^ (m + 1) % 10] else []) ++ cf_dy m v
theorem cf_dyT {m v : Nat} (h : 10 ^ (m + 1) ≤ v) : cf_dy (m + 1) v = (48 + v / 10 ^ (m + 1) % 10) :: cf_dy m v := by
  rw [cf_dy, if_pos h]; rfl
theorem cf_dyF {m v : Nat} (h : ¬ 10 ^ (m + 1) ≤ v) : cf_dy (m + 1) v = cf_dy m v := by
  rw [cf_dy, if_neg h]; rfl
theorem cf_dgL : ∀ m v, (cf_dg m v).length = m + 1
  | 0, _ => rfl
  | m + 1, v => by rw [cf_dg, List.length_cons, cf_dgL m v]
theorem cf_dyg : ∀ m v, (m = 0 ∨ 10 ^ m ≤ v) → cf_dy m v = cf_dg m v
  | 0, _, _ => rfl
  | m + 1, v, h => by
    have h1 : 10 ^ (m + 1) ≤ v := h.resolve_left (by omega)
    have h2 : 10 ^ m ≤ 10 ^ (m + 1) := Nat.pow_le_pow_right (by decide) (by omega)
    rw [cf_dyT h1, cf_dyg m v (Or.inr (Nat.le_trans h2 h1)), cf_dg]
theorem cf_dyd : ∀ m j v, j ≤ m → v < 10 ^ (j + 1) → cf_dy m v = cf_dy j v
  | 0, j, v, h, _ => by rw [show j = 0 by omega]
  | m + 1, j, v, h, hv => by
    rcases Nat.lt_or_ge j (m + 1) with z | z
    · have h2 : 10 ^ (j + 1) ≤ 10 ^ (m + 1) := Nat.pow_le_pow_right (by decide) (by omega)
      rw [cf_dyF (by omega)]
      exact cf_dyd m j v (by omega) hv
    · rw [show j = m + 1 by omega]
theorem cf_dyL : ∀ m d v, 1 ≤ d → v < 10 ^ d → (cf_dy m v).length ≤ d
  | 0, d, v, h, _ => h
  | m + 1, d, v, h, hv => by
    by_cases c : 10 ^ (m + 1) ≤ v
    · rw [cf_dyg (m + 1) v (Or.inr c), cf_dgL]
      rcases Nat.lt_or_ge (m + 1) d with z | z
      · omega
      · have h2 : 10 ^ d ≤ 10 ^ (m + 1) := Nat.pow_le_pow_right (by decide) z
        omega
    · rw [cf_dyF c]
      exact cf_dyL m d v h hv
theorem cf_dyM : ∀ m v c, c ∈ cf_dy m v → 48 ≤ c ∧ c ≤ 57
  | 0, v, c, h => by
    rw [List.mem_singleton.mp h]
    omega
  | m + 1, v, c, h => by
    by_cases z : 10 ^ (m + 1) ≤ v
    · rw [cf_dyT z] at h
      rcases List.mem_cons.mp h with e | e
      · rw [e]
        have := Nat.mod_lt (v / 10 ^ (m + 1)) (show 0 < 10 by decide)
        omega
      · exact cf_dyM m v c e
    · rw [cf_dyF z] at h
      exact cf_dyM m v c h
/-! what the buffer's text is -/
def cf_Sch (t : Nat → Nat) (L c : Nat) : Prop := (c = 4 ∨ c = 5) ∧ c + 2 < L ∧ cf_lo (t 0) = 104 ∧ cf_lo (t 1) = 116 ∧ cf_lo (t 2) = 116 ∧ cf_lo (t 3) = 112 ∧ (c = 5 → cf_lo (t 4) = 115) ∧ t c = 58 ∧ t (c + 1) = 47 ∧ t (c + 2) = 47
theorem cf_Schu {t : Nat → Nat} {L c c' : Nat} (h : cf_Sch t L c) (h' : cf_Sch t L c') : c = c' := by
  obtain ⟨a, -, -, -, -, -, b, d, -, -⟩ := h
  obtain ⟨a', -, -, -, -, -, b', d', -, -⟩ := h'
  rcases a with rfl | rfl <;> rcases a' with rfl | rfl
  · rfl
  · have := cf_lo58.mpr d; have := b' rfl; omega
  · have := cf_lo58.mpr d'; have := b rfl; omega
  · rfl
def cf_Ho (t : Nat → Nat) (f he : Nat) : Prop := f + 1 ≤ he ∧ he ≤ f + 16 ∧ ∀ j, f ≤ j → j < he → cf_HC (t j)
def cf_Po (t : Nat → Nat) (L f p : Nat) : Prop := cf_IE 3 t L f p ∧ f + 1 ≤ p ∧ p ≤ f + 5 ∧ (∀ j, f ≤ j → j < p → 48 ≤ t j ∧ t j ≤ 57) ∧ cf_pv t f (p - f) ≤ 65535
def cf_dp (c : Nat) : Nat := if c = 4 then 80 else 443
def cf_po (c v : Nat) : List Nat := if v = cf_dp c then [] else 58 :: cf_dy 4 v
def cf_PO (t : Nat → Nat) (L c he p : Nat) (po : List Nat) : Prop :=
  (¬ (he < L ∧ t he = 58) ∧ p = he ∧ po = []) ∨ ((he < L ∧ t he = 58) ∧ cf_Po t L (he + 1) p ∧ po = cf_po c (cf_pv t (he + 1) (p - (he + 1))))
theorem cf_POu {t : Nat → Nat} {L c he p p' : Nat} {po po' : List Nat} (h : cf_PO t L c he p po) (h' : cf_PO t L c he p' po') : p = p' ∧ po = po' := by
  rcases h with ⟨a, b, d⟩ | ⟨a, b, d⟩ <;> rcases h' with ⟨a', b', d'⟩ | ⟨a', b', d'⟩
  · exact ⟨b.trans b'.symm, d.trans d'.symm⟩
  · exact absurd a' a
  · exact absurd a a'
  · have e := cf_IEu b.1 b'.1
    subst e
    exact ⟨rfl, d.trans d'.symm⟩
theorem cf_POl {t : Nat → Nat} {L c he p : Nat} {po : List Nat} (hL : he ≤ L) (h : cf_PO t L c he p po) : he + po.length ≤ p ∧ p ≤ L ∧ ∀ x, x ∈ po → x = 58 ∨ (48 ≤ x ∧ x ≤ 57) := by
  rcases h with ⟨a, b, d⟩ | ⟨a, ⟨b1, b2, b3, b4, b5⟩, d⟩
  · subst b; subst d
    exact ⟨Nat.le_refl _, hL, fun x hx => by cases hx⟩
  · subst d
    unfold cf_po
    split
    · exact ⟨by show he + 0 ≤ p; omega, b1.2.1, fun x hx => by cases hx⟩
    · have v := cf_pvB (t := t) (f := he + 1) (p - (he + 1)) (fun j hj => (b4 (he + 1 + j) (by omega) (by omega)).2)
      have l := cf_dyL 4 (p - (he + 1)) _ (by omega) v
      refine ⟨by rw [List.length_cons]; omega, b1.2.1, fun x hx => ?_⟩
      rcases List.mem_cons.mp hx with e | e
      · exact Or.inl e
      · exact Or.inr (cf_dyM _ _ _ e)
def cf_PS (t : Nat → Nat) (L c he p pE qE : Nat) (po D1 D2 : List Nat) : Prop :=
  cf_Sch t L c ∧ cf_IE 4 t L (c + 3) he ∧ cf_Ho t (c + 3) he ∧ cf_PO t L c he p po ∧ cf_IE 2 t L p pE ∧ cf_dc t pE (pE - p) p = some D1 ∧ cf_IE 1 t L pE qE ∧ cf_dc t qE (qE - pE) pE = some D2
def cf_out (t : Nat → Nat) (he : Nat) (po D1 D2 : List Nat) : List Nat := cf_sb (fun j => cf_lo (t j)) 0 he ++ po ++ cf_pa D1 ++ D2
theorem cf_PSu {t : Nat → Nat} {L c he p pE qE c' he' p' pE' qE' : Nat} {po D1 D2 po' D1' D2' : List Nat} (h : cf_PS t L c he p pE qE po D1 D2) (h' : cf_PS t L c' he' p' pE' qE' po' D1' D2') : c = c' ∧ he = he' ∧ po = po' ∧ D1 = D1' ∧ D2 = D2' := by
  obtain ⟨a1, a2, -, a4, a5, a6, a7, a8⟩ := h
  obtain ⟨b1, b2, -, b4, b5, b6, b7, b8⟩ := h'
  cases cf_Schu a1 b1
  cases cf_IEu a2 b2
  obtain ⟨rfl, rfl⟩ := cf_POu a4 b4
  cases cf_IEu a5 b5
  cases cf_IEu a7 b7
  rw [a6] at b6
  rw [a8] at b8
  cases b6
  cases b8
  exact ⟨rfl, rfl, rfl, rfl, rfl⟩
/-- the third slash of a text -/
def cf_TS (l : List Nat) (P : Nat) : Prop := ∃ a, a + 2 ≤ P ∧ P < l.length ∧ l.getD a 0 = 47 ∧ l.getD (a + 1) 0 = 47 ∧ l.getD P 0 = 47 ∧ ∀ j, j < P → j ≠ a → j ≠ a + 1 → l.getD j 0 ≠ 47
/-- the place of the path: where the delimiter behind host and port stands, a path begins with a slash -/
theorem cf_PSp {t : Nat → Nat} {L c he p pE : Nat} {po : List Nat} (h2 : cf_IE 4 t L (c + 3) he) (h4 : cf_PO t L c he p po) (h5 : cf_IE 2 t L p pE) (hp : p < pE) : t p = 47 := by
  have hpL : p < L := by have := h5.2.1; omega
  have nr := h5.2.2.1 p (Nat.le_refl _) hp
  unfold cf_rk at nr
  rcases h4 with ⟨a, b, d⟩ | ⟨a, ⟨b1, b2, b3, b4, b5⟩, d⟩
  · subst b
    have r := h2.2.2.2 hpL
    unfold cf_rk at r
    have a' : ¬ t p = 58 := fun z => a ⟨hpL, z⟩
    omega
  · have r := b1.2.2.2 hpL
    unfold cf_rk at r
    omega
theorem cf_outB {t : Nat → Nat} {L c he p pE qE : Nat} {po D1 D2 : List Nat} (ht : ∀ j, t j ≤ 126) (hL : L ≤ 48) (h : cf_PS t L c he p pE qE po D1 D2) :
    c + 3 ≤ he ∧ he ≤ c + 19 ∧ he + po.length ≤ p ∧ p + D1.length ≤ pE ∧ pE + D2.length ≤ qE ∧ qE ≤ L ∧ he + po.length + (cf_pa D1).length + D2.length ≤ 49 := by
  obtain ⟨a1, a2, a3, a4, a5, a6, a7, a8⟩ := h
  obtain ⟨b1, b2, -⟩ := cf_POl a2.2.1 a4
  have c1 := (cf_dcF ht _ _ _ (Nat.le_refl _) a6).1
  have c2 := (cf_dcF ht _ _ _ (Nat.le_refl _) a8).1
  have d1 := a5.1
  have d2 := a7.1
  have d3 := a7.2.1
  have e1 := a3.1
  have e2 := a3.2.1
  have l := cf_paL D1
  refine ⟨by omega, by omega, b1, by omega, by omega, d3, ?_⟩
  rcases Nat.eq_zero_or_pos D1.length with z | z
  · have := l.1; omega
  · have := l.2 z; omega
theorem cf_outL {t : Nat → Nat} {he : Nat} {po D1 D2 : List Nat} : (cf_out t he po D1 D2).length = he + po.length + (cf_pa D1).length + D2.length := by
  unfold cf_out
  rw [List.length_append, List.length_append, List.length_append, cf_sbL]
theorem cf_outT {t : Nat → Nat} {L c he p pE qE : Nat} {po D1 D2 : List Nat} (h : cf_PS t L c he p pE qE po D1 D2) : cf_TS (cf_out t he po D1 D2) (he + po.length) := by
  obtain ⟨a1, a2, a3, a4, -⟩ := h
  obtain ⟨-, -, b3⟩ := cf_POl a2.2.1 a4
  have hc := a2.1
  have g1 : ∀ j, j < he → (cf_out t he po D1 D2).getD j 0 = cf_lo (t j) := by
    intro j hj
    unfold cf_out
    rw [cf_gdl (by rw [List.length_append, List.length_append, cf_sbL]; omega), cf_gdl (by rw [List.length_append, cf_sbL]; omega), cf_gdl (by rw [cf_sbL]; omega), cf_sbG _ _ _ _ hj, Nat.zero_add]
  obtain ⟨r, hr⟩ := cf_ptH (cf_dD D1) (cf_gs D1)
  have hr' : cf_pa D1 = 47 :: r := hr
  refine ⟨c + 1, by omega, ?_, ?_, ?_, ?_, ?_⟩
  · rw [cf_outL, hr', List.length_cons]; omega
  · rw [g1 _ (by omega)]; exact cf_lo47.mpr a1.2.2.2.2.2.2.2.2.1
  · rw [g1 _ (by omega)]; exact cf_lo47.mpr a1.2.2.2.2.2.2.2.2.2
  · unfold cf_out
    rw [List.append_assoc, cf_gdr (by rw [List.length_append, cf_sbL]; exact Nat.le_refl _), List.length_append, cf_sbL, Nat.sub_self, hr']
    rfl
  · intro j hj n1 n2
    rcases Nat.lt_or_ge j he with z | z
    · rw [g1 j z]
      obtain ⟨q0, q1, q2, q3, q4, q5, q6, q7, q8, q9⟩ := a1
      rcases Nat.lt_or_ge j (c + 3) with y | y
      · intro e
        have e' := cf_lo47.mp e
        rcases q0 with rfl | rfl
        · have : j = 0 ∨ j = 1 ∨ j = 2 ∨ j = 3 ∨ j = 4 := by omega
          rcases this with rfl | rfl | rfl | rfl | rfl <;> omega
        · have : j = 0 ∨ j = 1 ∨ j = 2 ∨ j = 3 ∨ j = 4 ∨ j = 5 := by omega
          have := q6 rfl
          rcases ‹j = 0 ∨ j = 1 ∨ j = 2 ∨ j = 3 ∨ j = 4 ∨ j = 5› with rfl | rfl | rfl | rfl | rfl | rfl <;> omega
      · exact cf_HClo (a3.2.2 j y z)
    · have e : (cf_out t he po D1 D2).getD j 0 = po.getD (j - he) 0 := by
        unfold cf_out
        rw [cf_gdl (by rw [List.length_append, List.length_append, cf_sbL]; omega), cf_gdl (by rw [List.length_append, cf_sbL]; omega), cf_gdr (by rw [cf_sbL]; omega), cf_sbL]
      rw [e]
      have m := b3 _ (cf_gdm (l := po) (j := j - he) (by omega))
      omega
theorem cf_lok {c : Nat} (h : cf_rk 4 c) : cf_lo c = c ∧ c < 65 := by
  unfold cf_rk at h
  unfold cf_lo
  split <;> omega
theorem cf_SchE {t : Nat → Nat} {L c : Nat} (h : cf_Sch t L c) : cf_IE 4 t L 0 c := by
  obtain ⟨q0, q1, q2, q3, q4, q5, q6, q7, q8, q9⟩ := h
  refine ⟨Nat.zero_le _, by omega, fun j _ hj r => ?_, fun _ => Or.inr (Or.inr (Or.inr ⟨Nat.le_refl 4, q7⟩))⟩
  have e := cf_lok r
  have o : j = 0 ∨ j = 1 ∨ j = 2 ∨ j = 3 ∨ (j = 4 ∧ c = 5) := by omega
  rcases o with rfl | rfl | rfl | rfl | ⟨rfl, rfl⟩
  · omega
  · omega
  · omega
  · omega
  · have := q6 rfl; omega
theorem cf_PSq {t : Nat → Nat} {L c he p : Nat} {po : List Nat} (h2 : cf_IE 4 t L (c + 3) he) (h4 : cf_PO t L c he p po) (hp : p < L) : t p = 47 ∨ t p = 63 ∨ t p = 35 := by
  rcases h4 with ⟨a, b, d⟩ | ⟨a, ⟨b1, b2, b3, b4, b5⟩, d⟩
  · subst b
    have r := h2.2.2.2 hp
    unfold cf_rk at r
    have a' : ¬ t p = 58 := fun z => a ⟨hp, z⟩
    omega
  · have r := b1.2.2.2 hp
    unfold cf_rk at r
    omega
theorem cf_IEp {t : Nat → Nat} {L r e : Nat} (h : e ≤ L) (hr : e < L → cf_rk r (t e)) : cf_IE r t L e e := ⟨Nat.le_refl _, h, fun j h1 h2 => by omega, hr⟩
