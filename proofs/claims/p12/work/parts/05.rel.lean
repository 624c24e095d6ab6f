/-! what both sides keep, and how it lasts -/
def cf_K (a : Nat → Int32) (n : Nat) (l : List Nat) : Prop := l.length = n ∧ cf_T a l
theorem cf_Ka {a : Nat → Int32} {n : Nat} {l : List Nat} (c : Nat) (h : cf_K a n l) : cf_K (upd a n (nI c)) (n + 1) (l ++ [c]) := by
  obtain ⟨rfl, h⟩ := h
  exact ⟨by rw [List.length_append]; rfl, cf_Ta c h⟩
theorem cf_K0 (a : Nat → Int32) : cf_K a 0 [] := ⟨rfl, cf_T0 a⟩
theorem cf_Kg {a : Nat → Int32} {n : Nat} {l : List Nat} (h : cf_K a n l) {j : Nat} (hj : j < n) : a j = nI (l.getD j 0) := h.2 j (by rw [h.1]; exact hj)
def cf_U (hc uch : Nat) (pool st ln pt uh : Nat → Int32) (u : Nat) : Prop :=
  ∃ s n p a h, st u = nI s ∧ ln u = nI n ∧ pt u = nI p ∧ uh u = nI h ∧ h < hc ∧ s + n ≤ uch ∧ a + 2 ≤ p ∧ p < n ∧ pool (s + a) = 47 ∧ pool (s + (a + 1)) = 47 ∧ pool (s + p) = 47 ∧ ∀ j, j < p → j ≠ a → j ≠ a + 1 → pool (s + j) ≠ 47
def cf_H (nl sent uh us : Nat → Int32) (uc h : Nat) : Prop := (∃ n, n ≤ 16 ∧ nl h = nI n) ∧ sent h = nI (cf_ct (fun u => uh u = nI h ∧ us u = 2) uc)
def cf_Ru (rch : Nat) (rs rl : Nat → Int32) (r : Nat) : Prop := ∃ s n, rs r = nI s ∧ rl r = nI n ∧ s + n ≤ rch
def cf_BT (b : Nat → Int32) : Prop := ∃ t : Nat → Nat, (∀ j, b j = nI (t j)) ∧ ∀ j, t j ≤ 126
theorem cf_BTu {b : Nat → Int32} {m : Nat} (h : cf_BT b) (hm : m ≤ 126) (i : Nat) : cf_BT (upd b i (nI m)) := by
  obtain ⟨t, h1, h2⟩ := h
  refine ⟨fun j => if j = i then m else t j, fun j => ?_, fun j => ?_⟩
  · show upd b i (nI m) j = nI (if j = i then m else t j)
    by_cases e : j = i
    · subst e
      rw [pk_us, if_pos rfl]
    · rw [pk_un e, if_neg e]
      exact h1 j
  · show (if j = i then m else t j) ≤ 126
    split
    · exact hm
    · exact h2 j
theorem cf_BT0 : cf_BT (fun _ => 0) := ⟨fun _ => 0, fun _ => rfl, fun _ => Nat.zero_le _⟩
theorem cf_rK {a : Nat → Int32} {n : Nat} {l : List Nat} (h : cf_K a n l) {x : Int32} (i : Nat) (hi : i < n) (hx : x = nI i := by rfl) (hn : i < 2 ^ 31 := by omega) : a x.toNatClampNeg = nI (l.getD i 0) := by
  rw [pk_cl i hx hn]
  exact cf_Kg h hi
def cf_IU (mu uc uch hc : Nat) (pool st ln pt uh : Nat → Int32) : Prop := mu ≤ 32 ∧ uc ≤ mu ∧ uch ≤ 256 ∧ nI uch = cf_sm ln uc ∧ ∀ u, u < uc → cf_U hc uch pool st ln pt uh u
def cf_IH (hc uc : Nat) (nl sent uh us : Nat → Int32) : Prop := hc ≤ 8 ∧ ∀ h, h < hc → cf_H nl sent uh us uc h
def cf_IR (rc rch : Nat) (rs rl : Nat → Int32) : Prop := rc ≤ 8 ∧ rch ≤ 128 ∧ nI rch = cf_sm rl rc ∧ ∀ r, r < rc → cf_Ru rch rs rl r
theorem cf_47 {x : Nat} (h : x < 2 ^ 31) : nI x = 47 ↔ x = 47 := nI_eq (b := 47) h (by decide)
theorem cf_IUh {mu uc uch hc hc' : Nat} {pool st ln pt uh : Nat → Int32} (h : cf_IU mu uc uch hc pool st ln pt uh) (hh : hc ≤ hc') : cf_IU mu uc uch hc' pool st ln pt uh := by
  obtain ⟨a, b, c, d, e⟩ := h
  refine ⟨a, b, c, d, fun u hu => ?_⟩
  obtain ⟨s, n, p, x, k, e1, e2, e3, e4, e5, e6⟩ := e u hu
  exact ⟨s, n, p, x, k, e1, e2, e3, e4, by omega, e6⟩
theorem cf_IUa {mu uc uch hc n P h : Nat} {pool st ln pt uh c : Nat → Int32} {l : List Nat} (I : cf_IU mu uc uch hc pool st ln pt uh) (h1 : uc < mu) (h2 : uch + n ≤ 256) (hT : cf_TS l P) (hb : ∀ j, l.getD j 0 < 2 ^ 31) (hK : cf_K c n l) (hh : h < hc) :
    cf_IU mu (uc + 1) (uch + n) hc (cf_cp pool uch c 0 n) (upd st uc (nI uch)) (upd ln uc (nI n)) (upd pt uc (nI P)) (upd uh uc (nI h)) := by
  obtain ⟨a, b, d, e, f⟩ := I
  refine ⟨a, h1, h2, ?_, fun u hu => ?_⟩
  · show _ = cf_sm (upd ln uc (nI n)) uc + upd ln uc (nI n) uc
    rw [pk_us, cf_smE (g := ln) uc (fun j hj => pk_un (by omega)), ← e, nI_add]
  · rcases Nat.lt_or_ge u uc with z | z
    · obtain ⟨s, m, p, x, k, e1, e2, e3, e4, e5, e6, e7, e8, e9, e10, e11, e12⟩ := f u z
      have o : ∀ q, q < uch → cf_cp pool uch c 0 n q = pool q := fun q hq => cf_cpO n (Or.inl hq)
      refine ⟨s, m, p, x, k, by rw [pk_un (by omega)]; exact e1, by rw [pk_un (by omega)]; exact e2, by rw [pk_un (by omega)]; exact e3, by rw [pk_un (by omega)]; exact e4, e5, by omega, e7, e8, ?_, ?_, ?_, ?_⟩
      · rw [o _ (by omega)]; exact e9
      · rw [o _ (by omega)]; exact e10
      · rw [o _ (by omega)]; exact e11
      · intro j hj n1 n2
        rw [o _ (by omega)]; exact e12 j hj n1 n2
    · have eu : u = uc := by omega
      subst eu
      obtain ⟨x, t1, t2, t3, t4, t5, t6⟩ := hT
      have o : ∀ j, j < n → cf_cp pool uch c 0 n (uch + j) = nI (l.getD j 0) := by
        intro j hj
        rw [cf_cpI n j hj, Nat.zero_add]
        exact cf_Kg hK hj
      have hl : l.length = n := hK.1
      refine ⟨uch, n, P, x, h, pk_us, pk_us, pk_us, pk_us, hh, Nat.le_refl _, t1, by omega, ?_, ?_, ?_, ?_⟩
      · rw [o _ (by omega), t3]; rfl
      · rw [o _ (by omega), t4]; rfl
      · rw [o _ (by omega), t5]; rfl
      · intro j hj n1 n2
        rw [o _ (by omega)]
        exact fun z => t6 j hj n1 n2 ((cf_47 (hb j)).mp z)
theorem cf_IHu {hc uc : Nat} {nl sent uh us : Nat → Int32} {x : Int32} (I : cf_IH hc uc nl sent uh us) : cf_IH hc (uc + 1) nl sent (upd uh uc x) (upd us uc 1) := by
  refine ⟨I.1, fun h hh => ?_⟩
  obtain ⟨a, b⟩ := I.2 h hh
  refine ⟨a, ?_⟩
  have n : ¬ (fun u => upd uh uc x u = nI h ∧ upd us uc 1 u = 2) uc := by
    intro z
    have z2 : upd us uc 1 uc = 2 := z.2
    rw [pk_us] at z2
    exact absurd z2 (by decide)
  rw [b, cf_ctF n]
  refine congrArg nI (cf_ctE uc (fun j hj => ?_))
  show (uh j = nI h ∧ us j = 2) ↔ (upd uh uc x j = nI h ∧ upd us uc 1 j = 2)
  rw [pk_un (by omega), pk_un (by omega)]
theorem cf_IHh {hc uc n : Nat} {nl sent uh us : Nat → Int32} (I : cf_IH hc uc nl sent uh us) (h8 : hc < 8) (hn : n ≤ 16) (hu : ∀ u, u < uc → ∃ h, h < hc ∧ uh u = nI h) : cf_IH (hc + 1) uc (upd nl hc (nI n)) (upd sent hc 0) uh us := by
  refine ⟨h8, fun h hh => ?_⟩
  rcases Nat.lt_or_ge h hc with z | z
  · obtain ⟨a, b⟩ := I.2 h z
    unfold cf_H
    rw [pk_un (by omega), pk_un (by omega)]
    exact ⟨a, b⟩
  · have e : h = hc := by omega
    subst e
    refine ⟨⟨n, hn, pk_us⟩, ?_⟩
    rw [pk_us]
    have z : cf_ct (fun u => uh u = nI h ∧ us u = 2) uc = 0 := by
      rcases Nat.eq_zero_or_pos (cf_ct (fun u => uh u = nI h ∧ us u = 2) uc) with y | y
      · exact y
      · obtain ⟨j, hj, pj, -⟩ := (cf_ctP uc).mp y
        obtain ⟨k, hk, ek⟩ := hu j hj
        rw [pj, nI_eq (by omega) (by omega)] at ek
        omega
    rw [z]
    rfl
theorem cf_IRa {rc rch n : Nat} {rs rl : Nat → Int32} (I : cf_IR rc rch rs rl) (h8 : rc < 8) (hn : rch + n ≤ 128) : cf_IR (rc + 1) (rch + n) (upd rs rc (nI rch)) (upd rl rc (nI n)) := by
  obtain ⟨a, b, c, d⟩ := I
  refine ⟨h8, hn, ?_, fun r hr => ?_⟩
  · show _ = cf_sm (upd rl rc (nI n)) rc + upd rl rc (nI n) rc
    rw [pk_us, cf_smE (g := rl) rc (fun j hj => pk_un (by omega)), ← c, nI_add]
  · rcases Nat.lt_or_ge r rc with z | z
    · obtain ⟨s, m, e1, e2, e3⟩ := d r z
      exact ⟨s, m, by rw [pk_un (by omega)]; exact e1, by rw [pk_un (by omega)]; exact e2, by omega⟩
    · have e : r = rc := by omega
      subst e
      exact ⟨rch, n, pk_us, pk_us, Nat.le_refl _⟩
theorem cf_IHb {hc uc : Nat} {nl sent uh us us' : Nat → Int32} (I : cf_IH hc uc nl sent uh us) (h : ∀ j, us' j = us j ∨ (us j = 1 ∧ us' j = 3)) : cf_IH hc uc nl sent uh us' := by
  refine ⟨I.1, fun k hk => ?_⟩
  obtain ⟨a, b⟩ := I.2 k hk
  refine ⟨a, ?_⟩
  rw [b]
  refine congrArg nI (cf_ctE uc (fun j hj => ?_))
  show (uh j = nI k ∧ us j = 2) ↔ (uh j = nI k ∧ us' j = 2)
  rcases h j with e | ⟨e1, e2⟩
  · rw [e]
  · rw [e1, e2]
    exact ⟨fun z => absurd z.2 (by decide), fun z => absurd z.2 (by decide)⟩
theorem cf_IHd {hc uc a b : Nat} {nl sent uh us : Nat → Int32} (I : cf_IH hc uc nl sent uh us) (ha : a < uc) (hs : us a = 1) (hu : uh a = nI b) (hb : b < hc) : cf_IH hc uc nl (upd sent b (sent b + 1)) uh (upd us a 2) := by
  have h8 := I.1
  refine ⟨h8, fun k hk => ?_⟩
  obtain ⟨x, y⟩ := I.2 k hk
  refine ⟨x, ?_⟩
  by_cases e : k = b
  · subst e
    rw [pk_us, y, nI_1]
    have n1 : ¬ (fun u => uh u = nI k ∧ us u = 2) a := by
      intro z
      have z2 : us a = 2 := z.2
      rw [hs] at z2
      exact absurd z2 (by decide)
    have n2 : (fun u => uh u = nI k ∧ upd us a 2 u = 2) a := ⟨hu, pk_us⟩
    have key := cf_ct1 n1 n2 uc ha (fun j hj n => by
      show (uh j = nI k ∧ us j = 2) ↔ (uh j = nI k ∧ upd us a 2 j = 2)
      rw [pk_un n])
    rw [key]
  · rw [pk_un e, y]
    refine congrArg nI (cf_ctE uc (fun j hj => ?_))
    show (uh j = nI k ∧ us j = 2) ↔ (uh j = nI k ∧ upd us a 2 j = 2)
    by_cases ej : j = a
    · subst ej
      have n : ¬ uh j = nI k := by
        rw [hu, nI_eq (by omega) (by omega)]
        omega
      exact ⟨fun z => absurd z.1 n, fun z => absurd z.1 n⟩
    · rw [pk_un ej]
