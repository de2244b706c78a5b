set_option maxRecDepth 20000
/-! the list of the ballot -/
def AB (P : Int → Prop) (D : DD) (a : Int) (bl : List Int) (m : Int) : Prop := AL D a (bl.map bx) m ∧ P a ∧ (dW D a 1 = 1000012 ∨ P (dW D a 1))
theorem s_addAB {P : Int → Prop} {D : DD} {a v : Int} {bl : List Int} {m : Int} (h : AB P D a bl m) (hP : ∀ b, dT D ≤ b → P b) (hl : bl.length ≤ 30) (hm : m < 900000) (hv : -128 ≤ v ∧ v ≤ 127) (hT : dT D < 600000) (hS : dS D + 48 ≤ 7200000) :
    ∃ D', fJx4a65c_add_9ea2d a (bx v) D = some (1, D') ∧ AB P D' a (bl ++ [v]) (m + 1) ∧ Ev P 1 48 D D' := by
  obtain ⟨D', w1, w2, w3, w4⟩ := s_addB2 h.1 hP h.2.1 h.2.2 hl hm hv hT hS
  exact ⟨D', w1, ⟨w2, h.2.1, w3⟩, w4⟩
theorem take_succ_getD {l : List (Int × Int)} {i : Nat} (h : i < l.length) : (l.map Prod.snd).take (i + 1) = (l.map Prod.snd).take i ++ [(l.getD i (0, 0)).2] := by
  rw [List.take_add_one, List.getElem?_map, List.getElem?_eq_getElem h, List.getD_eq_getElem?_getD, List.getElem?_eq_getElem h]
  rfl
theorem l_vals {c Q P : Int → Prop} {D : DD} {m M it a v0 v1 v2 v3 : Int} {t : T} {m0 : Int} (h : TMt c D m t M) (hI : TI 15 D it m t 0) (hA : AB Q D a [] m0) (hQ : ∀ b, dT D ≤ b → Q b) (hqi : ¬ Q it) (hPQ : ∀ b, P b ↔ (b = it ∨ Q b)) (hc : ∀ b, b < dT D → c b → ¬ P b) (hv : ∀ q ∈ inord t, 0 ≤ q.2 ∧ q.2 ≤ 29) (hn : (inord t).length ≤ 12) (hm : m0 < 800000) (hT : dT D + 12 < 600000) (hS : dS D + 600 ≤ 7200000) :
    ∃ D', zlp (fun q => fX6_mean_s23 v0 v1 v2 v3 a it q) FU D = some D' ∧ AB Q D' a ((inord t).map Prod.snd) (m0 + (inord t).length) ∧ Ev P (inord t).length (48 * (inord t).length) D D' := by
  have hsz : tsz t = (inord t).length := (tsz_len t).symm
  have loop := lp_FU (f := fun q => fX6_mean_s23 v0 v1 v2 v3 a it q)
    (fun i q => TI 15 q it m t i ∧ AB Q q a (((inord t).map Prod.snd).take i) (m0 + i) ∧ Ev P i (48 * i) D q)
    (fun q => AB Q q a ((inord t).map Prod.snd) (m0 + (inord t).length) ∧ Ev P (inord t).length (48 * (inord t).length) D q) (inord t).length (by omega)
    (fun i q hi hq => by
      obtain ⟨k1, k2, k3⟩ := hq
      have hq2 : TMt c q m t M := h.ev k3 hc
      have hcit : ∀ b, c b → b ≠ it := fun b hb e => by
        subst e
        by_cases hlt : b < dT D
        · exact hc b hlt hb ((hPQ b).mpr (Or.inl rfl))
        · -- the iterator was made before the loop
          have := hI.1.2.1
          omega
      obtain ⟨D2, w1, w2, w3, w4⟩ := s_next16 hq2 k1 (by omega) (by omega) hcit
      have hv2 := hv _ (show (inord t).getD i (0, 0) ∈ inord t by
        rw [List.getD_eq_getElem?_getD, List.getElem?_eq_getElem hi]
        exact List.getElem_mem hi)
      have E2 : Ev P i (48 * i) D D2 := (k3.trans w4 (fun b _ e => (hPQ b).mpr (Or.inl e))).mono (by omega) (by omega) (fun _ _ z => z)
      have A2 : AB Q D2 a (((inord t).map Prod.snd).take i) (m0 + i) := by
        obtain ⟨a1, a2, a3⟩ := k2
        have ne1 : a ≠ it := dO_ne a1.1 k1.1 (by decide)
        have ne2 : dW q a 1 ≠ it := by
          rcases a1.2.2.2.2 with p | p
          · rw [p.1]
            have := k1.1.2.1
            have := k3.2.1
            omega
          · exact dO_ne p.1.1 k1.1 (by decide)
        refine ⟨a1.ev w4 ne1 ne2, a2, ?_⟩
        rw [w4.at a1.1.2.1 ne1]
        exact a3
      have hE := k3
      obtain ⟨D3, x1, x2, x3⟩ := s_addAB (v := ((inord t).getD i (0, 0)).2) A2 (fun b hb => hQ b (by have := E2.1; omega)) (by rw [List.length_take]; omega) (by omega) ⟨by omega, by omega⟩ (by have := E2.2.1; omega) (by have := E2.2.2.2.1; omega)
      left
      show ∃ s', fX6_mean_s23 v0 v1 v2 v3 a it q = some (.inl s') ∧ _
      unfold fX6_mean_s23
      rw [s_has15 hq2 k1, if_pos (by omega)]
      simp only [Option.bind_some]
      rw [if_pos k1.1, if_neg (by decide), w1]
      simp only [Option.bind_some]
      rw [if_pos w2, s_intValue w2]
      simp only [Option.bind_some]
      rw [s_valueOf ⟨by omega, by omega⟩]
      simp only [Option.bind_some]
      rw [show (1000428 + ((inord t).getD i (0, 0)).2 : Int) = bx ((inord t).getD i (0, 0)).2 from rfl, x1]
      simp only [Option.bind_some]
      rw [if_pos A2.1.1]
      refine ⟨D3, rfl, ?_, ?_, (E2.trans x3 (fun b _ z => (hPQ b).mpr (Or.inr z))).mono (by omega) (by omega) (fun _ _ z => z)⟩
      · -- the iterator stays where it is
        obtain ⟨i1, i2, i3, i4⟩ := w3
        have x := fun j => x3.at i1.2.1 hqi j
        have mlt : m < dT D := h.1.1.2.1
        refine ⟨x3.dO i1, by rw [x]; exact i2, ?_, by rw [x]; exact i4⟩
        rw [x, i3, x3.at (by have := E2.1; omega) (fun z => hc m mlt h.1.2 ((hPQ m).mpr (Or.inr z)))]
      · rw [take_succ_getD hi, show m0 + ((i + 1 : Nat) : Int) = m0 + i + 1 by omega]
        exact x2)
    (fun q hq => by
      obtain ⟨k1, k2, k3⟩ := hq
      have hq2 : TMt c q m t M := h.ev k3 hc
      show ∃ r, fX6_mean_s23 v0 v1 v2 v3 a it q = some (.inr r) ∧ _
      unfold fX6_mean_s23
      rw [s_has15 hq2 k1, if_neg (by omega)]
      simp only [Option.bind_some]
      rw [if_pos k1.1, if_pos trivial]
      refine ⟨q, rfl, ?_, k3⟩
      rw [← List.length_map (f := Prod.snd), List.take_length] at k2
      rw [List.length_map] at k2
      exact k2)
    D ⟨hI, by rw [List.take_zero]; simpa using hA, Ev.refl P D⟩
  obtain ⟨D', w1, w2⟩ := loop
  exact ⟨D', w1, w2⟩
theorem rep_succ (n : Nat) (s : Int) (l : List Int) : l ++ List.replicate (n + 1) s = (l ++ List.replicate n s) ++ [s] := by
  rw [List.replicate_succ', List.append_assoc]
theorem l_sets {P : Int → Prop} {D : DD} {g e a n s m0 v2 v3 : Int} {bl : List Int} (hg : dO D g 7) (hg1 : dW D g 1 = n) (hgp : ¬ P g) (he : dO D e 8) (he1 : dW D e 1 = s) (hep : ¬ P e) (hA : AB P D a bl m0) (hP : ∀ b, dT D ≤ b → P b) (hn : 0 ≤ n ∧ n ≤ 10) (hs : 0 ≤ s ∧ s ≤ 29) (hl : bl.length ≤ 12) (hm : m0 < 800000) (hT : dT D + 12 < 600000) (hS : dS D + 600 ≤ 7200000) :
    ∃ D', zlp (fun q => fX6_mean_s65 g e v2 v3 a q.1 q.2) FU (0, D) = some D' ∧ AB P D' a (bl ++ List.replicate n.toNat s) (m0 + n) ∧ Ev P n (48 * n) D D' := by
  have loop := lp_FU (f := fun q : Int × DD => fX6_mean_s65 g e v2 v3 a q.1 q.2)
    (fun i q => q.1 = (i : Int) ∧ AB P q.2 a (bl ++ List.replicate i s) (m0 + i) ∧ Ev P i (48 * i) D q.2)
    (fun q => AB P q a (bl ++ List.replicate n.toNat s) (m0 + n) ∧ Ev P n (48 * n) D q) n.toNat (by omega)
    (fun i q hi hq => by
      obtain ⟨j, q⟩ := q
      obtain ⟨k1, k2, k3⟩ := hq
      have k1 : j = (i : Int) := k1
      subst k1
      have k2' : AB P q a (bl ++ List.replicate i s) (m0 + i) := k2
      have k3' : Ev P i (48 * i) D q := k3
      obtain ⟨D3, x1, x2, x3⟩ := s_addAB (v := s) k2' (fun b hb => hP b (by have := k3'.1; omega)) (by simp; omega) (by omega) ⟨by omega, by omega⟩ (by have := k3'.2.1; omega) (by have := k3'.2.2.2.1; omega)
      left
      show ∃ s', fX6_mean_s65 g e v2 v3 a (i : Int) q = some (.inl s') ∧ _
      unfold fX6_mean_s65
      rw [if_pos (k3'.dO hg), k3'.at hg.2.1 hgp, hg1, if_pos (by omega), if_pos (k3'.dO he), k3'.at he.2.1 hep, he1, s_valueOf ⟨by omega, by omega⟩]
      simp only [Option.bind_some]
      rw [show (1000428 + s : Int) = bx s from rfl, x1]
      simp only [Option.bind_some]
      rw [if_pos k2'.1.1, if_pos (by constructor <;> omega)]
      refine ⟨((i : Int) + 1, D3), rfl, by show (i : Int) + 1 = ((i + 1 : Nat) : Int); omega, ?_, (k3'.trans x3 (fun _ _ z => z)).mono (by omega) (by omega) (fun _ _ z => z)⟩
      rw [rep_succ, show m0 + ((i + 1 : Nat) : Int) = m0 + i + 1 by omega]
      exact x2)
    (fun q hq => by
      obtain ⟨j, q⟩ := q
      obtain ⟨k1, k2, k3⟩ := hq
      have k1 : j = (n.toNat : Int) := k1
      subst k1
      have k3' : Ev P n.toNat (48 * n.toNat) D q := k3
      have en : ((n.toNat : Nat) : Int) = n := Int.toNat_of_nonneg hn.1
      show ∃ r, fX6_mean_s65 g e v2 v3 a (n.toNat : Int) q = some (.inr r) ∧ _
      unfold fX6_mean_s65
      rw [if_pos (k3'.dO hg), k3'.at hg.2.1 hgp, hg1, if_neg (by omega)]
      rw [en] at k2 k3'
      exact ⟨q, rfl, k2, k3'⟩)
    (0, D) ⟨rfl, by simpa using hA, Ev.refl P D⟩
  obtain ⟨D', w1, w2⟩ := loop
  exact ⟨D', w1, w2⟩
theorem l_more {D : DD} {g e a v2 : Int} : zlp (fun q => fX6_mean_s96 g e v2 0 a q.1 q.2) FU (0, D) = some D := by
  refine zlp_r (n := 99999) ?_
  show fX6_mean_s96 g e v2 0 a 0 D = _
  unfold fX6_mean_s96
  rw [if_neg (by decide)]
/-- the row of the ballot: made, filled, sorted, cut, added up -/
theorem l_fill {P : Int → Prop} {D : DD} {g a : Int} {t m0 : Int} {bl : List Int} (hA : AB P D a bl m0) (hb : ∀ v ∈ bl, 0 ≤ v ∧ v ≤ 29) (hl : bl.length ≤ 30) (ht : dO D t 20) (ht2 : (dH D t).2 = bl.length) (hta : t ≠ a) (htr : t ≠ dW D a 1) (ht9 : t < 1000000) :
    ∃ D', zlp (fun q => fX6_mean_s151 g a t q.1 q.2) FU (0, D) = some D' ∧ AI D' t bl ∧ Ev (fun b => b = t) 0 0 D D' := by
  have hal : ∀ q, Ev (fun b => b = t) 0 0 D q → alen q t = bl.length := fun q E => by
    unfold alen
    rw [if_neg (by omega), E.sz ht, ht2]
  have loop := lp_FU (f := fun q : Int × DD => fX6_mean_s151 g a t q.1 q.2)
    (fun i q => q.1 = (i : Int) ∧ Ev (fun b => b = t) 0 0 D q.2 ∧ ∀ j : Nat, j < i → dW q.2 t j = bl.getD j 0)
    (fun q => AI q t bl ∧ Ev (fun b => b = t) 0 0 D q) bl.length (by omega)
    (fun i q hi hq => by
      obtain ⟨j, q⟩ := q
      obtain ⟨k1, k2, k3⟩ := hq
      have k1 : j = (i : Int) := k1
      subst k1
      have k2' : Ev (fun b => b = t) 0 0 D q := k2
      have A2 : AL q a (bl.map bx) m0 := hA.1.ev k2' (fun z => hta z.symm) (fun z => htr z.symm)
      have hg := s_get A2 (i := i) (by rw [List.length_map]; exact hi)
      have e1 : (bl.map bx).getD i 0 = bx (bl.getD i 0) := by
        rw [List.getD_eq_getElem?_getD, List.getD_eq_getElem?_getD, List.getElem?_map, List.getElem?_eq_getElem hi]
        rfl
      have hv := hb _ (getD_mem hi)
      rw [e1] at hg
      left
      show ∃ s', fX6_mean_s151 g a t (i : Int) q = some (.inl s') ∧ _
      unfold fX6_mean_s151
      rw [if_pos (Or.inr ⟨ht.1, (k2'.dO ht).2.1, by rw [(k2'.dO ht).2.2]; decide⟩), hal q k2', if_pos (by omega), hg]
      simp only [Option.bind_some]
      rw [if_pos A2.1, if_pos (bx_box ⟨by omega, by omega⟩), s_intValue (bx_box ⟨by omega, by omega⟩)]
      simp only [Option.bind_some]
      rw [if_pos (k2'.dO ht), if_pos ⟨by omega, by rw [k2'.sz ht, ht2]; omega⟩, zl_eq, if_pos (by constructor <;> omega)]
      refine ⟨((i : Int) + 1, dup q t i (bl.getD i 0)), rfl, by show (i : Int) + 1 = ((i + 1 : Nat) : Int); omega, (k2'.trans (Ev.dup (P := fun b => b = t) q (fun _ => rfl)) (fun _ _ z => z)).mono (by omega) (by omega) (fun _ _ z => z), fun j hj => ?_⟩
      show dW (dup q t i (bl.getD i 0)) t j = _
      rw [dup_at]
      by_cases e : j = i
      · subst e
        rw [if_pos ⟨rfl, rfl⟩]
      · rw [if_neg (by omega)]
        exact k3 j (by omega))
    (fun q hq => by
      obtain ⟨j, q⟩ := q
      obtain ⟨k1, k2, k3⟩ := hq
      have k1 : j = (bl.length : Int) := k1
      subst k1
      have k2' : Ev (fun b => b = t) 0 0 D q := k2
      show ∃ r, fX6_mean_s151 g a t (bl.length : Int) q = some (.inr r) ∧ _
      unfold fX6_mean_s151
      rw [if_pos (Or.inr ⟨ht.1, (k2'.dO ht).2.1, by rw [(k2'.dO ht).2.2]; decide⟩), hal q k2', if_neg (by omega)]
      exact ⟨q, rfl, ⟨k2'.dO ht, by rw [k2'.sz ht, ht2], k3⟩, k2'⟩)
    (0, D) ⟨rfl, Ev.refl _ D, fun j hj => by omega⟩
  obtain ⟨D', w1, w2⟩ := loop
  exact ⟨D', w1, w2⟩
/-- what is left of the sorted row, added up -/
def cutS (l : List Int) (d n : Nat) : Int := ((l.drop d).take n).sum
theorem cutS_succ {l : List Int} {d n : Nat} (h : d + n < l.length) : cutS l d (n + 1) = cutS l d n + l.getD (d + n) 0 := by
  unfold cutS
  rw [List.take_add_one, List.getElem?_drop, List.getElem?_eq_getElem h, List.getD_eq_getElem?_getD, List.getElem?_eq_getElem h]
  simp
theorem cutS_bd {l : List Int} (hb : ∀ v ∈ l, 0 ≤ v ∧ v ≤ 29) (d : Nat) : ∀ n : Nat, d + n ≤ l.length → 0 ≤ cutS l d n ∧ cutS l d n ≤ 29 * n
  | 0, _ => by simp [cutS]
  | n + 1, h => by
    have := cutS_bd hb d n (by omega)
    have := hb _ (getD_mem (l := l) (i := d + n) (by omega))
    rw [cutS_succ (by omega)]
    omega
theorem l_suM {D : DD} {t u : Int} {l : List Int} {d : Nat} (h : AI D t l) (hb : ∀ v ∈ l, 0 ≤ v ∧ v ≤ 29) (hl : l.length ≤ 40) (ht9 : t < 1000000) (hd : d + d ≤ l.length) (hu : dO D u 20) (hu2 : (dH D u).2 = 2) (hut : u ≠ t) (h0 : dW D u 0 = 0) (h1 : dW D u 1 = 0) :
    ∃ D', zlp (fun q => fX6_mean_s210 t d u q.1 q.2) FU ((d : Int), D) = some D' ∧ dW D' u 0 = cutS l d (l.length - d - d) ∧ dW D' u 1 = ((l.length - d - d : Nat) : Int) ∧ Ev (fun b => b = u) 0 0 D D' := by
  have loop := lp_FU (f := fun q : Int × DD => fX6_mean_s210 t d u q.1 q.2)
    (fun i q => q.1 = (d : Int) + i ∧ Ev (fun b => b = u) 0 0 D q.2 ∧ dW q.2 u 0 = cutS l d i ∧ dW q.2 u 1 = (i : Int))
    (fun q => dW q u 0 = cutS l d (l.length - d - d) ∧ dW q u 1 = ((l.length - d - d : Nat) : Int) ∧ Ev (fun b => b = u) 0 0 D q) (l.length - d - d) (by omega)
    (fun i q hi hq => by
      obtain ⟨j, q⟩ := q
      obtain ⟨k1, k2, k3, k4⟩ := hq
      have k1 : j = (d : Int) + i := k1
      subst k1
      have k2' : Ev (fun b => b = u) 0 0 D q := k2
      have k3 : dW q u 0 = cutS l d i := k3
      have k4 : dW q u 1 = (i : Int) := k4
      have A2 : AI q t l := h.ev k2' (fun z => hut z.symm)
      have hal : alen q t = l.length := by unfold alen; rw [if_neg (by omega), A2.2.1]
      have bd := cutS_bd hb d i (by omega)
      have vb := hb _ (getD_mem (l := l) (i := d + i) (by omega))
      have hw : dW q t ((d : Int) + i) = l.getD (d + i) 0 := by
        have := A2.2.2 (d + i) (by omega)
        rw [show ((d + i : Nat) : Int) = (d : Int) + i by omega] at this
        exact this
      left
      show ∃ s', fX6_mean_s210 t d u ((d : Int) + i) q = some (.inl s') ∧ _
      unfold fX6_mean_s210
      rw [if_pos (Or.inr ⟨A2.1.1, A2.1.2.1, by rw [A2.1.2.2]; decide⟩), hal, if_pos (by constructor <;> omega), if_pos (by omega), if_pos (k2'.dO hu), if_pos ⟨by omega, by rw [k2'.sz hu, hu2]; decide⟩, if_pos A2.1, if_pos ⟨by omega, by rw [A2.2.1]; omega⟩, hw, k3, if_pos (by constructor <;> omega), zl_eq]
      have e1 : dW (dup q u 0 (cutS l d i + l.getD (d + i) 0)) u 1 = (i : Int) := by rw [dup_at, if_neg (by omega), k4]
      rw [if_pos ⟨by omega, by show (1 : Int) < ((dH q u).2 : Int); rw [k2'.sz hu, hu2]; decide⟩, e1, if_pos (by constructor <;> omega), zl_eq, if_pos (by constructor <;> omega)]
      refine ⟨_, rfl, by show (d : Int) + i + 1 = (d : Int) + ((i + 1 : Nat) : Int); omega, ((k2'.trans (Ev.dup (P := fun b => b = u) q (fun _ => rfl)) (fun _ _ z => z)).trans (Ev.dup (P := fun b => b = u) _ (fun _ => rfl)) (fun _ _ z => z)).mono (by omega) (by omega) (fun _ _ z => z), ?_, ?_⟩
      · show dW (dup (dup q u 0 (cutS l d i + l.getD (d + i) 0)) u 1 ((i : Int) + 1)) u 0 = _
        rw [dup_at, if_neg (by omega), dup_at, if_pos ⟨rfl, rfl⟩, cutS_succ (by omega)]
      · show dW (dup (dup q u 0 (cutS l d i + l.getD (d + i) 0)) u 1 ((i : Int) + 1)) u 1 = _
        rw [dup_at, if_pos ⟨rfl, rfl⟩]
        omega)
    (fun q hq => by
      obtain ⟨j, q⟩ := q
      obtain ⟨k1, k2, k3, k4⟩ := hq
      have k1 : j = (d : Int) + ((l.length - d - d : Nat) : Int) := k1
      subst k1
      have k2' : Ev (fun b => b = u) 0 0 D q := k2
      have A2 : AI q t l := h.ev k2' (fun z => hut z.symm)
      have hal : alen q t = l.length := by unfold alen; rw [if_neg (by omega), A2.2.1]
      show ∃ r, fX6_mean_s210 t d u ((d : Int) + ((l.length - d - d : Nat) : Int)) q = some (.inr r) ∧ _
      unfold fX6_mean_s210
      rw [if_pos (Or.inr ⟨A2.1.1, A2.1.2.1, by rw [A2.1.2.2]; decide⟩), hal, if_pos (by constructor <;> omega), if_neg (by omega)]
      exact ⟨q, rfl, k3, k4, k2'⟩)
    ((d : Int), D) ⟨by omega, Ev.refl _ D, by rw [h0]; simp [cutS], by rw [h1]; rfl⟩
  obtain ⟨D', w1, w2⟩ := loop
  exact ⟨D', w1, w2⟩
