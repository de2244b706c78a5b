set_option maxRecDepth 20000
/-! texts under way -/
def SB (P : Int → Prop) (D : DD) (b : Int) (l : List Int) : Prop := dO D b 17 ∧ P b ∧ dW D b 1 = 0 ∧ dW D b 3 = l.length ∧ (dO D (dW D b 0) 21 ∧ P (dW D b 0)) ∧ ((l.length : Int) ≤ (dH D (dW D b 0)).2 ∧ (dH D (dW D b 0)).2 ≤ 1000) ∧ (∀ i : Nat, i < l.length → dW D (dW D b 0) i = l.getD i 0) ∧ ∀ c ∈ l, 0 ≤ c ∧ c < 128
def nm (n : Int) : List Int := if n < 10 then [48 + n] else [48 + n / 10, 48 + n % 10]
def sch (k : Nat) : List Int := (zKCl.lookup (k + 100)).getD []
section SBs
variable {P : Int → Prop} {D : DD} {b n : Int} {l : List Int}
theorem SB.arr (h : SB P D b l) (h9 : dT D < 1000000) : isArr D (dW D b 0) ∧ alen D (dW D b 0) = (dH D (dW D b 0)).2 := by
  have a := h.2.2.2.2.1.1
  have al := a.2.1
  refine ⟨Or.inr ⟨a.1, a.2.1, by rw [a.2.2]; decide⟩, ?_⟩
  unfold alen
  rw [if_neg (by omega)]
/-- room is made -/
theorem s_ens {mn : Int} (h : SB P D b l) (hm : (l.length : Int) ≤ mn ∧ mn ≤ 450) (hT : dT D < 600000) (hS : dS D + 1000 ≤ 7200000) (h0 : ∀ a, dT D ≤ a → P a) : ∃ D', fJ5_ensureCapacityInternal_d00df b mn D = some D' ∧ SB P D' b l ∧ mn ≤ (dH D' (dW D' b 0)).2 ∧ Ev P 1 1000 D D' := by
  have h' := h
  obtain ⟨h1, hb, h2, h3, ⟨h4, h5⟩, ⟨h6, h7⟩, h8, h9⟩ := h
  obtain ⟨r1, r2⟩ := h'.arr (by omega)
  have z0 : ∀ x : Int, 0 ≤ x → x ≤ 5000 → zshr x 0 = x := fun x a c => zshr0 (by constructor <;> omega)
  have y0 : ∀ x : Int, 0 ≤ x → x ≤ 5000 → zshl x 0 = x := fun x a c => zshl0 (by constructor <;> omega)
  generalize hcap : (dH D (dW D b 0)).2 = cap at *
  unfold fJ5_ensureCapacityInternal_d00df
  rw [if_pos h1, if_pos r1, r2, h2, z0 _ (by omega) (by omega), if_pos (by constructor <;> omega)]
  by_cases c : 0 < mn - (cap : Int)
  · rw [if_pos c]
    have hn : fJ5_newCapacity_0f7a4 b mn D = some ((cap : Int) + max (mn - cap) (cap + 2)) := by
      unfold fJ5_newCapacity_0f7a4 fJ8_newLength_cabcc
      rw [if_pos h1, if_pos r1, r2, h2, y0 mn (by omega) (by omega), show zshl 2 0 = 2 by decide, if_pos (by constructor <;> omega), if_pos (by constructor <;> omega), if_pos (by constructor <;> omega), if_pos (by omega), if_neg (by omega)]
      simp only [Option.bind_some]
      rw [if_neg (by omega), z0 _ (by omega) (by omega)]
    rw [hn]
    simp only [Option.bind_some]
    generalize hN : (cap : Int) + max (mn - cap) (cap + 2) = N at *
    have hN1 : mn ≤ N ∧ N ≤ 1000 ∧ (cap : Int) < N := by omega
    rw [y0 N (by omega) (by omega)]
    have eN : ((N.toNat : Nat) : Int) = N := Int.toNat_of_nonneg (by omega)
    have n1 : dO (dnew D 21 N.toNat) (dT D) 21 := dO_nw (dO_gt h1)
    have E1 : Ev P 1 N.toNat D (dnew D 21 N.toNat) := Ev.dnew D
    have al := h4.2.1
    have bl := h1.2.1
    have a4 : dO (dnew D 21 N.toNat) (dW D b 0) 21 := E1.dO h4
    have ar : isArr (dnew D 21 N.toNat) (dW D b 0) := Or.inr ⟨a4.1, a4.2.1, by rw [a4.2.2]; decide⟩
    have hz : (dH (dnew D 21 N.toNat) (dW D b 0)).2 = cap := by rw [E1.sz h4]; exact hcap
    have al2 : alen (dnew D 21 N.toNat) (dW D b 0) = cap := by unfold alen; rw [if_neg (by omega), hz]
    have nz : (dH (dnew D 21 N.toNat) (dT D)).2 = N.toNat := dH_nw
    unfold fJ7_copyOf_9075b
    rw [if_pos r1, r2, if_neg (by omega), if_pos ⟨⟨by omega, by omega⟩, by omega, by omega⟩, zl_eq, if_pos ar, if_pos a4, al2, hz, nz, if_pos ⟨by omega, by omega, by omega, by omega, by omega⟩, zl_eq]
    simp only [Option.bind_some]
    rw [zl_eq]
    have E2 : Ev P 0 0 (dnew D 21 N.toNat) (dcpy (dnew D 21 N.toNat) (dW D b 0) (dT D) 0 0 (min (cap : Int) N)) := Ev.dcpy _ (fun _ => h0 _ (Int.le_refl _))
    have E3 : Ev P 0 0 (dcpy (dnew D 21 N.toNat) (dW D b 0) (dT D) 0 0 (min (cap : Int) N)) (dup (dcpy (dnew D 21 N.toNat) (dW D b 0) (dT D) 0 0 (min (cap : Int) N)) b 0 (dT D)) := Ev.dup _ (fun _ => hb)
    have E := (E1.trans E2 (fun _ _ z => z)).trans E3 (fun _ _ z => z)
    have x0 : dW (dup (dcpy (dnew D 21 N.toNat) (dW D b 0) (dT D) 0 0 (min (cap : Int) N)) b 0 (dT D)) b 0 = dT D := by rw [dup_at, if_pos ⟨rfl, rfl⟩]
    have bne : b ≠ dT D := by omega
    have xk : ∀ j : Int, j ≠ 0 → dW (dup (dcpy (dnew D 21 N.toNat) (dW D b 0) (dT D) 0 0 (min (cap : Int) N)) b 0 (dT D)) b j = dW D b j := fun j hj => by
      rw [dup_at, if_neg (fun q => hj q.2), dcpy_at, if_neg (fun q => bne q.1), dnew_at, if_neg bne]
    have xa : ∀ j : Nat, j < l.length → dW (dup (dcpy (dnew D 21 N.toNat) (dW D b 0) (dT D) 0 0 (min (cap : Int) N)) b 0 (dT D)) (dT D) j = l.getD j 0 := fun j hj => by
      rw [dup_at, if_neg (fun q => bne q.1.symm), dcpy_at, if_pos ⟨rfl, by omega, by omega⟩, dnew_at, if_neg (by omega), show (0 : Int) + ((j : Int) - 0) = j by omega]
      exact h8 j hj
    have oa : dO (dup (dcpy (dnew D 21 N.toNat) (dW D b 0) (dT D) 0 0 (min (cap : Int) N)) b 0 (dT D)) (dT D) 21 := n1
    have sz : (dH (dup (dcpy (dnew D 21 N.toNat) (dW D b 0) (dT D) 0 0 (min (cap : Int) N)) b 0 (dT D)) (dT D)).2 = N.toNat := nz
    refine ⟨_, rfl, ⟨E.dO h1, hb, by rw [xk 1 (by decide)]; exact h2, by rw [xk 3 (by decide)]; exact h3, by rw [x0]; exact ⟨oa, h0 _ (Int.le_refl _)⟩, by rw [x0, sz]; omega, fun i hi => by rw [x0]; exact xa i hi, h9⟩, by rw [x0, sz]; omega, E.mono (by omega) (by omega) (fun _ _ z => z)⟩
  · rw [if_neg c]
    exact ⟨D, rfl, h', by omega, (Ev.refl _ D).mono (by decide) (by decide) (fun _ _ z => z)⟩
theorem SB.lat (h : SB P D b l) : fJ5_isLatin1_aae02 b D = some 1 := by
  unfold fJ5_isLatin1_aae02
  rw [if_neg (by decide), if_pos h.1, h.2.2.1, if_pos rfl]
/-- more characters written behind the others -/
theorem SB.put {D' : DD} {s : List Int} (h : SB P D b l) (hO : ∀ a k, dO D a k → dO D' a k) (hZ : dH D' (dW D b 0) = dH D (dW D b 0)) (h0 : dW D' b 0 = dW D b 0) (h1 : dW D' b 1 = 0) (h3 : dW D' b 3 = ((l.length + s.length : Nat) : Int)) (hl : ((l.length + s.length : Nat) : Int) ≤ (dH D (dW D b 0)).2) (ho : ∀ i : Nat, i < l.length → dW D' (dW D b 0) i = dW D (dW D b 0) i) (hn : ∀ i : Nat, i < s.length → dW D' (dW D b 0) ((l.length + i : Nat) : Int) = s.getD i 0) (hs : ∀ c ∈ s, 0 ≤ c ∧ c < 128) : SB P D' b (l ++ s) := by
  obtain ⟨g1, gb, g2, g3, ⟨g4, g5⟩, ⟨g6, g7⟩, g8, g9⟩ := h
  have len : (l ++ s).length = l.length + s.length := List.length_append
  refine ⟨hO _ _ g1, gb, h1, by rw [len]; exact h3, by rw [h0]; exact ⟨hO _ _ g4, g5⟩, by rw [h0, hZ, len]; exact ⟨hl, g7⟩, fun i hi => ?_, fun c hc => ?_⟩
  · rw [h0, getD_app]
    rw [len] at hi
    by_cases c : i < l.length
    · rw [if_pos c, ho i c]; exact g8 i c
    · rw [if_neg c]
      have := hn (i - l.length) (by omega)
      rw [show l.length + (i - l.length) = i by omega] at this
      exact this
  · rcases List.mem_append.mp hc with q | q
    · exact g9 c q
    · exact hs c q
theorem SB.kd {D' : DD} {j k v : Int} (h : SB P D b l) : True := trivial
/-- a character -/
theorem s_appC {c : Int} (h : SB P D b l) (hc : 0 ≤ c ∧ c < 128) (hl : l.length ≤ 400) (hT : dT D < 600000) (hS : dS D + 1000 ≤ 7200000) (h0 : ∀ a, dT D ≤ a → P a) : ∃ D', fJ4_append_cf468 b c D = some (b, D') ∧ SB P D' b (l ++ [c]) ∧ Ev P 1 1000 D D' := by
  have e3 := h.2.2.2.1
  obtain ⟨D1, a1, a2, a3, a4⟩ := s_ens (mn := (l.length : Int) + 1) h (by omega) hT hS h0
  have a2' := a2
  obtain ⟨g1, gb, g2, g3, ⟨g4, g5⟩, ⟨g6, g7⟩, g8, g9⟩ := a2
  have ne : b ≠ dW D1 b 0 := dO_ne g1 g4 (by decide)
  unfold fJ4_append_cf468 fJ5_append_3fe6f
  rw [if_pos h.1, e3, if_pos (by constructor <;> omega), a1]
  simp only [Option.bind_some]
  rw [a2'.lat]
  simp only [Option.bind_some]
  rw [if_neg (by decide), show fJ1_canEncode_fc78d c D1 = some 1 by unfold fJ1_canEncode_fc78d; rw [if_neg (by omega)]]
  simp only [Option.bind_some]
  rw [if_neg (by decide), g3, if_pos (by constructor <;> omega), zl_eq, if_pos (by omega), if_pos (show dO (dup D1 b 3 ((l.length : Int) + 1)) (dW D1 b 0) 21 from g4), if_pos ⟨by omega, by show (l.length : Int) < ((dH D1 (dW D1 b 0)).2 : Int); omega⟩, if_pos (by omega), zl_eq]
  simp only [Option.bind_some]
  rw [if_pos h.1]
  have E2 : Ev P 0 0 D1 (dup (dup D1 b 3 ((l.length : Int) + 1)) (dW D1 b 0) l.length c) := (Ev.dup (P := P) D1 (fun _ => gb)).trans (Ev.dup (P := P) _ (fun _ => g5)) (fun _ _ z => z)
  refine ⟨_, rfl, a2'.put (s := [c]) (fun a k q => E2.dO q) rfl ?_ ?_ ?_ (by show ((l.length + 1 : Nat) : Int) ≤ _; omega) (fun i hi => ?_) (fun i hi => ?_) (fun x hx => by rw [List.mem_singleton] at hx; rw [hx]; exact hc), (a4.trans E2 (fun _ _ z => z)).mono (by decide) (by decide) (fun _ _ z => z)⟩
  · rw [dup_at, if_neg (fun q => ne q.1), dup_at, if_neg (by omega)]
  · rw [dup_at, if_neg (fun q => ne q.1), dup_at, if_neg (by omega)]; exact g2
  · rw [dup_at, if_neg (fun q => ne q.1), dup_at, if_pos ⟨rfl, rfl⟩]; show (l.length : Int) + 1 = ((l.length + 1 : Nat) : Int); omega
  · rw [dup_at, if_neg (by omega), dup_at, if_neg (fun q => ne q.1.symm)]
  · have hi : i < 1 := hi
    have : i = 0 := by omega
    subst this
    rw [dup_at, if_pos ⟨rfl, rfl⟩]
    rfl
theorem kc_dig : ∀ n : Nat, n < 100 → zKC 1000011 (n : Int) = 48 + (n : Int) % 10 ∧ zKC 1000010 (n : Int) = 48 + (n : Int) / 10 := by decide +kernel
theorem s_size2 {n : Int} (hn : 0 ≤ n ∧ n < 100) : fJ6_stringSize_0f7a4 n D = some (if n < 10 then 1 else 2) := by
  unfold fJ6_stringSize_0f7a4 fJ6_stringSize_0f7a4_b11
  rw [if_neg (by omega), if_pos (by constructor <;> omega)]
  by_cases c : n < 10
  · have e : zlp (fun q => fJ6_stringSize_0f7a4_s16 (-n) 0 q.1 q.2 D) FU ((-10), 1) = some (.inr 1) := by
      refine zlp_r (n := 99999) ?_
      show fJ6_stringSize_0f7a4_s16 (-n) 0 (-10) 1 D = _
      unfold fJ6_stringSize_0f7a4_s16
      rw [if_pos (by decide), if_pos (by omega), if_pos (by decide)]
      rfl
    rw [e, if_pos c]
    rfl
  · have e : zlp (fun q => fJ6_stringSize_0f7a4_s16 (-n) 0 q.1 q.2 D) FU ((-10), 1) = some (.inr 2) := by
      have s1 : (fun q : Int × Int => fJ6_stringSize_0f7a4_s16 (-n) 0 q.1 q.2 D) ((-10), 1) = some (.inl ((-100), 2)) := by
        show fJ6_stringSize_0f7a4_s16 (-n) 0 (-10) 1 D = _
        unfold fJ6_stringSize_0f7a4_s16
        rw [if_pos (by decide), if_neg (by omega), if_pos (by decide), if_pos (by decide)]
        rfl
      rw [show FU = 99999 + 1 from rfl, zlp_l s1]
      refine zlp_r (n := 99998) ?_
      show fJ6_stringSize_0f7a4_s16 (-n) 0 (-100) 2 D = _
      unfold fJ6_stringSize_0f7a4_s16
      rw [if_pos (by decide), if_pos (by omega), if_pos (by decide)]
      rfl
    rw [e, if_neg c]
    rfl
theorem nm_len (n : Int) : ((nm n).length : Int) = if n < 10 then 1 else 2 := by
  unfold nm
  split <;> rfl
theorem nm_ch {n : Int} (hn : 0 ≤ n ∧ n < 100) : ∀ c ∈ nm n, 48 ≤ c ∧ c < 58 := by
  intro c hc
  unfold nm at hc
  split at hc
  · rw [List.mem_singleton] at hc; omega
  · rcases List.mem_cons.mp hc with q | q
    · omega
    · rw [List.mem_singleton] at q; omega
/-- a number -/
theorem s_appI {n : Int} (h : SB P D b l) (hn : 0 ≤ n ∧ n < 100) (hl : l.length ≤ 400) (hT : dT D < 600000) (hS : dS D + 1000 ≤ 7200000) (h0 : ∀ a, dT D ≤ a → P a) : ∃ D', fJ4_append_bf812 b n D = some (b, D') ∧ SB P D' b (l ++ nm n) ∧ Ev P 1 1000 D D' := by
  have e3 := h.2.2.2.1
  have hL := nm_len n
  have hL2 : 1 ≤ ((nm n).length : Int) ∧ ((nm n).length : Int) ≤ 2 := by rw [hL]; split <;> omega
  obtain ⟨D1, a1, a2, a3, a4⟩ := s_ens (mn := (l.length : Int) + (nm n).length) h (by omega) hT hS h0
  have a2' := a2
  obtain ⟨g1, gb, g2, g3, ⟨g4, g5⟩, ⟨g6, g7⟩, g8, g9⟩ := a2
  have ne : b ≠ dW D1 b 0 := dO_ne g1 g4 (by decide)
  have kd := kc_dig n.toNat (by omega)
  rw [Int.toNat_of_nonneg hn.1] at kd
  unfold fJ4_append_bf812 fJ5_append_c97b9
  rw [if_pos h.1, s_size2 hn, ← hL]
  simp only [Option.bind_some]
  rw [e3, if_pos (by constructor <;> omega), a1]
  simp only [Option.bind_some]
  rw [a2'.lat]
  simp only [Option.bind_some]
  rw [if_neg (by decide)]
  unfold fJ6_getChars_ba4f3 fJ6_getChars_ba4f3_b12
  have lz : ∀ X : DD, ∀ p6 : Int, zlp (fun q => fJ6_getChars_ba4f3_s22 (dW D1 b 0) p6 q.1 q.2.1 q.2.2) FU ((-n), (l.length : Int) + (nm n).length, X) = some ((-n), (l.length : Int) + (nm n).length, X) := fun X p6 => by
    refine zlp_r (n := 99999) ?_
    show fJ6_getChars_ba4f3_s22 (dW D1 b 0) p6 (-n) _ X = _
    unfold fJ6_getChars_ba4f3_s22
    rw [if_pos (by omega)]
  rw [if_neg (by omega), if_pos rfl, if_pos (by constructor <;> omega), lz]
  simp only [Option.bind_some]
  rw [show - -n = n by omega, if_pos hn, if_pos g4, if_pos (by omega), kd.1, if_pos (by omega), zl_eq]
  have fin : ∀ X : DD, (X = dup D1 (dW D1 b 0) ((l.length : Int) + (nm n).length + -1) (48 + n % 10) ∧ n < 10) ∨ (X = dup (dup D1 (dW D1 b 0) ((l.length : Int) + (nm n).length + -1) (48 + n % 10)) (dW D1 b 0) ((l.length : Int) + (nm n).length + -1 + -1) (48 + n / 10) ∧ ¬ n < 10) → SB P (dup X b 3 ((l.length : Int) + (nm n).length)) b (l ++ nm n) ∧ Ev P 1 1000 D (dup X b 3 ((l.length : Int) + (nm n).length)) := by
    intro X hX
    have EX : Ev P 0 0 D1 X := by
      rcases hX with ⟨q, -⟩ | ⟨q, -⟩
      · rw [q]; exact Ev.dup (P := P) D1 (fun _ => g5)
      · rw [q]; exact (Ev.dup (P := P) D1 (fun _ => g5)).trans (Ev.dup (P := P) _ (fun _ => g5)) (fun _ _ z => z)
    have ZX : dH X = dH D1 := by rcases hX with ⟨q, -⟩ | ⟨q, -⟩ <;> rw [q] <;> rfl
    have bX : ∀ j, dW X b j = dW D1 b j := fun j => by
      rcases hX with ⟨q, -⟩ | ⟨q, -⟩
      · rw [q, dup_at, if_neg (fun q => ne q.1)]
      · rw [q, dup_at, if_neg (fun q => ne q.1), dup_at, if_neg (fun q => ne q.1)]
    have E2 : Ev P 0 0 D1 (dup X b 3 ((l.length : Int) + (nm n).length)) := EX.trans (Ev.dup (P := P) X (fun _ => gb)) (fun _ _ z => z)
    have aX : ∀ j, dW (dup X b 3 ((l.length : Int) + (nm n).length)) (dW D1 b 0) j = dW X (dW D1 b 0) j := fun j => by rw [dup_at, if_neg (fun q => ne q.1.symm)]
    refine ⟨a2'.put (fun a k q => E2.dO q) (by show dH X _ = _; rw [ZX]) (by rw [dup_at, if_neg (by omega), bX]) (by rw [dup_at, if_neg (by omega), bX]; exact g2) (by rw [dup_at, if_pos ⟨rfl, rfl⟩]; omega) (by omega) (fun i hi => ?_) (fun i hi => ?_) (fun c hc => by have := nm_ch hn c hc; omega), (a4.trans E2 (fun _ _ z => z)).mono (by decide) (by decide) (fun _ _ z => z)⟩
    · rw [aX]
      rcases hX with ⟨q, q'⟩ | ⟨q, q'⟩
      · rw [q, dup_at, if_neg (by omega)]
      · rw [if_neg q'] at hL
        rw [q, dup_at, if_neg (by omega), dup_at, if_neg (by omega)]
    · rw [aX]
      rcases hX with ⟨q, q'⟩ | ⟨q, q'⟩
      · rw [if_pos q'] at hL
        have : i = 0 := by omega
        subst this
        rw [q, dup_at, if_pos ⟨rfl, by omega⟩]
        unfold nm
        rw [if_pos q']
        show 48 + n % 10 = 48 + n
        omega
      · rw [if_neg q'] at hL
        have hi2 : i = 0 ∨ i = 1 := by omega
        rcases hi2 with w | w <;> subst w
        · rw [q, dup_at, if_pos ⟨rfl, by omega⟩]
          unfold nm
          rw [if_neg q']
          rfl
        · rw [q, dup_at, if_neg (by omega), dup_at, if_pos ⟨rfl, by omega⟩]
          unfold nm
          rw [if_neg q']
          rfl
  have b104 : ∀ (X : DD) (k : Int), fJ6_getChars_ba4f3_b104 (dW D1 b 0) k 0 X = some (k, X) := fun X k => by
    unfold fJ6_getChars_ba4f3_b104
    rw [if_pos rfl]
  by_cases c : n < 10
  · rw [if_neg (by omega), if_pos (by constructor <;> omega), b104]
    simp only [Option.bind_some]
    rw [zl_eq]
    simp only [Option.bind_some]
    rw [if_pos h.1]
    have := fin _ (Or.inl ⟨rfl, c⟩)
    exact ⟨_, rfl, this.1, this.2⟩
  · rw [if_neg c] at hL
    rw [if_pos (by omega), if_pos hn, if_pos (by show 0 ≤ (l.length : Int) + (nm n).length + -1 + -1 ∧ (l.length : Int) + (nm n).length + -1 + -1 < ((dH D1 (dW D1 b 0)).2 : Int); omega), kd.2, if_pos (by omega), zl_eq, if_pos (by constructor <;> omega), b104]
    simp only [Option.bind_some]
    rw [zl_eq]
    simp only [Option.bind_some]
    rw [if_pos h.1]
    have := fin _ (Or.inr ⟨rfl, c⟩)
    exact ⟨_, rfl, this.1, this.2⟩
end SBs
