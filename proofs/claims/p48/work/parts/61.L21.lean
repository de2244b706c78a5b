set_option maxRecDepth 20000
/-! a route is set -/
theorem l_x7 {D : DD} {e wl gr dy : Int} (hO : dO D e 8) (hT : dT D < 600000) (hS : dS D + 9 ≤ 7200000) : ∃ D', fX7_init e wl gr dy D = some D' ∧ dW D' e 0 = wl ∧ dW D' e 1 = gr ∧ dW D' e 2 = dy ∧ (∀ j, 3 ≤ j → j < 6 → dW D' e j = dW D e j) ∧ dW D' e 6 = dT D ∧ TM (fun a => a = dT D) D' (dT D) [] 0 ∧ dT D' = dT D + 1 ∧ Ev (fun a => a = e) 1 9 D D' := by
  have hb := dO_gt hO
  have n1 : dO (dnew D 11 9) (dT D) 11 := dO_nw hb
  have E1 : Ev (fun a => a = e) 1 9 D (dnew D 11 9) := Ev.dnew D
  have z0 : ∀ j, dW (dnew D 11 9) (dT D) j = 0 := fun j => by rw [dnew_at, if_pos rfl]
  obtain ⟨D4, a1, a2, a3⟩ := s_tmInit (c := fun a => a = dT D) n1 rfl z0
  have ne : e ≠ dT D := by have := hO.2.1; omega
  have E4 : Ev (fun a => a = e) 1 9 D D4 := (E1.trans a3 (fun b hb' z => by omega)).mono (by omega) (by omega) (fun _ _ z => z)
  have hO4 := E4.dO hO
  unfold fX7_init
  rw [if_pos ⟨hO.1, hO.2.1, trivial⟩, if_pos ⟨by omega, by omega⟩, zl_eq, a1]
  simp only [Option.bind_some]
  rw [if_pos hO4, zl_eq, zl_eq, zl_eq, zl_eq]
  have E5 : Ev (fun a => a = e) 0 0 D4 (dup (dup (dup (dup D4 e 6 (dT D)) e 0 wl) e 1 gr) e 2 dy) := ((((Ev.dup (P := fun a => a = e) D4 (fun _ => rfl)).trans (Ev.dup (P := fun a => a = e) _ (fun _ => rfl)) (fun _ _ z => z)).trans (Ev.dup (P := fun a => a = e) _ (fun _ => rfl)) (fun _ _ z => z)).trans (Ev.dup (P := fun a => a = e) _ (fun _ => rfl)) (fun _ _ z => z)).mono (by omega) (by omega) (fun _ _ z => z)
  refine ⟨_, rfl, ?_, ?_, ?_, fun j b c => ?_, ?_, a2.ev E5 (fun a _ q z => ?_), ?_, (E4.trans E5 (fun _ _ z => z)).mono (by omega) (by omega) (fun _ _ z => z)⟩
  · rw [dup_at, if_neg (by omega), dup_at, if_neg (by omega), dup_at, if_pos ⟨rfl, rfl⟩]
  · rw [dup_at, if_neg (by omega), dup_at, if_pos ⟨rfl, rfl⟩]
  · rw [dup_at, if_pos ⟨rfl, rfl⟩]
  · rw [dup_at, if_neg (by omega), dup_at, if_neg (by omega), dup_at, if_neg (by omega), dup_at, if_neg (by omega), a3.at (by have := E1.1; omega) (by omega), dnew_at, if_neg ne]
  · rw [dup_at, if_neg (by omega), dup_at, if_neg (by omega), dup_at, if_neg (by omega), dup_at, if_pos ⟨rfl, rfl⟩]
  · have q : a = dT D := q
    have z : a = e := z
    omega
  · show dT D4 = dT D + 1
    have := a3.1
    have := a3.2.1
    have h1 : dT (dnew D 11 9) = dT D + 1 := rfl
    omega
theorem nodup_snoc {l : List Int} {e : Int} (h : l.Nodup) (he : e ∉ l) : (l ++ [e]).Nodup := by
  rw [List.nodup_append]
  refine ⟨h, by simp, fun a ha b hb => ?_⟩
  rw [List.mem_singleton] at hb
  intro q
  rw [q, hb] at ha
  exact he ha
theorem getD_snoc {l : List Int} {e : Int} {k : Nat} (hk : k < (l ++ [e]).length) : (l ++ [e]).getD k 0 = if k < l.length then l.getD k 0 else e := by
  rw [List.getD_eq_getElem?_getD, List.getD_eq_getElem?_getD]
  by_cases c : k < l.length
  · rw [if_pos c, List.getElem?_append_left c]
  · rw [if_neg c]
    have : k = l.length := by simp at hk; omega
    subst this
    simp
theorem VT_nil {f : Int → Int} {n : Int} (h : ∀ m, 0 ≤ m → m < n → f m = -1) : VT [] f n := by
  refine ⟨List.Pairwise.nil, (fun _ h => nomatch h), fun m v m0 m1 => ?_⟩
  constructor
  · intro q; cases q
  · rintro ⟨q1, q2⟩
    rw [h m m0 m1] at q1
    exact absurd q1.symm q2
section AR
variable {col : Col} {D : DD} {g : Int} {r : Row} {M B wl gr : Int} {h : HLs}
theorem RLh.mem_lr (H : RLh col D g r M h) {e : Int} (he : e ∈ h.lr) : e < dT D := by
  obtain ⟨i, hi, q⟩ := mem_getD he
  have := (H.er i hi).1.2.1
  omega
theorem l_addRoute (H : RLh col D g r M h) (hI : IH B r) (h24 : r 37 < 24) (hM : M < 900000) (hT : dT D + 10 < 600000) (hS : dS D + 100 ≤ 7200000) :
    ∃ D18 D19, fX7_init (dT D) wl gr (dW (dnew D 8 7) g 3) (dnew D 8 7) = some D18 ∧ fJx4a65c_add_9ea2d (dW D g 5) (dT D) D18 = some (1, D19) ∧ Out col D g (newR r wl gr) M 3 64 1 D19 := by
  have hn := hI.1
  unfold IHn at hn
  have hb := dO_gt H.o
  have g0 := H.o.2.1
  have g151 := H.o.1
  have n1 : dO (dnew D 8 7) (dT D) 8 := dO_nw hb
  have E1 : Ev (fun _ => False) 1 7 D (dnew D 8 7) := Ev.dnew D
  have e3 : dW (dnew D 8 7) g 3 = r 3 := by rw [E1.at g0 (fun z => z)]; exact H.f3
  have z0 : ∀ j, dW (dnew D 8 7) (dT D) j = 0 := fun j => by rw [dnew_at, if_pos rfl]
  have t17 : dT (dnew D 8 7) = dT D + 1 := rfl
  have s17 : dS (dnew D 8 7) = dS D + 7 := rfl
  obtain ⟨D18, a1, a2, a3, a4, a5, a6, a7, a8, a9⟩ := l_x7 (wl := wl) (gr := gr) (dy := dW (dnew D 8 7) g 3) n1 (by omega) (by omega)
  rw [t17] at a6 a7 a8
  generalize hE : dT D = e at *
  have E18 : Ev (fun a => a = e) 2 16 D D18 := ((E1.mono (P' := fun a => a = e) (Int.le_refl _) (Int.le_refl _) (fun _ _ z => z.elim)).trans a9 (fun _ _ z => z)).mono (by omega) (by omega) (fun _ _ z => z)
  generalize hc : (fun a => if a = e then (g, 15) else if a = e + 1 then (g, e) else if a < e then col a else (g, 5) : Col) = col'
  have c0 : ∀ a, a < e → col' a = col a := fun a ha => by rw [← hc]; show (if a = e then _ else if a = e + 1 then _ else if a < e then col a else _) = _; rw [if_neg (by omega), if_neg (by omega), if_pos ha]
  have ce : col' e = (g, 15) := by rw [← hc]; exact if_pos rfl
  have cm : col' (e + 1) = (g, e) := by rw [← hc]; show (if e + 1 = e then _ else if e + 1 = e + 1 then _ else _) = _; rw [if_neg (by omega), if_pos rfl]
  have c9 : ∀ a, e + 2 ≤ a → col' a = (g, 5) := fun a ha => by rw [← hc]; show (if a = e then _ else if a = e + 1 then _ else if a < e then _ else _) = _; rw [if_neg (by omega), if_neg (by omega), if_neg (by omega)]
  have H18 : RLh col' D18 g r M h := H.keep E18 (fun a ha _ z => by have z : a = e := z; omega) (fun a ha => c0 a (by omega))
  have l18 : dW D18 g 5 = dW D g 5 := E18.at (by omega) (by omega) 5
  have hN := H.nr
  have A18 : AL D18 (dW D g 5) h.lr M := by have := H18.rt.1; rw [l18] at this; exact this
  have hO18 : dO D18 e 8 := a9.dO n1
  have b18 := E18.2.1
  have b18s := E18.2.2.2.1
  obtain ⟨D19, w1, w2, w3, w4⟩ := s_add (v := e) A18 (by omega) (by omega) (Or.inr (Or.inl ⟨hO18.1, hO18.2.1, by rw [hO18.2.2]; decide⟩)) (by omega) (by omega)
  refine ⟨D18, D19, a1, w1, col', M + 1, ⟨h.lw, h.lr ++ [e], h.lh, h.lm, h.lc, h.la⟩, ?_, fun a ha => c0 a (by omega), ?_, by omega, Int.le_refl _⟩
  · have hl5 : col' (dW D g 5) = (g, 5) := by have := H18.rt.2.1; rw [l18] at this; exact this
    have har : dW D18 (dW D g 5) 1 = 1000012 ∨ col' (dW D18 (dW D g 5) 1) = (g, 5) := by have := H18.rt.2.2; rw [l18] at this; exact this
    have P5 : ∀ a, a < dT D18 → FA D18 (dW D g 5) a → col' a = (g, 5) := fun a ha q => by
      rcases q with q | q
      · rw [q]; exact hl5
      · rcases har with p | p
        · omega
        · rw [q]; exact p
    have gno : ¬ FA D18 (dW D g 5) g := fun q => by
      have := P5 g H18.o.2.1 q
      rw [H18.co] at this
      have : (0 : Int) = 5 := congrArg Prod.snd this
      omega
    have eno : ¬ FA D18 (dW D g 5) e := fun q => by
      have := P5 e hO18.2.1 q
      rw [ce] at this
      have : (15 : Int) = 5 := congrArg Prod.snd this
      omega
    have g19 : dW D19 g 5 = dW D g 5 := by rw [w3.at H18.o.2.1 gno, l18]
    refine H18.upd (q := 5) (M' := M + 1) hI.1 w3 P5 (by decide) (by omega) (by omega) (fun p p0 p1 => ?_) (Or.inl (by decide)) (Or.inl (by decide)) (Or.inr ⟨⟨?_, ?_, ?_⟩, ?_, ?_, fun k hk => ?_⟩) (Or.inl (by decide)) (Or.inl (by decide)) (Or.inl ⟨by decide, rfl⟩) ⟨rfl, rfl, rfl, rfl⟩ (by decide)
    · unfold pl at p1
      exact newR_o (by omega) (by omega)
    · rw [g19]; exact w2
    · rw [g19]; exact hl5
    · rw [g19]
      rcases w4 with q | q
      · rw [q]; exact har
      · exact Or.inr (c9 _ (by omega))
    · show (((h.lr ++ [e]).length : Nat) : Int) = newR r wl gr 37
      rw [newR_37, List.length_append]
      show ((h.lr.length + 1 : Nat) : Int) = _
      omega
    · exact nodup_snoc H.dr (fun q => by have := H.mem_lr q; omega)
    · have hk' : k < h.lr.length + 1 := by have : k < (h.lr ++ [e]).length := hk; simpa using this
      show RR col' D19 g ((h.lr ++ [e]).getD k 0) _ _ _
      rw [getD_snoc hk]
      by_cases ck : k < h.lr.length
      · rw [if_pos ck]
        have x := H18.er k ck
        obtain ⟨y1, y2, y3, L, y4, y5, y6, y7⟩ := (x.mono (M' := M + 1) (by omega)).ev w3 (fun q => by
          have := P5 _ x.1.2.1 q
          rw [x.2.1] at this
          have : (15 : Int) = 5 := congrArg Prod.snd this
          omega) (fun a ha q q' => by
          have := P5 _ ha q'
          rw [q] at this
          have : h.lr.getD k 0 = 5 := congrArg Prod.snd this
          have := x.1.1
          omega)
        have ne : ∀ c : Int, 0 ≤ c → c < 18 → newR r wl gr (38 + 18 * k + c) = r (38 + 18 * k + c) := fun c c1 c2 => newR_o (by omega) (by omega)
        refine ⟨y1, y2, fun j hj => by rw [y3 j hj]; exact (ne j (by omega) (by omega)).symm, L, y4, y5, y6, fun m v m0 m1 => ?_⟩
        rw [y7 m v m0 m1]
        show (r (38 + 18 * k + (6 + m)) = v ∧ v ≠ -1) ↔ (newR r wl gr (38 + 18 * k + (6 + m)) = v ∧ v ≠ -1)
        rw [ne (6 + m) (by omega) (by omega)]
      · rw [if_neg ck]
        have ek : (k : Int) = r 37 := by omega
        have nw : ∀ c : Int, 0 ≤ c ∧ c < 18 → newR r wl gr (38 + 18 * k + c) = if c = 0 then wl else if c = 1 then gr else if c = 2 then r 3 else if c < 6 then 0 else -1 := fun c hc => by rw [ek]; exact newR_n hn.2.2.1 hc
        have at9 : ∀ j, dW D19 e j = dW D18 e j := fun j => w3.at hO18.2.1 eno j
        refine ⟨w3.dO hO18, ce, fun j hj => ?_, [], ?_, VT_nil (fun m m0 m1 => ?_)⟩
        · show _ = newR r wl gr (38 + 18 * k + j)
          rw [nw j (by omega), at9]
          by_cases j0 : j = 0
          · subst j0; rw [if_pos (show ((0 : Nat) : Int) = 0 from rfl)]; exact a2
          by_cases j1 : j = 1
          · subst j1; rw [if_neg (show ¬ ((1 : Nat) : Int) = 0 by decide), if_pos (show ((1 : Nat) : Int) = 1 from rfl)]; exact a3
          by_cases j2 : j = 2
          · subst j2; rw [if_neg (show ¬ ((2 : Nat) : Int) = 0 by decide), if_neg (show ¬ ((2 : Nat) : Int) = 1 by decide), if_pos (show ((2 : Nat) : Int) = 2 from rfl), ← e3]; exact a4
          rw [if_neg (by omega), if_neg (by omega), if_neg (by omega), if_pos (by omega), a5 j (by omega) (by omega), z0]
        · rw [at9, a6]
          refine (a7.mono (M' := M + 1) (c' := fun a => col' a = (g, e)) (fun a _ q => by have q : a = e + 1 := q; rw [q]; exact cm) (by have := H.rt.1.2.2.1; omega)).ev w3 (fun a ha q q' => ?_)
          have := P5 _ ha q'
          rw [q] at this
          have : e = 5 := congrArg Prod.snd this
          omega
        · show newR r wl gr (38 + 18 * k + (6 + m)) = -1
          rw [nw (6 + m) (by omega), if_neg (by omega), if_neg (by omega), if_neg (by omega), if_neg (by omega)]
  · refine ((E18.mono (P' := fun a => (col a).1 = g) (Int.le_refl _) (Int.le_refl _) (fun a ha z => by have z : a = e := z; omega)).trans w3 (fun a ha q => ?_)).mono (by omega) (by omega) (fun _ _ z => z)
    rw [hE] at ha
    rcases q with q | q
    · rw [q, H.rt.2.1]
    · have x : dW D18 (dW D g 5) 1 = dW D (dW D g 5) 1 := E18.at H.rt.1.1.2.1 (by have := H.rt.1.1.2.1; omega) 1
      rw [x] at q
      rcases H.rt.2.2 with p | p
      · omega
      · rw [q, p]
end AR
