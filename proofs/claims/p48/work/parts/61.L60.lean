set_option maxRecDepth 20000
/-! several halls of the law under one colouring -/
theorem ev_djn {D : DD} : ∀ k : Nat, Ev (fun _ => False) k (6 * k) D (djn k D)
  | 0 => Ev.refl _ D
  | k + 1 => by
    have h := ev_djn (D := D) k
    have h1 : Ev (fun _ => False) 1 6 (djn k D) (djn (k + 1) D) := ⟨by show dT (djn k D) ≤ dT (djn k D) + 1; omega, by show dT (djn k D) + 1 ≤ _; omega, by show dS (djn k D) ≤ dS (djn k D) + 6; omega, by show dS (djn k D) + 6 ≤ _; omega, fun e he => if_neg (by omega), fun e j he _ => if_neg (by omega)⟩
    exact (h.trans h1 (fun _ _ q => q)).mono (by omega) (by omega) (fun _ _ q => q)
def HH (col : Col) (D : DD) (g : Int) (r : Row) (M : Int) : Prop := ∃ h, RLh col D g r M h
section HHs
variable {col col' : Col} {D D' : DD} {g ow : Int} {r : Row} {M M' c s : Int}
theorem HH.o (h : HH col D g r M) : dO D g 7 := by obtain ⟨h, H⟩ := h; exact H.o
theorem HH.mv (h : HH col D g r M) (hne : g ≠ ow) (ho : 151 ≤ ow ∧ ow < dT D) (E : Ev (fun a => (col a).1 = ow) c s D D') (hc : ∀ a, a < dT D → (col a).1 < dT D → col' a = col a) (hm : M ≤ M') (h9 : M' < 1000000) : HH col' D' g r M' := by
  obtain ⟨h, H⟩ := h
  have gl := H.o.2.1
  have H1 : RLh col' D g r M h := H.recol (fun a ha q => hc a ha (by rcases q with q | q <;> rw [q] <;> first | exact gl | (show (0 : Int) < dT D; omega)))
  refine ⟨h, (H1.keep (col' := col') E (fun a ha q p => ?_) (fun _ _ => rfl)).mono hm h9⟩
  have e := hc a ha (by rw [p]; exact ho.2)
  rw [e] at q
  rcases q with q | q
  · exact hne (by rw [← q, p])
  · have := congrArg Prod.fst q
    have : (col a).1 = 0 := this
    omega
/-- what is kept beside the hall g: the history list v3 with its halls, the saved hall v4 -/
def LO (col : Col) (D : DD) (g v3 v4 : Int) (l : List Int) (rl : List Row) (sv : Option Row) (M : Int) : Prop :=
  (AL D v3 l M ∧ col v3 = (1, 0) ∧ (dW D v3 1 = 1000012 ∨ (dW D v3 1 < dT D ∧ col (dW D v3 1) = (1, 0)))) ∧ l.length = rl.length ∧ (∀ i : Nat, i < l.length → HH col D (l.getD i 0) (rl.getD i zrow) M) ∧ ((v4 = 0 ∧ sv = none) ∨ ∃ s, sv = some s ∧ HH col D v4 s M) ∧ (g :: l).Nodup ∧ ¬ v4 ∈ g :: l
theorem AL.mn {D : DD} {e : Int} {l : List Int} {m m' : Int} (h : AL D e l m) (h1 : m ≤ m') (h2 : m' < 1000000) : AL D e l m' := by
  obtain ⟨a1, a2, a3, a4⟩ := h
  exact ⟨a1, a2, ⟨a3.1, by omega, h2⟩, a4⟩
theorem getD_memI {l : List Int} {i : Nat} (h : i < l.length) : l.getD i 0 ∈ l := getD_mem h
theorem LO.ne {v3 v4 : Int} {l : List Int} {rl : List Row} {sv : Option Row} (h : LO col D g v3 v4 l rl sv M) {i : Nat} (hi : i < l.length) : l.getD i 0 ≠ g := fun e => (List.nodup_cons.mp h.2.2.2.2.1).1 (e ▸ getD_memI hi)
theorem LO.mv {v3 v4 : Int} {l : List Int} {rl : List Row} {sv : Option Row} (h : LO col D g v3 v4 l rl sv M) (hg : 151 ≤ g ∧ g < dT D) (E : Ev (fun a => (col a).1 = g) c s D D') (hc : ∀ a, a < dT D → (col a).1 < dT D → col' a = col a) (hm : M ≤ M') (h9 : M' < 1000000) : LO col' D' g v3 v4 l rl sv M' := by
  have h0 := h
  obtain ⟨⟨a1, a2, a3⟩, b, d, e, f, k⟩ := h
  have t1 : (1 : Int) < dT D := by omega
  have c3 : col' v3 = (1, 0) := by rw [hc v3 a1.1.2.1 (by rw [a2]; exact t1), a2]
  have n3 : ¬ (col v3).1 = g := by rw [a2]; show ¬ (1 : Int) = g; omega
  have n4 : dW D v3 1 = 1000012 ∨ ¬ (col (dW D v3 1)).1 = g := a3.imp id (fun q => by rw [q.2]; show ¬ (1 : Int) = g; omega)
  have e1 : dW D' v3 1 = dW D v3 1 := E.at a1.1.2.1 n3 1
  refine ⟨⟨?_, c3, ?_⟩, b, fun i hi => (d i hi).mv (h0.ne hi) hg E hc hm h9, ?_, f, k⟩
  · refine AL.mn ?_ hm h9
    obtain ⟨q1, q2, q3, q4, q5⟩ := a1
    have at' := fun j => E.at q1.2.1 n3 j
    refine ⟨E.dO q1, by rw [at']; exact q2, by rw [at']; exact q3, q4, ?_⟩
    rw [at']
    rcases q5 with q5 | q5
    · exact Or.inl q5
    · refine Or.inr (q5.ev E ?_)
      rcases n4 with n4 | n4
      · have := q5.1.2; omega
      · exact n4
  · rw [e1]
    rcases a3 with a3 | ⟨a3, a4⟩
    · exact Or.inl a3
    · exact Or.inr ⟨by have := E.1; omega, by rw [hc _ a3 (by rw [a4]; exact t1), a4]⟩
  · rcases e with e | ⟨q, e1, e2⟩
    · exact Or.inl e
    · exact Or.inr ⟨q, e1, e2.mv (fun x => k (by rw [x]; exact List.mem_cons_self ..)) hg E hc hm h9⟩
theorem LO.tmp {v3 v4 : Int} {l : List Int} {rl : List Row} {sv : Option Row} (h : LO col D g v3 v4 l rl sv M) (hg : 151 ≤ g ∧ g < dT D) (E : Ev (fun _ => False) c s D D') (h9 : M < 1000000) : LO col D' g v3 v4 l rl sv M :=
  h.mv hg (E.mono (Int.le_refl _) (Int.le_refl _) (fun _ _ q => q.elim)) (fun _ _ _ => rfl) (Int.le_refl _) h9
theorem HH.tmp (h : HH col D g r M) (E : Ev (fun _ => False) c s D D') : HH col D' g r M := by
  obtain ⟨h, H⟩ := h
  exact ⟨h, H.tmp E⟩
/-- the state of the law's loop -/
def OKr (B d : Int) (r : Row) : Prop := IH B r ∧ XJ r ∧ r 3 ≤ d
def LSt (col : Col) (D : DD) (z : ZZ) (g v3 v4 : Int) (r : Row) (l : List Int) (rl : List Row) (sv : Option Row) (M : Int) (B d : Int) : Prop :=
  HH col D g r M ∧ LO col D g v3 v4 l rl sv M ∧ CH z r rl.reverse sv ∧ OKr B d r ∧ (∀ q ∈ rl, OKr B d q) ∧ (∀ q, sv = some q → OKr B d q) ∧ M < 900000
/-- at a round's end -/
theorem l_b394 {ln : Nat} {z : ZZ} {v3 v4 v5 B d : Int} {l : List Int} {rl : List Row} {sv : Option Row} (S : LSt col D z g v3 v4 r l rl sv M B d) (hv : 0 ≤ v5 ∧ v5 ≤ 100) (hT : dT D + 2200 < 600000) (hS : dS D + 50000 ≤ 7200000) : ∃ z' D' col', fL_law_b394 g v3 v4 v5 ln z D = some (.inl (g, v4, v5 + 1, z', D')) ∧ LSt col' D' z' g v3 v4 r l rl sv M B d ∧ Ev (fun a => (col a).1 = g) 1100 36500 D D' := by
  obtain ⟨⟨h, H⟩, O, C, K, K1, K2, hM⟩ := S
  have ho : 151 ≤ g ∧ g < dT D := ⟨H.o.1, H.o.2.1⟩
  obtain ⟨z2, D2, w1, col', w2, w3, w4, w5, w6⟩ := l_isAs (ln := ln) H K.1 C.1 hT hS
  have C2 := C.f12 w6
  have O2 := O.mv ho w4 (fun a ha _ => w3 a ha) (Int.le_refl _) (by omega)
  refine ⟨z2, D2, col', ?_, ⟨⟨h, w2⟩, O2, C2, K, K1, K2, hM⟩, w4⟩
  unfold fL_law_b394
  rw [w1, Option.bind_some]
  dsimp only
  rw [if_pos H.o, if_neg (by decide), x_count0 C2, Option.bind_some, s_size O2.1.1, Option.bind_some, if_pos O2.1.1.1, if_pos (by rw [List.length_reverse, O2.2.1]), if_pos (inR_s (by omega))]
end HHs
