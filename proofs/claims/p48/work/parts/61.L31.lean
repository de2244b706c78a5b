set_option maxRecDepth 20000
/-! a drawn call -/
def clsF (r : Row) (w x : Int) : ZZ → Option ((Int ⊕ Nat) × ZZ) :=
  if w ≤ 3 then fX5_setRoute (on x (r 4)) (sm (x / 64) 0 29)
  else if w = 4 then fX5_removeRoute (on (x / 64) (r 37))
  else if w ≤ 8 then fX5_climb (on x (r 546)) (on (x / 64) (r 37))
  else if w ≤ 10 then fX5_vote (on x (r 546)) (on (x / 64) (r 37)) (sm (x / 64 / 7) 0 29)
  else if w ≤ 13 then fX5_lend (on x (r 546)) (on (x / 64) (r 470))
  else if w = 14 then fX5_giveBack (on x (r 546))
  else if w = 15 then fX5_check (on (x / 64) (r 470)) (bI (0 < x % 5))
  else if w ≤ 17 then fX5_enroll (on x (r 546)) (on (x / 64) (r 619))
  else if w = 18 then fX5_leaveCourse (on x (r 546))
  else if w = 19 then fX5_finish (on (x / 64) (r 619)) x
  else if w = 20 then fX5_postpone (on x (r 4)) (sm (x / 64) 1 14)
  else fX5_endDays (sm (x / 64) 1 (if x % 4 = 0 then 60 else 5))
section AC
variable {col : Col} {D : DD} {g : Int} {r : Row} {M B x w : Int} {h : HLs}
theorem l_act (H : RLh col D g r M h) (hI : IH B r) (hJ : XJ r) (hB : B ≤ 900000) (hd : r 3 ≤ 9000) (hM : M < 500000) (hx : 0 ≤ x ∧ x < 100000000) (hw : 0 ≤ w) (hT : dT D + 2000 < 600000) (hS : dS D + 50000 ≤ 7200000) : ∃ due D', fL_act g w x D = some (due, D') ∧ Res col D g r M B (clsF r w x) due D' := by
  have hn := hI.1
  unfold IHn at hn
  have nw := H.nw
  have nr := H.nr
  have nh := H.nh
  have nm := H.nm
  have nc := H.nc
  have hy : 0 ≤ x / 64 := Int.ediv_nonneg hx.1 (by decide)
  unfold fL_act fL_act_b87
  rw [if_pos ⟨hx.1, by decide⟩, if_pos H.o, s_size H.mb.1, s_size H.rt.1, s_size H.hs.1, s_size H.cs.1, s_size H.w.1, nw, nr, nh, nm, nc]
  simp only [Option.bind_some]
  rw [if_pos H.mb.1.1, l_one hx.1 (by omega)]
  simp only [Option.bind_some]
  rw [if_pos H.rt.1.1, l_one hy (by omega)]
  simp only [Option.bind_some]
  rw [if_pos H.hs.1.1, l_one hy (by omega)]
  simp only [Option.bind_some]
  rw [if_pos H.cs.1.1, l_one hy (by omega)]
  simp only [Option.bind_some]
  rw [if_pos H.w.1.1, l_one hx.1 (by omega)]
  simp only [Option.bind_some]
  have om := on_rng (x := x) (n := r 546) (by omega)
  have or := on_rng (x := x / 64) (n := r 37) (by omega)
  have oh := on_rng (x := x / 64) (n := r 470) (by omega)
  have oc := on_rng (x := x / 64) (n := r 619) (by omega)
  have ow := on_rng (x := x) (n := r 4) (by omega)
  generalize hmem : on x (r 546) = mem at *
  generalize hrt : on (x / 64) (r 37) = rt at *
  generalize hhs : on (x / 64) (r 470) = hs at *
  generalize hcs : on (x / 64) (r 619) = cs at *
  generalize hwl : on x (r 4) = wl at *
  have key : ∀ im ir : Int, im = bI (mem < r 546) → ir = bI (rt < r 37) → ∃ due D', fL_act_b106 g w x (x / 64) mem rt hs cs wl im ir D = some (due, D') ∧ Res col D g r M B (clsF r w x) due D' := by
    intro im ir him hir
    unfold clsF
    by_cases c : w ≤ 3
    · rw [if_pos c, hwl]; exact a_setRoute H hI hJ hB (by omega) hy ow hT hS ⟨hw, c⟩
    rw [if_neg c]
    by_cases c : w = 4
    · rw [if_pos c, hrt, c]; exact a_remove H hI hJ hB (by omega) or hir hT hS
    rw [if_neg c]
    by_cases c : w ≤ 8
    · rw [if_pos c, hrt, hmem]; exact a_climb H hI hJ hB om him or hir hT hS ⟨by omega, c⟩
    rw [if_neg c]
    by_cases c : w ≤ 10
    · rw [if_pos c, hrt, hmem]; exact a_vote H hI hJ hB (by omega) hy om him or hir hT hS ⟨by omega, c⟩
    rw [if_neg c]
    by_cases c : w ≤ 13
    · rw [if_pos c, hhs, hmem]; exact a_lend H hI hJ hB om him oh hT hS ⟨by omega, c⟩
    rw [if_neg c]
    by_cases c : w = 14
    · rw [if_pos c, hmem, c]; exact a_give H hI hJ hB om him
    rw [if_neg c]
    by_cases c : w = 15
    · rw [if_pos c, hhs, c]; exact a_check H hI hJ hB oh hx.1 hT hS
    rw [if_neg c]
    by_cases c : w ≤ 17
    · rw [if_pos c, hcs, hmem]; exact a_enroll H hI hJ hB om him oc ⟨by omega, c⟩
    rw [if_neg c]
    by_cases c : w = 18
    · rw [if_pos c, hmem, c]; exact a_leave H hI hJ hB om him
    rw [if_neg c]
    by_cases c : w = 19
    · rw [if_pos c, hcs, c]; exact a_finish H hI hJ hB oc ⟨hx.1, by omega⟩
    rw [if_neg c]
    by_cases c : w = 20
    · rw [if_pos c, hwl, c]; exact a_postpone H hI hJ hB hy ow
    rw [if_neg c]
    exact a_ends H hI hJ hB hd hM hx.1 hy hT hS (by omega)
  by_cases c1 : mem < r 546
  · rw [if_pos c1, if_pos H.o]
    rw [if_pos H.rt.1.1]
    by_cases c2 : rt < r 37
    · rw [if_pos c2]; exact key 1 1 (bI_t c1).symm (bI_t c2).symm
    · rw [if_neg c2]; exact key 1 0 (bI_t c1).symm (bI_f c2).symm
  · rw [if_neg c1, if_pos H.o]
    rw [if_pos H.rt.1.1]
    by_cases c2 : rt < r 37
    · rw [if_pos c2]; exact key 0 1 (bI_f c1).symm (bI_t c2).symm
    · rw [if_neg c2]; exact key 0 0 (bI_f c1).symm (bI_f c2).symm
end AC
