/-! climbing -/
theorem sCnt_congr {n : Int} {p q : Int → Prop} [∀ k, Decidable (p k)] [∀ k, Decidable (q k)] (h : ∀ i, 0 ≤ i → i < n → (p i ↔ q i)) : sCnt n p = sCnt n q := by
  unfold sCnt
  refine ita_congr (fun _ _ => True) _ _ _ True.intro (fun i a h1 h2 _ => ⟨?_, True.intro⟩)
  have hi := h i h1 (by omega)
  by_cases hp : p i
  · rw [if_pos hp, if_pos (hi.mp hp)]
  · rw [if_neg hp, if_neg (fun w => hp (hi.mpr w))]
theorem sG_congr {r r' : Row} {k k' gr mo : Int} (h546 : r' 546 = r 546) (h0 : r' 0 = r 0) (h1 : r' 1 = r 1) (hs : r' (38 + 18 * k' + 1) = r (38 + 18 * k + 1)) (hv : ∀ m, 0 ≤ m → m < r 546 → r' (38 + 18 * k' + (6 + m)) = r (38 + 18 * k + (6 + m))) : sG r' k' gr mo = sG r k gr mo := by
  have e1 : sSet1 r' k' = sSet1 r k := hs
  have e2 : sb r' k' gr mo = sb r k gr mo := by
    funext g
    unfold sb
    rw [e1, h1, h546, sCnt_congr (q := fun m => sVote r k m = g) (fun i a b => by
      show r' (38 + 18 * k' + (6 + i)) = g ↔ r (38 + 18 * k + (6 + i)) = g
      rw [hv i a b])]
  have e3 : sT0 r' k' mo = sT0 r k mo := by
    unfold sT0
    rw [h1]
    congr 2
    show sCnt (r' 546) _ = sCnt (r 546) _
    rw [h546]
    exact sCnt_congr (fun i a b => by rw [hv i a b])
  have e4 : fT r' k' mo = fT r k mo := by unfold fT; rw [e3]
  have e5 : fb r' k' gr mo = fb r k gr mo := by
    funext g
    unfold fb
    rw [e1, e2, e3]
  have e6 : sD r' k' mo = sD r k mo := by unfold sD; rw [e4, h0]
  have e7 : sS r' k' gr mo = sS r k gr mo := by unfold sS; rw [e4, e5, e6]
  have e8 : sK r' k' mo = sK r k mo := by unfold sK; rw [e4, e6]
  unfold sG
  rw [e7, e8]
theorem rup_comm {r : Row} {p q a b : Int} (h : p ≠ q) : rup (rup r p a) q b = rup (rup r q b) p a := by
  funext j
  rw [rup_at, rup_at, rup_at, rup_at]
  by_cases e : j = q
  · rw [if_pos e, if_neg (fun w => h (w.symm.trans e)), if_pos e]
  · rw [if_neg e, if_neg e]
theorem zor_12 {a k : Int} (ha : 0 ≤ a ∧ a < 4096) (hk : 0 ≤ k ∧ k < 12) : 0 ≤ zor a (zshl 1 k) ∧ zor a (zshl 1 k) < 4096 := by
  have h1 := zshl_1 k.toNat (by omega)
  rw [Int.toNat_of_nonneg hk.1] at h1
  have hp : 2 ^ k.toNat < 2 ^ 12 := Nat.pow_lt_pow_right (by decide) (by omega)
  have h2 := zor_nat (a := a.toNat) (b := 2 ^ k.toNat) (by omega) (by omega)
  rw [Int.toNat_of_nonneg ha.1, ← h1] at h2
  have h3 : a.toNat ||| 2 ^ k.toNat < 2 ^ 12 := Nat.or_lt_two_pow (by omega) hp
  rw [h2]
  omega
section CH
variable {z : ZZ} {r : Row} {B v1 v2 v3 : Int}
theorem g_climb (hI : IH B r) (hB : B ≤ 900000) (q1 : 0 ≤ v1 ∧ v1 < r 546) (q2 : 0 ≤ v2 ∧ v2 < r 37) (q3 : sMay r v1 v2) : ∃ r' v, Chg r r' v (fL_climb v1 v2) (fX6_climb v1 v2) ∧ IH (B + 60) r' := by
  have hn := hI.1
  unfold IHn at hn
  have hx := hI.2.2.1 v2 q2.1 q2.2
  have hm := (hI.2.2.2.2.1 v1 q1.1 q1.2).2.1
  have hw := sWear_ok hI q2
  have hg := sGr_ok hI q2
  have hz := zor_12 (k := v1) hx.2.2.2.2.1 (by omega)
  generalize hX : zor (r (38 + 18 * v2 + 5)) (zshl 1 v1) = x at *
  have I0 : IH (B + 60) r := IH_mono hI (by omega) (by omega)
  have I1 : IH (B + 60) (rup r (38 + 18 * v2 + 5) x) := IH_up6 I0 q2 (by omega) ⟨fun e => by omega, fun e => by omega, fun _ => hz, fun e => by omega⟩
  have n1 : rup r (38 + 18 * v2 + 5) x 37 = r 37 := rup_ne (by omega)
  have I2 : IH (B + 60) (rup (rup r (38 + 18 * v2 + 5) x) (38 + 18 * v2 + 3) (r (38 + 18 * v2 + 3) + sWear r v2)) := IH_up6 I1 (by rw [n1]; exact q2) (by omega) ⟨fun _ => by omega, fun e => by omega, fun e => by omega, fun e => by omega⟩
  have n2 : rup (rup r (38 + 18 * v2 + 5) x) (38 + 18 * v2 + 3) (r (38 + 18 * v2 + 3) + sWear r v2) 37 = r 37 := by rw [rup_ne (by omega), n1]
  have I3 : IH (B + 60) (rup (rup (rup r (38 + 18 * v2 + 5) x) (38 + 18 * v2 + 3) (r (38 + 18 * v2 + 3) + sWear r v2)) (38 + 18 * v2 + 4) (r (38 + 18 * v2 + 4) + 1)) := IH_up6 I2 (by rw [n2]; exact q2) (by omega) ⟨fun e => by omega, fun _ => by omega, fun e => by omega, fun e => by omega⟩
  have n3 : rup (rup (rup r (38 + 18 * v2 + 5) x) (38 + 18 * v2 + 3) (r (38 + 18 * v2 + 3) + sWear r v2)) (38 + 18 * v2 + 4) (r (38 + 18 * v2 + 4) + 1) 37 = r 37 := by rw [rup_ne (by omega), n2]
  have m3 : rup (rup (rup r (38 + 18 * v2 + 5) x) (38 + 18 * v2 + 3) (r (38 + 18 * v2 + 3) + sWear r v2)) (38 + 18 * v2 + 4) (r (38 + 18 * v2 + 4) + 1) 546 = r 546 := by rw [rup_ne (by omega), rup_ne (by omega), rup_ne (by omega)]
  have I4 := IH_up12 (v := r (547 + 6 * v1 + 2) + 1) (c := 2) I3 (by rw [m3]; exact q1) (by omega) (by omega) ⟨fun e => by omega, fun _ => by omega, fun e => by omega, fun e => by omega⟩
  have n4 : rup (rup (rup (rup r (38 + 18 * v2 + 5) x) (38 + 18 * v2 + 3) (r (38 + 18 * v2 + 3) + sWear r v2)) (38 + 18 * v2 + 4) (r (38 + 18 * v2 + 4) + 1)) (547 + 6 * v1 + 2) (r (547 + 6 * v1 + 2) + 1) 37 = r 37 := by rw [rup_ne (by omega), n3]
  have ew : sWear (rup r (38 + 18 * v2 + 5) x) v2 = sWear r v2 := by
    unfold sWear
    rw [show sGr (rup r (38 + 18 * v2 + 5) x) v2 = sGr r v2 from sG_congr (rup_ne (by omega)) (rup_ne (by omega)) (rup_ne (by omega)) (rup_ne (by omega)) (fun m a b => rup_ne (by omega))]
  refine ⟨_, r (38 + 18 * v2 + 3) + sWear r v2, ⟨fun z hR hu hl => ?_, fun z hM h8 => ?_⟩, I4⟩
  · obtain ⟨z1, e1, R1, w1⟩ := c_rem hR hI hu hl
    have s1 : fX4_set 6 v2 5 x z1 = some (zup z1 7 (v2 * 18 + 5) x) := set_ok kT6 (by rw [(RCn R1).2.1]; exact q2) (by rw [(RCn R1).2.1]; show r 37 ≤ 24; omega) (show 0 ≤ 5 ∧ 5 < 18 by omega)
    have R2 := RC_up6 (v := x) R1 hI.1 q2 (c := 5) (by omega)
    obtain ⟨z3, e3, f3⟩ := c_wear R2 I1 (k := v2) (by rw [n1]; exact q2)
    rw [ew] at e3
    have R3 := RC_12 R2 f3
    have add6 : ∀ (y : ZZ) (rr : Row) (c w : Int), RC y rr → IH (B + 60) rr → rr 37 = r 37 → 0 ≤ c ∧ c < 18 → inR (rr (38 + 18 * v2 + c) + w) → fX4_add 6 v2 c w y = some (zup y 7 (v2 * 18 + c) (rr (38 + 18 * v2 + c) + w)) := fun y rr c w hRy hIy h37 hc hin => by
      have ey : y 7 (v2 * 18 + c) = rr (38 + 18 * v2 + c) := by
        rw [show y 7 (v2 * 18 + c) = _ from hRy.2.1.2 (v2 * 18 + c) (by omega) (by rw [h37]; omega)]
        congr 1
        omega
      have := add_ok (z := y) (v := w) kT6 (by rw [(RCn hRy).2.1, h37]; exact q2) (by rw [(RCn hRy).2.1, h37]; show r 37 ≤ 24; omega) (show 0 ≤ c ∧ c < zCO 6 from hc) (by show inR (y 7 (v2 * 18 + c) + w); rw [ey]; exact hin)
      rw [show y (6 + 1) (v2 * zCO 6 + c) = _ from ey] at this
      exact this
    have v3e : rup r (38 + 18 * v2 + 5) x (38 + 18 * v2 + 3) = r (38 + 18 * v2 + 3) := rup_ne (by omega)
    have s4 := add6 z3 _ 3 (sWear r v2) R3 I1 n1 (by omega) (by rw [v3e]; exact inR_s (by omega))
    rw [v3e] at s4
    have R4 := RC_up6 (v := r (38 + 18 * v2 + 3) + sWear r v2) R3 I1.1 (k := v2) (c := 3) (by rw [n1]; exact q2) (by omega)
    have v4e : rup (rup r (38 + 18 * v2 + 5) x) (38 + 18 * v2 + 3) (r (38 + 18 * v2 + 3) + sWear r v2) (38 + 18 * v2 + 4) = r (38 + 18 * v2 + 4) := by rw [rup_ne (by omega), rup_ne (by omega)]
    have s5 := add6 _ _ 4 1 R4 I2 n2 (by omega) (by rw [v4e]; exact inR_s (by omega))
    rw [v4e] at s5
    have R5 := RC_up6 (v := r (38 + 18 * v2 + 4) + 1) R4 I2.1 (k := v2) (c := 4) (by rw [n2]; exact q2) (by omega)
    have v6e : rup (rup (rup r (38 + 18 * v2 + 5) x) (38 + 18 * v2 + 3) (r (38 + 18 * v2 + 3) + sWear r v2)) (38 + 18 * v2 + 4) (r (38 + 18 * v2 + 4) + 1) (547 + 6 * v1 + 2) = r (547 + 6 * v1 + 2) := by rw [rup_ne (by omega), rup_ne (by omega), rup_ne (by omega)]
    have R6 := RC_up12 (v := r (547 + 6 * v1 + 2) + 1) R5 I3.1 (k := v1) (c := 2) (by rw [m3]; exact q1) (by omega)
    have ey : (zup (zup z3 7 (v2 * 18 + 3) (r (38 + 18 * v2 + 3) + sWear r v2)) 7 (v2 * 18 + 4) (r (38 + 18 * v2 + 4) + 1)) 13 (v1 * 6 + 2) = r (547 + 6 * v1 + 2) := by
      rw [show _ = _ from R5.2.2.2.2.1.2 (v1 * 6 + 2) (by omega) (by rw [m3]; omega), ← v6e]
      congr 1
      omega
    have s6 : fX4_add 12 v1 2 1 (zup (zup z3 7 (v2 * 18 + 3) (r (38 + 18 * v2 + 3) + sWear r v2)) 7 (v2 * 18 + 4) (r (38 + 18 * v2 + 4) + 1)) = some (zup (zup (zup z3 7 (v2 * 18 + 3) (r (38 + 18 * v2 + 3) + sWear r v2)) 7 (v2 * 18 + 4) (r (38 + 18 * v2 + 4) + 1)) 13 (v1 * 6 + 2) (r (547 + 6 * v1 + 2) + 1)) := by
      have := add_ok (z := zup (zup z3 7 (v2 * 18 + 3) (r (38 + 18 * v2 + 3) + sWear r v2)) 7 (v2 * 18 + 4) (r (38 + 18 * v2 + 4) + 1)) (k := v1) (c := 2) (v := 1) kT12 (by rw [(RCn R5).2.2.2.2.1, m3]; exact q1) (by rw [(RCn R5).2.2.2.2.1, m3]; show r 546 ≤ 12; omega) (show (0 : Int) ≤ 2 ∧ (2 : Int) < 6 by omega) (by
        show inR ((zup (zup z3 7 (v2 * 18 + 3) (r (38 + 18 * v2 + 3) + sWear r v2)) 7 (v2 * 18 + 4) (r (38 + 18 * v2 + 4) + 1)) 13 (v1 * 6 + 2) + 1)
        rw [ey]
        exact inR_s (by omega))
      rw [show (zup (zup z3 7 (v2 * 18 + 3) (r (38 + 18 * v2 + 3) + sWear r v2)) 7 (v2 * 18 + 4) (r (38 + 18 * v2 + 4) + 1)) (12 + 1) (v1 * zCO 12 + 2) = _ from ey] at this
      exact this
    have g7 := cg6 R6 I4 (k := v2) (c := 3) (by rw [n4]; exact q2) (by omega)
    rw [show rup (rup (rup (rup r (38 + 18 * v2 + 5) x) (38 + 18 * v2 + 3) (r (38 + 18 * v2 + 3) + sWear r v2)) (38 + 18 * v2 + 4) (r (38 + 18 * v2 + 4) + 1)) (547 + 6 * v1 + 2) (r (547 + 6 * v1 + 2) + 1) (38 + 18 * v2 + 3) = r (38 + 18 * v2 + 3) + sWear r v2 by rw [rup_ne (by omega), rup_ne (by omega), rup_at, if_pos rfl]] at g7
    refine ⟨_, ?_, ?_, Qt_RC (Qt_159 (v := r (38 + 18 * v2 + 3) + sWear r v2)) R6, w1 _ (fun a p1 p2 p3 p4 p5 => ?_)⟩
    · simp only [fL_climb, fX5_climb, fX1_addClimb, n_row, (RCn hR).2.2.2.2.1, (RCn hR).2.1, if_pos q1, if_pos q2, Option.bind_some, c_mayClimb hR hI q1 q2, ite_bI, if_pos q3, e1, cg6 R1 hI q2 (c := 5) (by omega), hX, s1, e3, s4, s5, s6, g7]
    · rw [zup_at, if_pos rfl]
    · rw [zup_ne p3, zup_ne (by omega), zup_ne (by omega), zup_ne (by omega), f3 a (by omega), zup_ne (by omega)]
  · have hM1 := zup_154 (e := 0) hM
    obtain ⟨z0, e0, f0⟩ := m_gradeOf hM1 hI q2
    obtain ⟨z1, e1, r1, w1⟩ := m_rec hM h8 f0
    have u3 : (0 : Int) ≤ 38 + 18 * v2 + 3 ∧ 38 + 18 * v2 + 3 < 765 := by omega
    have u4 : (0 : Int) ≤ 38 + 18 * v2 + 4 ∧ 38 + 18 * v2 + 4 < 765 := by omega
    have u5 : (0 : Int) ≤ 38 + 18 * v2 + 5 ∧ 38 + 18 * v2 + 5 < 765 := by omega
    have um : (0 : Int) ≤ 547 + 6 * v1 + 2 ∧ 547 + 6 * v1 + 2 < 765 := by omega
    have i3 : inR (r (38 + 18 * v2 + 3) + sWear r v2) := inR_s (by omega)
    have i4 : inR (r (38 + 18 * v2 + 4) + 1) := inR_s (by omega)
    have im : inR (r (547 + 6 * v1 + 2) + 1) := inR_s (by omega)
    have ge0 : (0 : Int) ≤ sGr r v2 ∧ (0 : Int) < 10 := ⟨hg.1, by decide⟩
    have b1 : zup z1 154 (38 + 18 * v2 + 3) (r (38 + 18 * v2 + 3) + sWear r v2) 154 (38 + 18 * v2 + 4) = r (38 + 18 * v2 + 4) := by rw [zup_at, if_neg (by omega), r1]
    have b2 : zup (zup z1 154 (38 + 18 * v2 + 3) (r (38 + 18 * v2 + 3) + sWear r v2)) 154 (38 + 18 * v2 + 4) (r (38 + 18 * v2 + 4) + 1) 154 (38 + 18 * v2 + 5) = r (38 + 18 * v2 + 5) := by rw [zup_at, if_neg (by omega), zup_at, if_neg (by omega), r1]
    have b3 : fX6_memberPart v1 2 (zup (zup (zup z1 154 (38 + 18 * v2 + 3) (r (38 + 18 * v2 + 3) + sWear r v2)) 154 (38 + 18 * v2 + 4) (r (38 + 18 * v2 + 4) + 1)) 154 (38 + 18 * v2 + 5) x) = some (r (547 + 6 * v1 + 2)) := by
      rw [mg12 rfl (by omega), zup_at, if_neg (by omega), zup_at, if_neg (by omega), zup_at, if_neg (by omega), r1]
    refine ⟨zup (zup (zup (zup z1 154 (38 + 18 * v2 + 3) (r (38 + 18 * v2 + 3) + sWear r v2)) 154 (38 + 18 * v2 + 4) (r (38 + 18 * v2 + 4) + 1)) 154 (38 + 18 * v2 + 5) x) 154 (547 + 6 * v1 + 2) (r (547 + 6 * v1 + 2) + 1), ?_, ?_, w1 _ (fun a p1 p2 p3 p4 => by rw [zup_ne p2, zup_ne p2, zup_ne p2, zup_ne p2]) (fun j p1 p2 p3 => by rw [zup_ne (by decide), zup_ne (by decide), zup_ne (by decide), zup_ne (by decide)])⟩
    · have b4 : zup (zup (zup (zup z1 154 (38 + 18 * v2 + 3) (r (38 + 18 * v2 + 3) + sWear r v2)) 154 (38 + 18 * v2 + 4) (r (38 + 18 * v2 + 4) + 1)) 154 (38 + 18 * v2 + 5) x) 154 (547 + 6 * v1 + 2) (r (547 + 6 * v1 + 2) + 1) 154 (38 + 18 * v2 + 3) = r (38 + 18 * v2 + 3) + sWear r v2 := by
        rw [zup_at, if_neg (by omega), zup_at, if_neg (by omega), zup_at, if_neg (by omega), zup_at, if_pos rfl]
      simp only [fX6_climb, fX6_climb_b26, fX6_climb_b27, fX6_setMember, zl, mi_member hM1 hI, mi_route hM1 hI, m_failsb, m_fails0, m_fails1, if_pos q1, if_pos q2, ite_bI, if_true, Option.bind_some, m_mayClimb hM1 hI q1 q2, if_pos q3, e0, if_pos ge0, e1, r1, show 1 + sGr r v2 / 10 = sWear r v2 from rfl, if_pos u3, if_pos i3, b1, if_pos u4, if_pos i4, b2, if_pos u5, hX, b3, if_pos im, if_pos um, b4]
    · funext j
      rw [zup_at, zup_at, zup_at, zup_at, r1, rup_at, rup_at, rup_at, rup_at]
      split
      · rfl
      · by_cases e5 : j = 38 + 18 * v2 + 5
        · rw [if_pos e5, if_neg (by omega), if_neg (by omega), if_pos e5]
        · rw [if_neg e5, if_neg e5]
end CH
