def fL_act_b793 (v11 : Int) (v12 : Int) (D : DD) : Option (Int × DD) := (if (v11) = (0) then some ((-1), D) else (if dO D (v12) 20 then (if (0 : Int) ≤ (1) ∧ (1 : Int) < ((dH D (v12)).2 : Int) then (if (0 : Int) ≤ (2) ∧ (2 : Int) < ((dH D (v12)).2 : Int) then (if inR (((dW D (v12) (1)) + (dW D (v12) (2)))) then some (((dW D (v12) (1)) + (dW D (v12) (2))), D) else none) else none) else none) else none))
set_option maxRecDepth 100000 in
theorem BL_act_793 {ln : Nat} {D : DD} {z : ZZ} {v11 : Int} {v12 : Int} {Φ : xRes → xS → Prop} (hD : okD D) (rv11 : inR v11) (rv12 : gdV D v12) {p : Int × DD} (h : fL_act_b793 v11 v12 D = some p) (k : K_wi Φ ln D z p) : XD mL_act 793 [none, none, none, none, none, none, none, none, none, none, none, some (.int (iN (v11))), some (rV (v12)), none] [] ln D z Φ := by
  unfold fL_act_b793 at h
  refine X_iload (pc' := 795) dL_act_793 rfl rfl ?_
  refine X_if_eq dL_act_795 (tgt := 810) rfl (pc' := 798) rfl rv11 (fun c1 => ?_) (fun c1 => ?_)
  · have h := if_t c1 h
    refine X_iconst (pc' := 811) dL_act_810 rfl ?_
    cases h
    exact X_iret dL_act_811 rfl (k hD (DLe_refl _) (inR_c (n := (-1)) rfl))
  have h := if_f c1 h
  refine E_aload (pc' := 800) dL_act_798 rfl rfl ?_
  refine X_iconst (pc' := 801) dL_act_800 rfl ?_
  obtain ⟨g2, h⟩ := gs h
  obtain ⟨g3, h⟩ := gs h
  refine E_iald (pc' := 802) dL_act_801 rfl hD g2 g3 ?_
  refine E_aload (pc' := 804) dL_act_802 rfl rfl ?_
  refine X_iconst (pc' := 805) dL_act_804 rfl ?_
  obtain ⟨g4, h⟩ := gs h
  refine E_iald (pc' := 806) dL_act_805 rfl hD g2 g4 ?_
  refine X_iadd (pc' := 807) dL_act_806 rfl ?_
  refine X_goto dL_act_807 (tgt := 811) rfl ?_
  obtain ⟨g5, h⟩ := gs h
  cases h
  exact X_iret dL_act_811 rfl (k hD (DLe_refl _) g5)
def fL_act_b724 (v0 : Int) (v6 : Int) (s0 : Int) (D : DD) : Option (Int × DD) := (if dO D (v0) 7 then (Option.bind (fJx4a65c_size_8abf5 ((dW D (v0) 6)) D) fun r2 => (if dO D ((dW D (v0) 6)) 9 then (if (v6) = (r2) then some ((-1000000001), D) else (Option.bind (fJx4a65c_get_915e3 ((dW D (v0) 6)) (v6) D) fun r5 => (if dO D (r5) 20 then (Option.bind (fX6_isLent (v0) (v6) D) fun q7 => match q7 with | (r7, D7) => (if (r7) = (0) then (if (0 : Int) ≤ (3) ∧ (3 : Int) < ((dH D7 (r5)).2 : Int) then (if ((dW D7 (r5) (3))) = (1) then some ((-1000000003), D7) else (if (0 : Int) ≤ (2) ∧ (2 : Int) < ((dH D7 (r5)).2 : Int) then (zl (dup D7 (r5) (2) ((dW D7 (v0) 3))) fun D12 => (if (s0) = (0) then (if (0 : Int) ≤ (3) ∧ (3 : Int) < ((dH D12 (r5)).2 : Int) then (zl (dup D12 (r5) (3) (1)) fun D15 => fL_act_b793 (s0) (r5) D15) else none) else fL_act_b793 (s0) (r5) D12)) else none)) else none) else some ((-1000000003), D7))) else none))) else none)) else none)
set_option maxRecDepth 100000 in
theorem BL_act_724 {ln : Nat} {D : DD} {z : ZZ} {v0 : Int} {v6 : Int} {s0 : Int} {Φ : xRes → xS → Prop} (hD : okD D) (rv0 : gdV D v0) (rv6 : inR v6) (rs0 : inR s0) {p : Int × DD} (h : fL_act_b724 v0 v6 s0 D = some p) (k : K_wi Φ ln D z p) : XD mL_act 724 [some (rV (v0)), none, none, none, none, none, some (.int (iN (v6))), none, none, none, none, none, none, none] [.int (iN (s0))] ln D z Φ := by
  unfold fL_act_b724 at h
  refine X_istore (pc' := 726) dL_act_724 rfl (cl rfl) (Or.inr rfl) (L' := [some (rV (v0)), none, none, none, none, none, some (.int (iN (v6))), none, none, none, none, some (.int (iN (s0))), none, none]) rfl ?_
  refine X_iload (pc' := 728) dL_act_726 rfl rfl ?_
  refine E_aload_n (pc' := 729) dL_act_728 rfl rfl ?_
  obtain ⟨g1, h⟩ := gs h
  refine E_getR (pc' := 732) dL_act_729 rfl FL_112_6 hD g1 rfl (j := 6) rfl ?_
  obtain ⟨r2, q2, h⟩ := bs h
  obtain ⟨g3, h⟩ := gs h
  refine E_callV [] (pc' := 735) dL_act_732 rfl (xVc VL_101) (by decide) ⟨dO_pos g3, dO_is hD g3 rfl⟩ rfl c1_n (cs rfl) (c1_i c1_n) (cs rfl) rfl hD (CJx4a65c_size_8abf5 hD (gd_slot (k := 6) hD g1 rfl (by decide)) q2) (fun a2 b2 f2 => ?_)
  refine X_icmp_ne dL_act_735 (tgt := 741) rfl (pc' := 738) rfl ⟨rv6.1, rv6.2, f2.1, f2.2⟩ (fun c4 => ?_) (fun c4 => ?_)
  · have h := if_f c4 h
    refine E_aload_n (pc' := 742) dL_act_741 rfl rfl ?_
    refine E_getR (pc' := 745) dL_act_742 rfl FL_112_6 hD g1 rfl (j := 6) rfl ?_
    refine X_iload (pc' := 747) dL_act_745 rfl rfl ?_
    obtain ⟨r5, q5, h⟩ := bs h
    refine E_callV [.int (iN (v6))] (pc' := 750) dL_act_747 rfl (xVc VL_148) (by decide) ⟨dO_pos g3, dO_is hD g3 rfl⟩ rfl (c1_i c1_n) (cs rfl) c1_n (cs rfl) rfl hD (CJx4a65c_get_915e3 hD (gd_slot (k := 6) hD g1 rfl (by decide)) rv6 q5) (fun a5 b5 f5 => ?_)
    obtain ⟨g6, h⟩ := gs h
    refine E_cast (pc' := 753) dL_act_750 rfl tq1882 (dO_pos g6) (dO_isI hD g6) ?_
    refine E_astore (pc' := 755) dL_act_753 rfl (cl rfl) (Or.inr rfl) (L' := [some (rV (v0)), none, none, none, none, none, some (.int (iN (v6))), none, none, none, none, some (.int (iN (s0))), some (rV (r5)), none]) rfl ?_
    refine E_aload_n (pc' := 756) dL_act_755 rfl rfl ?_
    refine X_iload (pc' := 758) dL_act_756 rfl rfl ?_
    obtain ⟨⟨r7, D7⟩, q7, h⟩ := bs h
    refine E_callV [.int (iN (v6))] (pc' := 761) dL_act_758 rfl (xVc VL_191) (by decide) ⟨dO_pos g1, dO_is hD g1 rfl⟩ rfl (c1_i c1_n) (cs rfl) c1_n (cs rfl) rfl hD (CX6_isLent hD rv0 rv6 q7) (fun a7 b7 f7 => ?_)
    refine X_if_ne dL_act_761 (tgt := 772) rfl (pc' := 764) rfl (inR_b f7) (fun c8 => ?_) (fun c8 => ?_)
    · have h := if_f c8 h
      refine X_ldcI (pc' := 774) dL_act_772 rfl tq1760 (n := (-1000000003)) rfl ?_
      cases h
      exact X_iret dL_act_774 rfl (k a7 b7 (inR_c (n := (-1000000003)) rfl))
    have h := if_t c8 h
    refine E_aload (pc' := 766) dL_act_764 rfl rfl ?_
    refine X_iconst (pc' := 767) dL_act_766 rfl ?_
    obtain ⟨g9, h⟩ := gs h
    refine E_iald (pc' := 768) dL_act_767 rfl a7 (dO_le b7 g6) g9 ?_
    refine X_iconst (pc' := 769) dL_act_768 rfl ?_
    refine X_icmp_ne dL_act_769 (tgt := 775) rfl (pc' := 772) rfl ⟨(in_at a7 (dO_le b7 g6) (Or.inl rfl) g9.1).1, (in_at a7 (dO_le b7 g6) (Or.inl rfl) g9.1).2, (inR_c (n := 1) rfl).1, (inR_c (n := 1) rfl).2⟩ (fun c10 => ?_) (fun c10 => ?_)
    · have h := if_f c10 h
      refine E_aload (pc' := 777) dL_act_775 rfl rfl ?_
      refine X_iconst (pc' := 778) dL_act_777 rfl ?_
      refine E_aload_n (pc' := 779) dL_act_778 rfl rfl ?_
      refine E_getI (pc' := 782) dL_act_779 rfl FL_137_6 a7 (dO_le b7 g1) rfl (j := 3) rfl ?_
      obtain ⟨g11, h⟩ := gs h
      refine E_iast (pc' := 783) dL_act_782 rfl a7 (dO_le b7 g6) g11 ?_
      obtain ⟨D12, e12, f12, h⟩ := zl_some (P := fun q => okD q ∧ DLe D7 q) h ⟨okD_dupJ a7 g11.1 (okS_at20 (dO_le b7 g6) (in_slot (k := 3) a7 (dO_le b7 g1) rfl (by decide))), DLe_dup _ _ _ _⟩
      rw [e12]
      refine X_iload (pc' := 785) dL_act_783 rfl rfl ?_
      refine X_if_ne dL_act_785 (tgt := 793) rfl (pc' := 788) rfl rs0 (fun c13 => ?_) (fun c13 => ?_)
      · have h := if_f c13 h
        exact X_sub (sub_n (sub_n (sub_n (sub_n (sub_n (sub_n (sub_n (sub_n (sub_n (sub_n (sub_n (sub_s (sub_s (sub_n sub_0)))))))))))))) (BL_act_793 f12.1 rs0 (gdV_le f12.2 (gdV_le b7 f5)) h (fun a b c => k a (DLe_trans (DLe_trans b7 f12.2) b) c))
      have h := if_t c13 h
      refine E_aload (pc' := 790) dL_act_788 rfl rfl ?_
      refine X_iconst (pc' := 791) dL_act_790 rfl ?_
      refine X_iconst (pc' := 792) dL_act_791 rfl ?_
      obtain ⟨g14, h⟩ := gs h
      refine E_iast (pc' := 793) dL_act_792 rfl f12.1 (dO_le f12.2 (dO_le b7 g6)) g14 ?_
      obtain ⟨D15, e15, f15, h⟩ := zl_some (P := fun q => okD q ∧ DLe D12 q) h ⟨okD_dupJ f12.1 g14.1 (okS_at20 (dO_le f12.2 (dO_le b7 g6)) (inR_c (n := 1) rfl)), DLe_dup _ _ _ _⟩
      rw [e15]
      exact X_sub (sub_n (sub_n (sub_n (sub_n (sub_n (sub_n (sub_n (sub_n (sub_n (sub_n (sub_n (sub_s (sub_s (sub_n sub_0)))))))))))))) (BL_act_793 f15.1 rs0 (gdV_le f15.2 (gdV_le f12.2 (gdV_le b7 f5))) h (fun a b c => k a (DLe_trans (DLe_trans (DLe_trans b7 f12.2) f15.2) b) c))
    have h := if_t c10 h
    refine X_ldcI (pc' := 774) dL_act_772 rfl tq1760 (n := (-1000000003)) rfl ?_
    cases h
    exact X_iret dL_act_774 rfl (k a7 b7 (inR_c (n := (-1000000003)) rfl))
  have h := if_t c4 h
  refine X_ldcI (pc' := 740) dL_act_738 rfl tq1815 (n := (-1000000001)) rfl ?_
  cases h
  exact X_iret dL_act_740 rfl (k hD (DLe_refl _) (inR_c (n := (-1000000001)) rfl))
def fL_act_b1076 (v0 : Int) (v2 : Int) (v7 : Int) (v11 : Int) (v12 : Int) (D : DD) : Option ((Int × DD) ⊕ (DD)) := (if inR ((v12 + 1)) then some (.inl ((v12 + 1), D)) else none)
set_option maxRecDepth 100000 in
theorem BL_act_1076 {ln : Nat} {D : DD} {z : ZZ} {v0 : Int} {v2 : Int} {v7 : Int} {v11 : Int} {v12 : Int} {Φ : xRes → xS → Prop} (hD : okD D) (rv0 : gdV D v0) (rv2 : inR v2) (rv7 : inR v7) (rv11 : inR v11) (rv12 : inR v12) {p : (Int × DD) ⊕ (DD)} (h : fL_act_b1076 v0 v2 v7 v11 v12 D = some p) (k1 : ∀ (v12' : Int) (D' : DD), p = .inl (v12', D') → okD D' → DLe D D' → inR v12' → XD mL_act 1004 [some (rV (v0)), none, some (.int (iN (v2))), none, none, none, none, some (.int (iN (v7))), none, none, none, some (.int (iN (v11))), some (.int (iN (v12'))), none] [] ln D' z Φ) (k2 : ∀ (D' : DD), p = .inr D' → okD D' → DLe D D' → XD mL_act 1082 [none, none, some (.int (iN (v2))), none, none, none, none, none, none, none, none, some (.int (iN (v11))), none, none] [] ln D' z Φ) : XD mL_act 1076 [some (rV (v0)), none, some (.int (iN (v2))), none, none, none, none, some (.int (iN (v7))), none, none, none, some (.int (iN (v11))), some (.int (iN (v12))), none] [] ln D z Φ := by
  unfold fL_act_b1076 at h
  refine X_iinc (pc' := 1079) dL_act_1076 rfl rfl (Or.inr rfl) (L' := [some (rV (v0)), none, some (.int (iN (v2))), none, none, none, none, some (.int (iN (v7))), none, none, none, some (.int (iN (v11))), some (.int (iN (v12 + 1))), none]) rfl ?_
  refine X_goto dL_act_1079 (tgt := 1004) rfl ?_
  obtain ⟨g1, h⟩ := gs h
  cases h
  exact X_sub (sub_s (sub_n (sub_s (sub_n (sub_n (sub_n (sub_n (sub_s (sub_n (sub_n (sub_n (sub_s (sub_s (sub_n sub_0)))))))))))))) (k1 _ _ rfl hD (DLe_refl _) g1)
def fL_act_s1004 (v0 : Int) (v2 : Int) (v7 : Int) (v11 : Int) (v12 : Int) (D : DD) : Option ((Int × DD) ⊕ (DD)) := (if dO D (v0) 7 then (Option.bind (fJx4a65c_size_8abf5 ((dW D (v0) 7)) D) fun r2 => (if dO D ((dW D (v0) 7)) 9 then (if (v12) < (r2) then (Option.bind (fJx4a65c_get_915e3 ((dW D (v0) 7)) (v12) D) fun r5 => (if dO D (r5) 20 then (if ((zand (zshr v11 v12) 1)) = (0) then fL_act_b1076 (v0) (v2) (v7) (v11) (v12) D else (if (0 : Int) ≤ (4) ∧ (4 : Int) < ((dH D (r5)).2 : Int) then (zl (dup D (r5) (4) ((-1))) fun D9 => (if ((zand (zshr v2 v12) 1)) = (1) then (Option.bind (fJx4a65c_get_915e3 ((dW D9 (v0) 8)) (v7) D9) fun r11 => (if dO D9 ((dW D9 (v0) 8)) 9 then (if dO D9 (r11) 20 then (if (0 : Int) ≤ (0) ∧ (0 : Int) < ((dH D9 (r11)).2 : Int) then (if (0 : Int) ≤ (1) ∧ (1 : Int) < ((dH D9 (r5)).2 : Int) then (zl (dup D9 (r5) (1) ((dW D9 (r11) (0)))) fun D16 => fL_act_b1076 (v0) (v2) (v7) (v11) (v12) D16) else none) else none) else none) else none)) else fL_act_b1076 (v0) (v2) (v7) (v11) (v12) D9)) else none)) else none)) else some (.inr D)) else none)) else none)
set_option maxRecDepth 100000 in
theorem SL_act_1004 {ln : Nat} {D : DD} {z : ZZ} {v0 : Int} {v2 : Int} {v7 : Int} {v11 : Int} {v12 : Int} {Φ : xRes → xS → Prop} (hD : okD D) (rv0 : gdV D v0) (rv2 : inR v2) (rv7 : inR v7) (rv11 : inR v11) (rv12 : inR v12) {p : (Int × DD) ⊕ (DD)} (h : fL_act_s1004 v0 v2 v7 v11 v12 D = some p) (k1 : ∀ (v12' : Int) (D' : DD), p = .inl (v12', D') → okD D' → DLe D D' → inR v12' → XD mL_act 1004 [some (rV (v0)), none, some (.int (iN (v2))), none, none, none, none, some (.int (iN (v7))), none, none, none, some (.int (iN (v11))), some (.int (iN (v12'))), none] [] ln D' z Φ) (k2 : ∀ (D' : DD), p = .inr D' → okD D' → DLe D D' → XD mL_act 1082 [none, none, some (.int (iN (v2))), none, none, none, none, none, none, none, none, some (.int (iN (v11))), none, none] [] ln D' z Φ) : XD mL_act 1004 [some (rV (v0)), none, some (.int (iN (v2))), none, none, none, none, some (.int (iN (v7))), none, none, none, some (.int (iN (v11))), some (.int (iN (v12))), none] [] ln D z Φ := by
  unfold fL_act_s1004 at h
  refine X_iload (pc' := 1006) dL_act_1004 rfl rfl ?_
  refine E_aload_n (pc' := 1007) dL_act_1006 rfl rfl ?_
  obtain ⟨g1, h⟩ := gs h
  refine E_getR (pc' := 1010) dL_act_1007 rfl FL_95_6 hD g1 rfl (j := 7) rfl ?_
  obtain ⟨r2, q2, h⟩ := bs h
  obtain ⟨g3, h⟩ := gs h
  refine E_callV [] (pc' := 1013) dL_act_1010 rfl (xVc VL_101) (by decide) ⟨dO_pos g3, dO_is hD g3 rfl⟩ rfl c1_n (cs rfl) (c1_i c1_n) (cs rfl) rfl hD (CJx4a65c_size_8abf5 hD (gd_slot (k := 7) hD g1 rfl (by decide)) q2) (fun a2 b2 f2 => ?_)
  refine X_icmp_ge dL_act_1013 (tgt := 1082) rfl (pc' := 1016) rfl ⟨rv12.1, rv12.2, f2.1, f2.2⟩ (fun c4 => ?_) (fun c4 => ?_)
  · have h := if_f (Int.not_lt.mpr c4) h
    cases h
    exact X_sub (sub_n (sub_n (sub_s (sub_n (sub_n (sub_n (sub_n (sub_n (sub_n (sub_n (sub_n (sub_s (sub_n (sub_n sub_0)))))))))))))) (k2 _ rfl hD (DLe_refl _))
  have h := if_t c4 h
  refine E_aload_n (pc' := 1017) dL_act_1016 rfl rfl ?_
  refine E_getR (pc' := 1020) dL_act_1017 rfl FL_95_6 hD g1 rfl (j := 7) rfl ?_
  refine X_iload (pc' := 1022) dL_act_1020 rfl rfl ?_
  obtain ⟨r5, q5, h⟩ := bs h
  refine E_callV [.int (iN (v12))] (pc' := 1025) dL_act_1022 rfl (xVc VL_148) (by decide) ⟨dO_pos g3, dO_is hD g3 rfl⟩ rfl (c1_i c1_n) (cs rfl) c1_n (cs rfl) rfl hD (CJx4a65c_get_915e3 hD (gd_slot (k := 7) hD g1 rfl (by decide)) rv12 q5) (fun a5 b5 f5 => ?_)
  obtain ⟨g6, h⟩ := gs h
  refine E_cast (pc' := 1028) dL_act_1025 rfl tq1882 (dO_pos g6) (dO_isI hD g6) ?_
  refine E_astore (pc' := 1030) dL_act_1028 rfl (cl rfl) (Or.inr rfl) (L' := [some (rV (v0)), none, some (.int (iN (v2))), none, none, none, none, some (.int (iN (v7))), none, none, none, some (.int (iN (v11))), some (.int (iN (v12))), some (rV (r5))]) rfl ?_
  refine X_iload (pc' := 1032) dL_act_1030 rfl rfl ?_
  refine X_iload (pc' := 1034) dL_act_1032 rfl rfl ?_
  refine X_ishr (pc' := 1035) dL_act_1034 rfl ?_
  refine X_iconst (pc' := 1036) dL_act_1035 rfl ?_
  refine X_iand (pc' := 1037) dL_act_1036 rfl ?_
  refine X_if_ne dL_act_1037 (tgt := 1043) rfl (pc' := 1040) rfl (inR_zand _ _) (fun c7 => ?_) (fun c7 => ?_)
  · have h := if_f c7 h
    refine E_aload (pc' := 1045) dL_act_1043 rfl rfl ?_
    refine X_iconst (pc' := 1046) dL_act_1045 rfl ?_
    refine X_iconst (pc' := 1047) dL_act_1046 rfl ?_
    obtain ⟨g8, h⟩ := gs h
    refine E_iast (pc' := 1048) dL_act_1047 rfl hD g6 g8 ?_
    obtain ⟨D9, e9, f9, h⟩ := zl_some (P := fun q => okD q ∧ DLe D q) h ⟨okD_dupJ hD g8.1 (okS_at20 g6 (inR_c (n := (-1)) rfl)), DLe_dup _ _ _ _⟩
    rw [e9]
    refine X_iload_n (pc' := 1049) dL_act_1048 rfl rfl ?_
    refine X_iload (pc' := 1051) dL_act_1049 rfl rfl ?_
    refine X_ishr (pc' := 1052) dL_act_1051 rfl ?_
    refine X_iconst (pc' := 1053) dL_act_1052 rfl ?_
    refine X_iand (pc' := 1054) dL_act_1053 rfl ?_
    refine X_iconst (pc' := 1055) dL_act_1054 rfl ?_
    refine X_icmp_ne dL_act_1055 (tgt := 1076) rfl (pc' := 1058) rfl ⟨(inR_zand _ _).1, (inR_zand _ _).2, (inR_c (n := 1) rfl).1, (inR_c (n := 1) rfl).2⟩ (fun c10 => ?_) (fun c10 => ?_)
    · have h := if_f c10 h
      exact X_sub (sub_s (sub_n (sub_s (sub_n (sub_n (sub_n (sub_n (sub_s (sub_n (sub_n (sub_n (sub_s (sub_s (sub_n sub_0)))))))))))))) (BL_act_1076 f9.1 (gdV_le f9.2 rv0) rv2 rv7 rv11 rv12 h (fun x0 D9 hh a b f0 => k1 x0 D9 hh a (DLe_trans f9.2 b) f0) (fun D9 hh a b => k2 D9 hh a (DLe_trans f9.2 b)))
    have h := if_t c10 h
    refine E_aload (pc' := 1060) dL_act_1058 rfl rfl ?_
    refine X_iconst (pc' := 1061) dL_act_1060 rfl ?_
    refine E_aload_n (pc' := 1062) dL_act_1061 rfl rfl ?_
    refine E_getR (pc' := 1065) dL_act_1062 rfl FL_115_6 f9.1 (dO_le f9.2 g1) rfl (j := 8) rfl ?_
    refine X_iload (pc' := 1067) dL_act_1065 rfl rfl ?_
    obtain ⟨r11, q11, h⟩ := bs h
    obtain ⟨g12, h⟩ := gs h
    refine E_callV [.int (iN (v7))] (pc' := 1070) dL_act_1067 rfl (xVc VL_148) (by decide) ⟨dO_pos g12, dO_is f9.1 g12 rfl⟩ rfl (c1_i c1_n) (cs rfl) (c1_i (c1_r c1_n)) (cs rfl) rfl f9.1 (CJx4a65c_get_915e3 f9.1 (gd_slot (k := 8) f9.1 (dO_le f9.2 g1) rfl (by decide)) rv7 q11) (fun a11 b11 f11 => ?_)
    obtain ⟨g13, h⟩ := gs h
    refine E_cast (pc' := 1073) dL_act_1070 rfl tq1882 (dO_pos g13) (dO_isI f9.1 g13) ?_
    refine X_iconst (pc' := 1074) dL_act_1073 rfl ?_
    obtain ⟨g14, h⟩ := gs h
    refine E_iald (pc' := 1075) dL_act_1074 rfl f9.1 g13 g14 ?_
    obtain ⟨g15, h⟩ := gs h
    refine E_iast (pc' := 1076) dL_act_1075 rfl f9.1 (dO_le f9.2 g6) g15 ?_
    obtain ⟨D16, e16, f16, h⟩ := zl_some (P := fun q => okD q ∧ DLe D9 q) h ⟨okD_dupJ f9.1 g15.1 (okS_at20 (dO_le f9.2 g6) (in_at f9.1 g13 (Or.inl rfl) g14.1)), DLe_dup _ _ _ _⟩
    rw [e16]
    exact X_sub (sub_s (sub_n (sub_s (sub_n (sub_n (sub_n (sub_n (sub_s (sub_n (sub_n (sub_n (sub_s (sub_s (sub_n sub_0)))))))))))))) (BL_act_1076 f16.1 (gdV_le f16.2 (gdV_le f9.2 rv0)) rv2 rv7 rv11 rv12 h (fun x0 D9 hh a b f0 => k1 x0 D9 hh a (DLe_trans (DLe_trans f9.2 f16.2) b) f0) (fun D9 hh a b => k2 D9 hh a (DLe_trans (DLe_trans f9.2 f16.2) b)))
  have h := if_t c7 h
  refine X_goto dL_act_1040 (tgt := 1076) rfl ?_
  exact X_sub (sub_s (sub_n (sub_s (sub_n (sub_n (sub_n (sub_n (sub_s (sub_n (sub_n (sub_n (sub_s (sub_s (sub_n sub_0)))))))))))))) (BL_act_1076 hD rv0 rv2 rv7 rv11 rv12 h (fun x0 D9 hh a b f0 => k1 x0 D9 hh a (DLe_trans (DLe_refl _) b) f0) (fun D9 hh a b => k2 D9 hh a (DLe_trans (DLe_refl _) b)))
theorem LL_act_1004 {ln : Nat} {z : ZZ} {v0 : Int} {v2 : Int} {v7 : Int} {v11 : Int} {Φ : xRes → xS → Prop} {r : DD} : ∀ (n : Nat) (v12 : Int) (D : DD), okD D → gdV D v0 → inR v2 → inR v7 → inR v11 → inR v12 → zlp (fun q => fL_act_s1004 v0 v2 v7 v11 q.1 q.2) n (v12, D) = some r → (∀ (D' : DD), r = D' → okD D' → DLe D D' → XD mL_act 1082 [none, none, some (.int (iN (v2))), none, none, none, none, none, none, none, none, some (.int (iN (v11))), none, none] [] ln D' z Φ) → XD mL_act 1004 [some (rV (v0)), none, some (.int (iN (v2))), none, none, none, none, some (.int (iN (v7))), none, none, none, some (.int (iN (v11))), some (.int (iN (v12))), none] [] ln D z Φ := by
  intro n
  induction n with
  | zero => intro v12 D hD rv0 rv2 rv7 rv11 rv12 h k2; cases h
  | succ n ih =>
    intro v12 D hD rv0 rv2 rv7 rv11 rv12 h k2
    rcases zlp_s h with ⟨⟨v12', D'⟩, e, h'⟩ | e
    · exact SL_act_1004 hD rv0 rv2 rv7 rv11 rv12 e (fun v12₁ D₁ hh a b f0 => by cases hh; exact ih _ _ a (gdV_le b rv0) rv2 rv7 rv11 f0 h' (fun D9 hh a' b' => k2 D9 hh a' (DLe_trans b b'))) (fun D9 hh => by cases hh)
    · exact SL_act_1004 hD rv0 rv2 rv7 rv11 rv12 e (fun v12₁ D₁ hh => by cases hh) (fun D9 hh a b => by cases hh; exact k2 _ rfl a b )
def fL_act_b1176 (v0 : Int) (s0 : Int) (s1 : Int) (s2 : Int) (D : DD) : Option (Int × DD) := (Option.bind (fL_some (s0) (s1) (s2) D) fun r1 => (if (r1) < (1) then some ((-1000000002), D) else (if (60) < (r1) then some ((-1000000002), D) else (Option.bind (fX6_ends (v0) (r1) D) fun q4 => match q4 with | (r4, D4) => (if dO D (v0) 7 then some (r4, D4) else none)))))
set_option maxRecDepth 100000 in
theorem BL_act_1176 {ln : Nat} {D : DD} {z : ZZ} {v0 : Int} {s0 : Int} {s1 : Int} {s2 : Int} {Φ : xRes → xS → Prop} (hD : okD D) (rv0 : gdV D v0) (rs0 : inR s0) (rs1 : inR s1) (rs2 : inR s2) {p : Int × DD} (h : fL_act_b1176 v0 s0 s1 s2 D = some p) (k : K_wi Φ ln D z p) : XD mL_act 1176 [some (rV (v0)), none, none, none, none, none, none, none, none, none, none, none, none, none] [.int (iN (s2)), .int (iN (s1)), .int (iN (s0))] ln D z Φ := by
  unfold fL_act_b1176 at h
  obtain ⟨r1, q1, h⟩ := bs h
  refine E_callS [.int (iN (s0)), .int (iN (s1)), .int (iN (s2))] (pc' := 1179) dL_act_1176 rfl (xSn SL_121) (by decide) rfl (c1_i (c1_i (c1_i c1_n))) (cs rfl) c1_n (cs rfl) rfl hD (CL_some hD rs0 rs1 rs2 q1) (fun a1 b1 f1 => ?_)
  refine X_istore (pc' := 1181) dL_act_1179 rfl (cl rfl) (Or.inr rfl) (L' := [some (rV (v0)), none, none, none, none, none, none, none, none, none, none, some (.int (iN (r1))), none, none]) rfl ?_
  refine X_iload (pc' := 1183) dL_act_1181 rfl rfl ?_
  refine X_iconst (pc' := 1184) dL_act_1183 rfl ?_
  refine X_icmp_lt dL_act_1184 (tgt := 1194) rfl (pc' := 1187) rfl ⟨f1.1, f1.2, (inR_c (n := 1) rfl).1, (inR_c (n := 1) rfl).2⟩ (fun c2 => ?_) (fun c2 => ?_)
  · have h := if_t c2 h
    refine X_ldcI (pc' := 1196) dL_act_1194 rfl tq1719 (n := (-1000000002)) rfl ?_
    refine X_goto dL_act_1196 (tgt := 1205) rfl ?_
    cases h
    exact X_iret dL_act_1205 rfl (k hD (DLe_refl _) (inR_c (n := (-1000000002)) rfl))
  have h := if_f (Int.not_lt.mpr c2) h
  refine X_iload (pc' := 1189) dL_act_1187 rfl rfl ?_
  refine X_bipush (pc' := 1191) dL_act_1189 rfl (by decide) ?_
  refine X_icmp_le dL_act_1191 (tgt := 1199) rfl (pc' := 1194) rfl ⟨f1.1, f1.2, (inR_c (n := 60) rfl).1, (inR_c (n := 60) rfl).2⟩ (fun c3 => ?_) (fun c3 => ?_)
  · have h := if_f (Int.not_lt.mpr c3) h
    refine E_aload_n (pc' := 1200) dL_act_1199 rfl rfl ?_
    refine X_iload (pc' := 1202) dL_act_1200 rfl rfl ?_
    obtain ⟨⟨r4, D4⟩, q4, h⟩ := bs h
    obtain ⟨g5, h⟩ := gs h
    refine E_callV [.int (iN (r1))] (pc' := 1205) dL_act_1202 rfl (xVc VL_203) (by decide) ⟨dO_pos g5, dO_is hD g5 rfl⟩ rfl (c1_i c1_n) (cs rfl) c1_n (cs rfl) rfl hD (CX6_ends hD rv0 f1 q4) (fun a4 b4 f4 => ?_)
    cases h
    exact X_iret dL_act_1205 rfl (k a4 b4 f4)
  have h := if_t c3 h
  refine X_ldcI (pc' := 1196) dL_act_1194 rfl tq1719 (n := (-1000000002)) rfl ?_
  refine X_goto dL_act_1196 (tgt := 1205) rfl ?_
  cases h
  exact X_iret dL_act_1205 rfl (k hD (DLe_refl _) (inR_c (n := (-1000000002)) rfl))
def fL_act_b106 (v0 : Int) (v1 : Int) (v2 : Int) (v3 : Int) (v4 : Int) (v5 : Int) (v6 : Int) (v7 : Int) (v8 : Int) (v9 : Int) (s0 : Int) (D : DD) : Option (Int × DD) := (if 0 ≤ (v1) ∧ (v1) ≤ 3 then (Option.bind (fL_some (v3) (0) (29) D) fun r2 => (if dO D (v0) 7 then (Option.bind (fJx4a65c_size_8abf5 ((dW D (v0) 4)) D) fun r4 => (if dO D ((dW D (v0) 4)) 9 then (if (v8) = (r4) then some ((-1000000001), D) else (Option.bind (fL_is (r2) (0) (29) D) fun r7 => (if (r7) = (0) then some ((-1000000002), D) else (Option.bind (fX6_isClosed (v0) (v8) D) fun r9 => (if (r9) = (0) then (Option.bind (fX6_onWall (v0) (v8) D) fun q11 => match q11 with | (r11, D11) => (if (r11) = (5) then some ((-1000000003), D11) else (Option.bind (fJx4a65c_size_8abf5 ((dW D11 (v0) 5)) D11) fun r13 => (if dO D11 ((dW D11 (v0) 5)) 9 then (if (r13) = (24) then some ((-1000000003), D11) else (if dT D11 < 600000 ∧ dS D11 + 7 ≤ 7200000 then (zl (dnew D11 8 7) fun D17 => (Option.bind (fX7_init ((dT D11)) (v8) (r2) ((dW D17 (v0) 3)) D17) fun D18 => (Option.bind (fJx4a65c_add_9ea2d ((dW D11 (v0) 5)) ((dT D11)) D18) fun q19 => match q19 with | (r19, D19) => (Option.bind (fJx4a65c_size_8abf5 ((dW D19 (v0) 5)) D19) fun r20 => (if dO D19 ((dW D19 (v0) 5)) 9 then (if inR ((r20 - 1)) then some ((r20 - 1), D19) else none) else none))))) else none)) else none)))) else some ((-1000000003), D)))))) else none)) else none)) else (if (v1) = 4 then (if (s0) = (0) then some ((-1000000001), D) else (if dO D (v0) 7 then (Option.bind (fJx4a65c_get_915e3 ((dW D (v0) 5)) (v5) D) fun r26 => (if dO D ((dW D (v0) 5)) 9 then (if dO D (r26) 8 then (Option.bind (fX6_grade_ (v0) (r26) D) fun q29 => match q29 with | (r29, D29) => (Option.bind (fX6_takeOff (v0) (v5) D29) fun D30 => some (r29, D30))) else none) else none)) else none)) else (if 5 ≤ (v1) ∧ (v1) ≤ 8 then (if (v9) = (0) then some ((-1000000001), D) else (if (s0) = (0) then some ((-1000000001), D) else (Option.bind (fX6_mayClimb (v0) (v4) (v5) D) fun r34 => (if dO D (v0) 7 then (if (r34) = (0) then some ((-1000000003), D) else (Option.bind (fJx4a65c_get_915e3 ((dW D (v0) 5)) (v5) D) fun r37 => (if dO D ((dW D (v0) 5)) 9 then (if dO D (r37) 8 then (Option.bind (fX6_grade_ (v0) (r37) D) fun q40 => match q40 with | (r40, D40) => (if (0 : Int) ≤ (r40) ∧ (0 : Int) < (10) then (if inR (((dW D (r37) 3) + (1 + (r40 / 10)))) then (zl (dup D40 (r37) 3 (((dW D (r37) 3) + (1 + (r40 / 10))))) fun D43 => (if inR (((dW D43 (r37) 4) + 1)) then (zl (dup D43 (r37) 4 (((dW D43 (r37) 4) + 1))) fun D45 => (zl (dup D45 (r37) 5 ((zor (dW D45 (r37) 5) (zshl 1 v4)))) fun D46 => (Option.bind (fJx4a65c_get_915e3 ((dW D46 (v0) 7)) (v4) D46) fun r47 => (if dO D46 ((dW D46 (v0) 7)) 9 then (if dO D46 (r47) 20 then (if (0 : Int) ≤ (2) ∧ (2 : Int) < ((dH D46 (r47)).2 : Int) then (if inR (((dW D46 (r47) (2)) + 1)) then (zl (dup D46 (r47) (2) (((dW D46 (r47) (2)) + 1))) fun D52 => some ((dW D52 (r37) 3), D52)) else none) else none) else none) else none)))) else none)) else none) else none)) else none) else none))) else none)))) else (if 9 ≤ (v1) ∧ (v1) ≤ 10 then (if (0 : Int) ≤ (v3) ∧ (0 : Int) < (7) then (Option.bind (fL_some ((v3 / 7)) (0) (29) D) fun r55 => (if (v9) = (0) then some ((-1000000001), D) else (if (s0) = (0) then some ((-1000000001), D) else (Option.bind (fL_is (r55) (0) (29) D) fun r58 => (if (r58) = (0) then some ((-1000000002), D) else (if dO D (v0) 7 then (Option.bind (fJx4a65c_get_915e3 ((dW D (v0) 5)) (v5) D) fun r61 => (if dO D ((dW D (v0) 5)) 9 then (if dO D (r61) 8 then (if ((zand (zshr (dW D (r61) 5) v4) 1)) = (0) then some ((-1000000003), D) else (Option.bind (fJ6_valueOf_2dffe (v4) D) fun r65 => (Option.bind (fJ6_valueOf_2dffe (r55) D) fun r66 => (Option.bind (fX18_put ((dW D (r61) 6)) (r65) (r66) D) fun q67 => match q67 with | (r67, D67) => (if dO D ((dW D (r61) 6)) 11 then (Option.bind (fX6_grade_ (v0) (r61) D67) fun q69 => match q69 with | (r69, D69) => some (r69, D69)) else none))))) else none) else none)) else none)))))) else none) else (if 11 ≤ (v1) ∧ (v1) ≤ 13 then (if (v9) = (0) then some ((-1000000001), D) else (if dO D (v0) 7 then (Option.bind (fJx4a65c_size_8abf5 ((dW D (v0) 6)) D) fun r73 => (if dO D ((dW D (v0) 6)) 9 then (if (v6) = (r73) then some ((-1000000001), D) else (Option.bind (fJx4a65c_get_915e3 ((dW D (v0) 7)) (v4) D) fun r76 => (if dO D ((dW D (v0) 7)) 9 then (if dO D (r76) 20 then (Option.bind (fJx4a65c_get_915e3 ((dW D (v0) 6)) (v6) D) fun r79 => (if dO D (r79) 20 then (if (0 : Int) ≤ (3) ∧ (3 : Int) < ((dH D (r76)).2 : Int) then (if ((dW D (r76) (3))) = ((-1)) then (if (0 : Int) ≤ (0) ∧ (0 : Int) < ((dH D (r76)).2 : Int) then (if (0 : Int) ≤ (0) ∧ (0 : Int) < ((dH D (r79)).2 : Int) then (if ((dW D (r76) (0))) = ((dW D (r79) (0))) then (Option.bind (fX6_isLent (v0) (v6) D) fun q86 => match q86 with | (r86, D86) => (if (r86) = (0) then (Option.bind (fX6_inForce (v0) (v6) ((dW D86 (v0) 3)) D86) fun r88 => (if (r88) = (0) then some ((-1000000003), D86) else (if (0 : Int) ≤ (3) ∧ (3 : Int) < ((dH D86 (r76)).2 : Int) then (zl (dup D86 (r76) (3) (v6)) fun D91 => (if (0 : Int) ≤ (1) ∧ (1 : Int) < ((dH D91 (r79)).2 : Int) then (if (0 : Int) ≤ (2) ∧ (2 : Int) < ((dH D91 (r79)).2 : Int) then (if inR (((dW D91 (r79) (1)) + (dW D91 (r79) (2)))) then some (((dW D91 (r79) (1)) + (dW D91 (r79) (2))), D91) else none) else none) else none)) else none))) else some ((-1000000003), D86))) else some ((-1000000003), D)) else none) else none) else some ((-1000000003), D)) else none) else none)) else none) else none))) else none)) else none)) else (if (v1) = 14 then (if (v9) = (0) then some ((-1000000001), D) else (if dO D (v0) 7 then (Option.bind (fJx4a65c_get_915e3 ((dW D (v0) 7)) (v4) D) fun r98 => (if dO D ((dW D (v0) 7)) 9 then (if dO D (r98) 20 then (if (0 : Int) ≤ (3) ∧ (3 : Int) < ((dH D (r98)).2 : Int) then (if ((dW D (r98) (3))) = ((-1)) then some ((-1000000003), D) else (Option.bind (fJx4a65c_get_915e3 ((dW D (v0) 7)) (v4) D) fun r103 => (if dO D (r103) 20 then (if (0 : Int) ≤ (3) ∧ (3 : Int) < ((dH D (r103)).2 : Int) then (zl (dup D (r103) (3) ((-1))) fun D106 => some ((dW D (r98) (3)), D106)) else none) else none))) else none) else none) else none)) else none)) else (if (v1) = 15 then (if (0 : Int) ≤ (v2) ∧ (0 : Int) < (5) then (if (0) < ((v2 % 5)) then fL_act_b724 (v0) (v6) (1) D else fL_act_b724 (v0) (v6) (0) D) else none) else (if 16 ≤ (v1) ∧ (v1) ≤ 17 then (if (v9) = (0) then some ((-1000000001), D) else (if dO D (v0) 7 then (Option.bind (fJx4a65c_size_8abf5 ((dW D (v0) 8)) D) fun r113 => (if dO D ((dW D (v0) 8)) 9 then (if (v7) = (r113) then some ((-1000000001), D) else (Option.bind (fJx4a65c_get_915e3 ((dW D (v0) 7)) (v4) D) fun r116 => (if dO D ((dW D (v0) 7)) 9 then (if dO D (r116) 20 then (Option.bind (fJx4a65c_get_915e3 ((dW D (v0) 8)) (v7) D) fun r119 => (if dO D (r119) 20 then (if (0 : Int) ≤ (4) ∧ (4 : Int) < ((dH D (r116)).2 : Int) then (if ((dW D (r116) (4))) = ((-1)) then (if (0 : Int) ≤ (1) ∧ (1 : Int) < ((dH D (r116)).2 : Int) then (if (0 : Int) ≤ (0) ∧ (0 : Int) < ((dH D (r119)).2 : Int) then (if inR (((dW D (r119) (0)) - 1)) then (if ((dW D (r116) (1))) = (((dW D (r119) (0)) - 1)) then (if (0 : Int) ≤ (2) ∧ (2 : Int) < ((dH D (r116)).2 : Int) then (if (0 : Int) ≤ (2) ∧ (2 : Int) < ((dH D (r119)).2 : Int) then (if ((dW D (r116) (2))) < ((dW D (r119) (2))) then some ((-1000000003), D) else (Option.bind (fX6_inCourse (v0) (v7) D) fun r130 => (Option.bind (fJ6_bitCount_0f7a4_D (r130) D) fun r131 => (if (0 : Int) ≤ (1) ∧ (1 : Int) < ((dH D (r119)).2 : Int) then (if (r131) < ((dW D (r119) (1))) then (zl (dup D (r116) (4) (v7)) fun D134 => (Option.bind (fX6_inCourse (v0) (v7) D134) fun r135 => (Option.bind (fJ6_bitCount_0f7a4_D (r135) D134) fun r136 => some (r136, D134)))) else some ((-1000000003), D)) else none)))) else none) else none) else some ((-1000000003), D)) else none) else none) else none) else some ((-1000000003), D)) else none) else none)) else none) else none))) else none)) else none)) else (if (v1) = 18 then (if (v9) = (0) then some ((-1000000001), D) else (if dO D (v0) 7 then (Option.bind (fJx4a65c_get_915e3 ((dW D (v0) 7)) (v4) D) fun r140 => (if dO D ((dW D (v0) 7)) 9 then (if dO D (r140) 20 then (if (0 : Int) ≤ (4) ∧ (4 : Int) < ((dH D (r140)).2 : Int) then (if ((dW D (r140) (4))) = ((-1)) then some ((-1000000003), D) else (Option.bind (fJx4a65c_get_915e3 ((dW D (v0) 7)) (v4) D) fun r145 => (if dO D (r145) 20 then (if (0 : Int) ≤ (4) ∧ (4 : Int) < ((dH D (r145)).2 : Int) then (zl (dup D (r145) (4) ((-1))) fun D148 => some ((dW D (r140) (4)), D148)) else none) else none))) else none) else none) else none)) else none)) else (if (v1) = 19 then (if dO D (v0) 7 then (Option.bind (fJx4a65c_size_8abf5 ((dW D (v0) 8)) D) fun r151 => (if dO D ((dW D (v0) 8)) 9 then (if (v7) = (r151) then some ((-1000000001), D) else (Option.bind (fX6_inCourse (v0) (v7) D) fun r154 => (Option.bind (zlp (fun q => fL_act_s1004 (v0) (v2) (v7) (r154) q.1 q.2) FU (0, D)) fun D155 => (Option.bind (fJ6_bitCount_0f7a4_D ((zand r154 v2)) D155) fun r156 => some (r156, D155))))) else none)) else none) else (if (v1) = 20 then (Option.bind (fL_some (v3) (1) (14) D) fun r158 => (if dO D (v0) 7 then (Option.bind (fJx4a65c_size_8abf5 ((dW D (v0) 4)) D) fun r160 => (if dO D ((dW D (v0) 4)) 9 then (if (v8) = (r160) then some ((-1000000001), D) else (Option.bind (fL_is (r158) (1) (14) D) fun r163 => (if (r163) = (0) then some ((-1000000002), D) else (Option.bind (fJx4a65c_get_915e3 ((dW D (v0) 4)) (v8) D) fun r165 => (if dO D (r165) 20 then (if (0 : Int) ≤ (3) ∧ (3 : Int) < ((dH D (r165)).2 : Int) then (if inR (((dW D (r165) (3)) + r158)) then (zl (dup D (r165) (3) (((dW D (r165) (3)) + r158))) fun D169 => (Option.bind (fJx4a65c_get_915e3 ((dW D169 (v0) 4)) (v8) D169) fun r170 => (if dO D169 ((dW D169 (v0) 4)) 9 then (if dO D169 (r170) 20 then (if (0 : Int) ≤ (3) ∧ (3 : Int) < ((dH D169 (r170)).2 : Int) then some ((dW D169 (r170) (3)), D169) else none) else none) else none))) else none) else none) else none))))) else none)) else none)) else (if (0 : Int) ≤ (v2) ∧ (0 : Int) < (4) then (if ((v2 % 4)) = (0) then fL_act_b1176 (v0) (v3) (1) (60) D else fL_act_b1176 (v0) (v3) (1) (5) D) else none))))))))))))
set_option maxRecDepth 100000 in
theorem BL_act_106 {ln : Nat} {D : DD} {z : ZZ} {v0 : Int} {v1 : Int} {v2 : Int} {v3 : Int} {v4 : Int} {v5 : Int} {v6 : Int} {v7 : Int} {v8 : Int} {v9 : Int} {s0 : Int} {Φ : xRes → xS → Prop} (hD : okD D) (rv0 : gdV D v0) (rv1 : inR v1) (rv2 : inR v2) (rv3 : inR v3) (rv4 : inR v4) (rv5 : inR v5) (rv6 : inR v6) (rv7 : inR v7) (rv8 : inR v8) (rv9 : inR v9) (rs0 : inR s0) {p : Int × DD} (h : fL_act_b106 v0 v1 v2 v3 v4 v5 v6 v7 v8 v9 s0 D = some p) (k : K_wi Φ ln D z p) : XD mL_act 106 [some (rV (v0)), some (.int (iN (v1))), some (.int (iN (v2))), some (.int (iN (v3))), some (.int (iN (v4))), some (.int (iN (v5))), some (.int (iN (v6))), some (.int (iN (v7))), some (.int (iN (v8))), some (.int (iN (v9))), none, none, none, none] [.int (iN (s0))] ln D z Φ := by
  unfold fL_act_b106 at h
  refine X_istore (pc' := 108) dL_act_106 rfl (cl rfl) (Or.inr rfl) (L' := [some (rV (v0)), some (.int (iN (v1))), some (.int (iN (v2))), some (.int (iN (v3))), some (.int (iN (v4))), some (.int (iN (v5))), some (.int (iN (v6))), some (.int (iN (v7))), some (.int (iN (v8))), some (.int (iN (v9))), some (.int (iN (s0))), none, none, none]) rfl ?_
  refine X_iload_n (pc' := 109) dL_act_108 rfl rfl ?_
  by_cases c1 : 0 ≤ (v1) ∧ (v1) ≤ 3
  · refine X_tableIn dL_act_109 (off := 99) (tgt := 208) rv1 (by omega) (by omega) (by rcases (show (v1) = 0 ∨ (v1) = 1 ∨ (v1) = 2 ∨ (v1) = 3 by omega) with q9 | q9 | q9 | q9 <;> rw [q9] <;> rfl) rfl ?_
    have h := if_t c1 h
    refine X_iload_n (pc' := 209) dL_act_208 rfl rfl ?_
    refine X_iconst (pc' := 210) dL_act_209 rfl ?_
    refine X_bipush (pc' := 212) dL_act_210 rfl (by decide) ?_
    obtain ⟨r2, q2, h⟩ := bs h
    refine E_callS [.int (iN (v3)), .int (iN (0)), .int (iN (29))] (pc' := 215) dL_act_212 rfl (xSn SL_121) (by decide) rfl (c1_i (c1_i (c1_i c1_n))) (cs rfl) c1_n (cs rfl) rfl hD (CL_some hD rv3 (inR_c (n := 0) rfl) (inR_c (n := 29) rfl) q2) (fun a2 b2 f2 => ?_)
    refine X_istore (pc' := 217) dL_act_215 rfl (cl rfl) (Or.inr rfl) (L' := [some (rV (v0)), some (.int (iN (v1))), some (.int (iN (v2))), some (.int (iN (v3))), some (.int (iN (v4))), some (.int (iN (v5))), some (.int (iN (v6))), some (.int (iN (v7))), some (.int (iN (v8))), some (.int (iN (v9))), some (.int (iN (s0))), some (.int (iN (r2))), none, none]) rfl ?_
    refine X_iload (pc' := 219) dL_act_217 rfl rfl ?_
    refine E_aload_n (pc' := 220) dL_act_219 rfl rfl ?_
    obtain ⟨g3, h⟩ := gs h
    refine E_getR (pc' := 223) dL_act_220 rfl FL_118_6 hD g3 rfl (j := 4) rfl ?_
    obtain ⟨r4, q4, h⟩ := bs h
    obtain ⟨g5, h⟩ := gs h
    refine E_callV [] (pc' := 226) dL_act_223 rfl (xVc VL_101) (by decide) ⟨dO_pos g5, dO_is hD g5 rfl⟩ rfl c1_n (cs rfl) (c1_i c1_n) (cs rfl) rfl hD (CJx4a65c_size_8abf5 hD (gd_slot (k := 4) hD g3 rfl (by decide)) q4) (fun a4 b4 f4 => ?_)
    refine X_icmp_ne dL_act_226 (tgt := 232) rfl (pc' := 229) rfl ⟨rv8.1, rv8.2, f4.1, f4.2⟩ (fun c6 => ?_) (fun c6 => ?_)
    · have h := if_f c6 h
      refine X_iload (pc' := 234) dL_act_232 rfl rfl ?_
      refine X_iconst (pc' := 235) dL_act_234 rfl ?_
      refine X_bipush (pc' := 237) dL_act_235 rfl (by decide) ?_
      obtain ⟨r7, q7, h⟩ := bs h
      refine E_callS [.int (iN (r2)), .int (iN (0)), .int (iN (29))] (pc' := 240) dL_act_237 rfl (xSn SL_124) (by decide) rfl (c1_i (c1_i (c1_i c1_n))) (cs rfl) c1_n (cs rfl) rfl hD (CL_is hD f2 (inR_c (n := 0) rfl) (inR_c (n := 29) rfl) q7) (fun a7 b7 f7 => ?_)
      refine X_if_ne dL_act_240 (tgt := 246) rfl (pc' := 243) rfl (inR_b f7) (fun c8 => ?_) (fun c8 => ?_)
      · have h := if_f c8 h
        refine E_aload_n (pc' := 247) dL_act_246 rfl rfl ?_
        refine X_iload (pc' := 249) dL_act_247 rfl rfl ?_
        obtain ⟨r9, q9, h⟩ := bs h
        refine E_callV [.int (iN (v8))] (pc' := 252) dL_act_249 rfl (xVc VL_128) (by decide) ⟨dO_pos g3, dO_is hD g3 rfl⟩ rfl (c1_i c1_n) (cs rfl) c1_n (cs rfl) rfl hD (CX6_isClosed hD rv0 rv8 q9) (fun a9 b9 f9 => ?_)
        refine X_if_ne dL_act_252 (tgt := 277) rfl (pc' := 255) rfl (inR_b f9) (fun c10 => ?_) (fun c10 => ?_)
        · have h := if_f c10 h
          refine X_ldcI (pc' := 279) dL_act_277 rfl tq1760 (n := (-1000000003)) rfl ?_
          cases h
          exact X_iret dL_act_279 rfl (k hD (DLe_refl _) (inR_c (n := (-1000000003)) rfl))
        have h := if_t c10 h
        refine E_aload_n (pc' := 256) dL_act_255 rfl rfl ?_
        refine X_iload (pc' := 258) dL_act_256 rfl rfl ?_
        obtain ⟨⟨r11, D11⟩, q11, h⟩ := bs h
        refine E_callV [.int (iN (v8))] (pc' := 261) dL_act_258 rfl (xVc VL_132) (by decide) ⟨dO_pos g3, dO_is hD g3 rfl⟩ rfl (c1_i c1_n) (cs rfl) c1_n (cs rfl) rfl hD (CX6_onWall hD rv0 rv8 q11) (fun a11 b11 f11 => ?_)
        refine X_iconst (pc' := 262) dL_act_261 rfl ?_
        refine X_icmp_eq dL_act_262 (tgt := 277) rfl (pc' := 265) rfl ⟨f11.1, f11.2, (inR_c (n := 5) rfl).1, (inR_c (n := 5) rfl).2⟩ (fun c12 => ?_) (fun c12 => ?_)
        · have h := if_t c12 h
          refine X_ldcI (pc' := 279) dL_act_277 rfl tq1760 (n := (-1000000003)) rfl ?_
          cases h
          exact X_iret dL_act_279 rfl (k a11 b11 (inR_c (n := (-1000000003)) rfl))
        have h := if_f c12 h
        refine E_aload_n (pc' := 266) dL_act_265 rfl rfl ?_
        refine E_getR (pc' := 269) dL_act_266 rfl FL_109_6 a11 (dO_le b11 g3) rfl (j := 5) rfl ?_
        obtain ⟨r13, q13, h⟩ := bs h
        obtain ⟨g14, h⟩ := gs h
        refine E_callV [] (pc' := 272) dL_act_269 rfl (xVc VL_101) (by decide) ⟨dO_pos g14, dO_is a11 g14 rfl⟩ rfl c1_n (cs rfl) c1_n (cs rfl) rfl a11 (CJx4a65c_size_8abf5 a11 (gd_slot (k := 5) a11 (dO_le b11 g3) rfl (by decide)) q13) (fun a13 b13 f13 => ?_)
        refine X_bipush (pc' := 274) dL_act_272 rfl (by decide) ?_
        refine X_icmp_ne dL_act_274 (tgt := 280) rfl (pc' := 277) rfl ⟨f13.1, f13.2, (inR_c (n := 24) rfl).1, (inR_c (n := 24) rfl).2⟩ (fun c15 => ?_) (fun c15 => ?_)
        · have h := if_f c15 h
          refine E_aload_n (pc' := 281) dL_act_280 rfl rfl ?_
          refine E_getR (pc' := 284) dL_act_281 rfl FL_109_6 a11 (dO_le b11 g3) rfl (j := 5) rfl ?_
          obtain ⟨g16, h⟩ := gs h
          refine E_new (c := 7) (n := 7) (pc' := 287) dL_act_284 rfl rfl rfl (by decide) tq1860 tq604 tq40 a11 g16 ?_
          obtain ⟨D17, e17, f17, h⟩ := zl_some (P := fun q => okD q ∧ DLe D11 q ∧ dO q (dT D11) 8) h ⟨okD_dnew a11 (by decide) (by decide) g16.1 g16.2, DLe_dnew _ (by decide), dO_dnew a11⟩
          rw [e17]
          refine X_dup (pc' := 288) dL_act_287 rfl (rV_cat _) ?_
          refine X_iload (pc' := 290) dL_act_288 rfl rfl ?_
          refine X_iload (pc' := 292) dL_act_290 rfl rfl ?_
          refine E_aload_n (pc' := 293) dL_act_292 rfl rfl ?_
          refine E_getI (pc' := 296) dL_act_293 rfl FL_137_6 f17.1 (dO_le f17.2.1 (dO_le b11 g3)) rfl (j := 3) rfl ?_
          obtain ⟨D18, q18, h⟩ := bs h
          refine E_callI (μ := mL_act) (μ' := mX7_init) [.int (iN (v8)), .int (iN (r2)), .int (iN ((dW D17 (v0) 3)))] (pc' := 299) dL_act_296 rfl tq1861 IL_141 (by decide) ⟨f17.2.2.1, f17.2.2.2.1⟩ rfl (c1_i (c1_i (c1_i c1_n))) (cs rfl) (c1_r (c1_r c1_n)) (cs rfl) rfl f17.1 (CX7_init f17.1 (dO_gd f17.2.2 (by decide)) rv8 f2 (in_slot (k := 3) f17.1 (dO_le f17.2.1 (dO_le b11 g3)) rfl (by decide)) q18) (fun a18 b18 f18 => ?_)
          obtain ⟨⟨r19, D19⟩, q19, h⟩ := bs h
          refine E_callV [rV ((dT D11))] (pc' := 302) dL_act_299 rfl (xVc VL_144) (by decide) ⟨dO_pos (dO_le b18 (dO_le f17.2.1 g14)), dO_is a18 (dO_le b18 (dO_le f17.2.1 g14)) rfl⟩ rfl (c1_r c1_n) (cs rfl) c1_n (cs rfl) rfl a18 (CJx4a65c_add_9ea2d a18 (gdV_le b18 (gdV_le f17.2.1 (gd_slot (k := 5) a11 (dO_le b11 g3) rfl (by decide)))) (gdV_le b18 (dO_gd f17.2.2 (by decide))) q19) (fun a19 b19 f19 => ?_)
          refine X_pop (pc' := 303) dL_act_302 rfl rfl ?_
          refine E_aload_n (pc' := 304) dL_act_303 rfl rfl ?_
          refine E_getR (pc' := 307) dL_act_304 rfl FL_109_6 a19 (dO_le b19 (dO_le b18 (dO_le f17.2.1 (dO_le b11 g3)))) rfl (j := 5) rfl ?_
          obtain ⟨r20, q20, h⟩ := bs h
          obtain ⟨g21, h⟩ := gs h
          refine E_callV [] (pc' := 310) dL_act_307 rfl (xVc VL_101) (by decide) ⟨dO_pos g21, dO_is a19 g21 rfl⟩ rfl c1_n (cs rfl) c1_n (cs rfl) rfl a19 (CJx4a65c_size_8abf5 a19 (gd_slot (k := 5) a19 (dO_le b19 (dO_le b18 (dO_le f17.2.1 (dO_le b11 g3)))) rfl (by decide)) q20) (fun a20 b20 f20 => ?_)
          refine X_iconst (pc' := 311) dL_act_310 rfl ?_
          refine X_isub (pc' := 312) dL_act_311 rfl ?_
          obtain ⟨g22, h⟩ := gs h
          cases h
          exact X_iret dL_act_312 rfl (k a19 (DLe_trans (DLe_trans (DLe_trans b11 f17.2.1) b18) b19) g22)
        have h := if_t c15 h
        refine X_ldcI (pc' := 279) dL_act_277 rfl tq1760 (n := (-1000000003)) rfl ?_
        cases h
        exact X_iret dL_act_279 rfl (k a11 b11 (inR_c (n := (-1000000003)) rfl))
      have h := if_t c8 h
      refine X_ldcI (pc' := 245) dL_act_243 rfl tq1719 (n := (-1000000002)) rfl ?_
      cases h
      exact X_iret dL_act_245 rfl (k hD (DLe_refl _) (inR_c (n := (-1000000002)) rfl))
    have h := if_t c6 h
    refine X_ldcI (pc' := 231) dL_act_229 rfl tq1815 (n := (-1000000001)) rfl ?_
    cases h
    exact X_iret dL_act_231 rfl (k hD (DLe_refl _) (inR_c (n := (-1000000001)) rfl))
  have h := if_f c1 h
  by_cases c23 : (v1) = 4
  · refine X_tableIn dL_act_109 (off := 204) (tgt := 313) rv1 (by rw [c23]; decide) (by rw [c23]; decide) (by rw [c23]; rfl) rfl ?_
    have h := if_t c23 h
    refine X_iload (pc' := 315) dL_act_313 rfl rfl ?_
    refine X_if_ne dL_act_315 (tgt := 321) rfl (pc' := 318) rfl rs0 (fun c24 => ?_) (fun c24 => ?_)
    · have h := if_f c24 h
      refine E_aload_n (pc' := 322) dL_act_321 rfl rfl ?_
      refine E_aload_n (pc' := 323) dL_act_322 rfl rfl ?_
      obtain ⟨g25, h⟩ := gs h
      refine E_getR (pc' := 326) dL_act_323 rfl FL_109_6 hD g25 rfl (j := 5) rfl ?_
      refine X_iload (pc' := 328) dL_act_326 rfl rfl ?_
      obtain ⟨r26, q26, h⟩ := bs h
      obtain ⟨g27, h⟩ := gs h
      refine E_callV [.int (iN (v5))] (pc' := 331) dL_act_328 rfl (xVc VL_148) (by decide) ⟨dO_pos g27, dO_is hD g27 rfl⟩ rfl (c1_i c1_n) (cs rfl) (c1_r c1_n) (cs rfl) rfl hD (CJx4a65c_get_915e3 hD (gd_slot (k := 5) hD g25 rfl (by decide)) rv5 q26) (fun a26 b26 f26 => ?_)
      obtain ⟨g28, h⟩ := gs h
      refine E_cast (pc' := 334) dL_act_331 rfl tq1860 (dO_pos g28) (dO_is hD g28 rfl) ?_
      obtain ⟨⟨r29, D29⟩, q29, h⟩ := bs h
      refine E_callV [rV (r26)] (pc' := 337) dL_act_334 rfl (xVc VL_152) (by decide) ⟨dO_pos g25, dO_is hD g25 rfl⟩ rfl (c1_r c1_n) (cs rfl) c1_n (cs rfl) rfl hD (CX6_grade_ hD rv0 f26 q29) (fun a29 b29 f29 => ?_)
      refine X_istore (pc' := 339) dL_act_337 rfl (cl rfl) (Or.inr rfl) (L' := [some (rV (v0)), some (.int (iN (v1))), some (.int (iN (v2))), some (.int (iN (v3))), some (.int (iN (v4))), some (.int (iN (v5))), some (.int (iN (v6))), some (.int (iN (v7))), some (.int (iN (v8))), some (.int (iN (v9))), some (.int (iN (s0))), some (.int (iN (r29))), none, none]) rfl ?_
      refine E_aload_n (pc' := 340) dL_act_339 rfl rfl ?_
      refine X_iload (pc' := 342) dL_act_340 rfl rfl ?_
      obtain ⟨D30, q30, h⟩ := bs h
      refine E_callV [.int (iN (v5))] (pc' := 345) dL_act_342 rfl (xVc VL_156) (by decide) ⟨dO_pos (dO_le b29 g25), dO_is a29 (dO_le b29 g25) rfl⟩ rfl (c1_i c1_n) (cs rfl) c1_n (cs rfl) rfl a29 (CX6_takeOff a29 (gdV_le b29 rv0) rv5 q30) (fun a30 b30 f30 => ?_)
      refine X_iload (pc' := 347) dL_act_345 rfl rfl ?_
      cases h
      exact X_iret dL_act_347 rfl (k a30 (DLe_trans b29 b30) f29)
    have h := if_t c24 h
    refine X_ldcI (pc' := 320) dL_act_318 rfl tq1815 (n := (-1000000001)) rfl ?_
    cases h
    exact X_iret dL_act_320 rfl (k hD (DLe_refl _) (inR_c (n := (-1000000001)) rfl))
  have h := if_f c23 h
  by_cases c31 : 5 ≤ (v1) ∧ (v1) ≤ 8
  · refine X_tableIn dL_act_109 (off := 239) (tgt := 348) rv1 (by omega) (by omega) (by rcases (show (v1) = 5 ∨ (v1) = 6 ∨ (v1) = 7 ∨ (v1) = 8 by omega) with q9 | q9 | q9 | q9 <;> rw [q9] <;> rfl) rfl ?_
    have h := if_t c31 h
    refine X_iload (pc' := 350) dL_act_348 rfl rfl ?_
    refine X_if_eq dL_act_350 (tgt := 358) rfl (pc' := 353) rfl rv9 (fun c32 => ?_) (fun c32 => ?_)
    · have h := if_t c32 h
      refine X_ldcI (pc' := 360) dL_act_358 rfl tq1815 (n := (-1000000001)) rfl ?_
      cases h
      exact X_iret dL_act_360 rfl (k hD (DLe_refl _) (inR_c (n := (-1000000001)) rfl))
    have h := if_f c32 h
    refine X_iload (pc' := 355) dL_act_353 rfl rfl ?_
    refine X_if_ne dL_act_355 (tgt := 361) rfl (pc' := 358) rfl rs0 (fun c33 => ?_) (fun c33 => ?_)
    · have h := if_f c33 h
      refine E_aload_n (pc' := 362) dL_act_361 rfl rfl ?_
      refine X_iload (pc' := 364) dL_act_362 rfl rfl ?_
      refine X_iload (pc' := 366) dL_act_364 rfl rfl ?_
      obtain ⟨r34, q34, h⟩ := bs h
      obtain ⟨g35, h⟩ := gs h
      refine E_callV [.int (iN (v4)), .int (iN (v5))] (pc' := 369) dL_act_366 rfl (xVc VL_160) (by decide) ⟨dO_pos g35, dO_is hD g35 rfl⟩ rfl (c1_i (c1_i c1_n)) (cs rfl) c1_n (cs rfl) rfl hD (CX6_mayClimb hD rv0 rv4 rv5 q34) (fun a34 b34 f34 => ?_)
      refine X_if_ne dL_act_369 (tgt := 375) rfl (pc' := 372) rfl (inR_b f34) (fun c36 => ?_) (fun c36 => ?_)
      · have h := if_f c36 h
        refine E_aload_n (pc' := 376) dL_act_375 rfl rfl ?_
        refine E_getR (pc' := 379) dL_act_376 rfl FL_109_6 hD g35 rfl (j := 5) rfl ?_
        refine X_iload (pc' := 381) dL_act_379 rfl rfl ?_
        obtain ⟨r37, q37, h⟩ := bs h
        obtain ⟨g38, h⟩ := gs h
        refine E_callV [.int (iN (v5))] (pc' := 384) dL_act_381 rfl (xVc VL_148) (by decide) ⟨dO_pos g38, dO_is hD g38 rfl⟩ rfl (c1_i c1_n) (cs rfl) c1_n (cs rfl) rfl hD (CJx4a65c_get_915e3 hD (gd_slot (k := 5) hD g35 rfl (by decide)) rv5 q37) (fun a37 b37 f37 => ?_)
        obtain ⟨g39, h⟩ := gs h
        refine E_cast (pc' := 387) dL_act_384 rfl tq1860 (dO_pos g39) (dO_is hD g39 rfl) ?_
        refine E_astore (pc' := 389) dL_act_387 rfl (cl rfl) (Or.inr rfl) (L' := [some (rV (v0)), some (.int (iN (v1))), some (.int (iN (v2))), some (.int (iN (v3))), some (.int (iN (v4))), some (.int (iN (v5))), some (.int (iN (v6))), some (.int (iN (v7))), some (.int (iN (v8))), some (.int (iN (v9))), some (.int (iN (s0))), some (rV (r37)), none, none]) rfl ?_
        refine E_aload (pc' := 391) dL_act_389 rfl rfl ?_
        refine X_dup (pc' := 392) dL_act_391 rfl (rV_cat _) ?_
        refine E_getI (pc' := 395) dL_act_392 rfl FL_164_7 hD g39 rfl (j := 3) rfl ?_
        refine X_iconst (pc' := 396) dL_act_395 rfl ?_
        refine E_aload_n (pc' := 397) dL_act_396 rfl rfl ?_
        refine E_aload (pc' := 399) dL_act_397 rfl rfl ?_
        obtain ⟨⟨r40, D40⟩, q40, h⟩ := bs h
        refine E_callV [rV (r37)] (pc' := 402) dL_act_399 rfl (xVc VL_152) (by decide) ⟨dO_pos g35, dO_is hD g35 rfl⟩ rfl (c1_r c1_n) (cs rfl) (c1_i (c1_i (c1_r c1_n))) (cs rfl) rfl hD (CX6_grade_ hD rv0 f37 q40) (fun a40 b40 f40 => ?_)
        refine X_bipush (pc' := 404) dL_act_402 rfl (by decide) ?_
        obtain ⟨g41, h⟩ := gs h
        refine X_idiv (pc' := 405) dL_act_404 rfl ⟨g41.1, f40.2, g41.2, (inR_c (n := 10) rfl).2⟩ ?_
        refine X_iadd (pc' := 406) dL_act_405 rfl ?_
        refine X_iadd (pc' := 407) dL_act_406 rfl ?_
        obtain ⟨g42, h⟩ := gs h
        refine E_putI (pc' := 410) dL_act_407 rfl FL_164_7 a40 (dO_le b40 g39) rfl (fun r hr => by cases hr; exact Or.inl rfl) (xFit_int _) (j := 3) rfl ?_
        obtain ⟨D43, e43, f43, h⟩ := zl_some (P := fun q => okD q ∧ DLe D40 q) h ⟨okD_dup (k := 3) a40 (okS_I (dO_le b40 g39) rfl (by decide) (by decide) g42), DLe_dup _ _ _ _⟩
        rw [e43]
        refine E_aload (pc' := 412) dL_act_410 rfl rfl ?_
        refine X_dup (pc' := 413) dL_act_412 rfl (rV_cat _) ?_
        refine E_getI (pc' := 416) dL_act_413 rfl FL_167_7 f43.1 (dO_le f43.2 (dO_le b40 g39)) rfl (j := 4) rfl ?_
        refine X_iconst (pc' := 417) dL_act_416 rfl ?_
        refine X_iadd (pc' := 418) dL_act_417 rfl ?_
        obtain ⟨g44, h⟩ := gs h
        refine E_putI (pc' := 421) dL_act_418 rfl FL_167_7 f43.1 (dO_le f43.2 (dO_le b40 g39)) rfl (fun r hr => by cases hr; exact Or.inl rfl) (xFit_int _) (j := 4) rfl ?_
        obtain ⟨D45, e45, f45, h⟩ := zl_some (P := fun q => okD q ∧ DLe D43 q) h ⟨okD_dup (k := 4) f43.1 (okS_I (dO_le f43.2 (dO_le b40 g39)) rfl (by decide) (by decide) g44), DLe_dup _ _ _ _⟩
        rw [e45]
        refine E_aload (pc' := 423) dL_act_421 rfl rfl ?_
        refine X_dup (pc' := 424) dL_act_423 rfl (rV_cat _) ?_
        refine E_getI (pc' := 427) dL_act_424 rfl FL_170_7 f45.1 (dO_le f45.2 (dO_le f43.2 (dO_le b40 g39))) rfl (j := 5) rfl ?_
        refine X_iconst (pc' := 428) dL_act_427 rfl ?_
        refine X_iload (pc' := 430) dL_act_428 rfl rfl ?_
        refine X_ishl (pc' := 431) dL_act_430 rfl ?_
        refine X_ior (pc' := 432) dL_act_431 rfl ?_
        refine E_putI (pc' := 435) dL_act_432 rfl FL_170_7 f45.1 (dO_le f45.2 (dO_le f43.2 (dO_le b40 g39))) rfl (fun r hr => by cases hr; exact Or.inl rfl) (xFit_int _) (j := 5) rfl ?_
        obtain ⟨D46, e46, f46, h⟩ := zl_some (P := fun q => okD q ∧ DLe D45 q) h ⟨okD_dup (k := 5) f45.1 (okS_I (dO_le f45.2 (dO_le f43.2 (dO_le b40 g39))) rfl (by decide) (by decide) (inR_zor _ _)), DLe_dup _ _ _ _⟩
        rw [e46]
        refine E_aload_n (pc' := 436) dL_act_435 rfl rfl ?_
        refine E_getR (pc' := 439) dL_act_436 rfl FL_95_6 f46.1 (dO_le f46.2 (dO_le f45.2 (dO_le f43.2 (dO_le b40 g35)))) rfl (j := 7) rfl ?_
        refine X_iload (pc' := 441) dL_act_439 rfl rfl ?_
        obtain ⟨r47, q47, h⟩ := bs h
        obtain ⟨g48, h⟩ := gs h
        refine E_callV [.int (iN (v4))] (pc' := 444) dL_act_441 rfl (xVc VL_148) (by decide) ⟨dO_pos g48, dO_is f46.1 g48 rfl⟩ rfl (c1_i c1_n) (cs rfl) c1_n (cs rfl) rfl f46.1 (CJx4a65c_get_915e3 f46.1 (gd_slot (k := 7) f46.1 (dO_le f46.2 (dO_le f45.2 (dO_le f43.2 (dO_le b40 g35)))) rfl (by decide)) rv4 q47) (fun a47 b47 f47 => ?_)
        obtain ⟨g49, h⟩ := gs h
        refine E_cast (pc' := 447) dL_act_444 rfl tq1882 (dO_pos g49) (dO_isI f46.1 g49) ?_
        refine X_iconst (pc' := 448) dL_act_447 rfl ?_
        refine X_dup2 (pc' := 449) dL_act_448 rfl rfl (rV_cat _) ?_
        obtain ⟨g50, h⟩ := gs h
        refine E_iald (pc' := 450) dL_act_449 rfl f46.1 g49 g50 ?_
        refine X_iconst (pc' := 451) dL_act_450 rfl ?_
        refine X_iadd (pc' := 452) dL_act_451 rfl ?_
        obtain ⟨g51, h⟩ := gs h
        refine E_iast (pc' := 453) dL_act_452 rfl f46.1 g49 g50 ?_
        obtain ⟨D52, e52, f52, h⟩ := zl_some (P := fun q => okD q ∧ DLe D46 q) h ⟨okD_dupJ f46.1 g50.1 (okS_at20 g49 g51), DLe_dup _ _ _ _⟩
        rw [e52]
        refine E_aload (pc' := 455) dL_act_453 rfl rfl ?_
        refine E_getI (pc' := 458) dL_act_455 rfl FL_164_7 f52.1 (dO_le f52.2 (dO_le f46.2 (dO_le f45.2 (dO_le f43.2 (dO_le b40 g39))))) rfl (j := 3) rfl ?_
        cases h
        exact X_iret dL_act_458 rfl (k f52.1 (DLe_trans (DLe_trans (DLe_trans (DLe_trans b40 f43.2) f45.2) f46.2) f52.2) (in_slot (k := 3) f52.1 (dO_le f52.2 (dO_le f46.2 (dO_le f45.2 (dO_le f43.2 (dO_le b40 g39))))) rfl (by decide)))
      have h := if_t c36 h
      refine X_ldcI (pc' := 374) dL_act_372 rfl tq1760 (n := (-1000000003)) rfl ?_
      cases h
      exact X_iret dL_act_374 rfl (k hD (DLe_refl _) (inR_c (n := (-1000000003)) rfl))
    have h := if_t c33 h
    refine X_ldcI (pc' := 360) dL_act_358 rfl tq1815 (n := (-1000000001)) rfl ?_
    cases h
    exact X_iret dL_act_360 rfl (k hD (DLe_refl _) (inR_c (n := (-1000000001)) rfl))
  have h := if_f c31 h
  by_cases c53 : 9 ≤ (v1) ∧ (v1) ≤ 10
  · refine X_tableIn dL_act_109 (off := 350) (tgt := 459) rv1 (by omega) (by omega) (by rcases (show (v1) = 9 ∨ (v1) = 10 by omega) with q9 | q9 <;> rw [q9] <;> rfl) rfl ?_
    have h := if_t c53 h
    refine X_iload_n (pc' := 460) dL_act_459 rfl rfl ?_
    refine X_bipush (pc' := 462) dL_act_460 rfl (by decide) ?_
    obtain ⟨g54, h⟩ := gs h
    refine X_idiv (pc' := 463) dL_act_462 rfl ⟨g54.1, rv3.2, g54.2, (inR_c (n := 7) rfl).2⟩ ?_
    refine X_iconst (pc' := 464) dL_act_463 rfl ?_
    refine X_bipush (pc' := 466) dL_act_464 rfl (by decide) ?_
    obtain ⟨r55, q55, h⟩ := bs h
    refine E_callS [.int (iN ((v3 / 7))), .int (iN (0)), .int (iN (29))] (pc' := 469) dL_act_466 rfl (xSn SL_121) (by decide) rfl (c1_i (c1_i (c1_i c1_n))) (cs rfl) c1_n (cs rfl) rfl hD (CL_some hD (inR_div g54 rv3) (inR_c (n := 0) rfl) (inR_c (n := 29) rfl) q55) (fun a55 b55 f55 => ?_)
    refine X_istore (pc' := 471) dL_act_469 rfl (cl rfl) (Or.inr rfl) (L' := [some (rV (v0)), some (.int (iN (v1))), some (.int (iN (v2))), some (.int (iN (v3))), some (.int (iN (v4))), some (.int (iN (v5))), some (.int (iN (v6))), some (.int (iN (v7))), some (.int (iN (v8))), some (.int (iN (v9))), some (.int (iN (s0))), some (.int (iN (r55))), none, none]) rfl ?_
    refine X_iload (pc' := 473) dL_act_471 rfl rfl ?_
    refine X_if_eq dL_act_473 (tgt := 481) rfl (pc' := 476) rfl rv9 (fun c56 => ?_) (fun c56 => ?_)
    · have h := if_t c56 h
      refine X_ldcI (pc' := 483) dL_act_481 rfl tq1815 (n := (-1000000001)) rfl ?_
      cases h
      exact X_iret dL_act_483 rfl (k hD (DLe_refl _) (inR_c (n := (-1000000001)) rfl))
    have h := if_f c56 h
    refine X_iload (pc' := 478) dL_act_476 rfl rfl ?_
    refine X_if_ne dL_act_478 (tgt := 484) rfl (pc' := 481) rfl rs0 (fun c57 => ?_) (fun c57 => ?_)
    · have h := if_f c57 h
      refine X_iload (pc' := 486) dL_act_484 rfl rfl ?_
      refine X_iconst (pc' := 487) dL_act_486 rfl ?_
      refine X_bipush (pc' := 489) dL_act_487 rfl (by decide) ?_
      obtain ⟨r58, q58, h⟩ := bs h
      refine E_callS [.int (iN (r55)), .int (iN (0)), .int (iN (29))] (pc' := 492) dL_act_489 rfl (xSn SL_124) (by decide) rfl (c1_i (c1_i (c1_i c1_n))) (cs rfl) c1_n (cs rfl) rfl hD (CL_is hD f55 (inR_c (n := 0) rfl) (inR_c (n := 29) rfl) q58) (fun a58 b58 f58 => ?_)
      refine X_if_ne dL_act_492 (tgt := 498) rfl (pc' := 495) rfl (inR_b f58) (fun c59 => ?_) (fun c59 => ?_)
      · have h := if_f c59 h
        refine E_aload_n (pc' := 499) dL_act_498 rfl rfl ?_
        obtain ⟨g60, h⟩ := gs h
        refine E_getR (pc' := 502) dL_act_499 rfl FL_109_6 hD g60 rfl (j := 5) rfl ?_
        refine X_iload (pc' := 504) dL_act_502 rfl rfl ?_
        obtain ⟨r61, q61, h⟩ := bs h
        obtain ⟨g62, h⟩ := gs h
        refine E_callV [.int (iN (v5))] (pc' := 507) dL_act_504 rfl (xVc VL_148) (by decide) ⟨dO_pos g62, dO_is hD g62 rfl⟩ rfl (c1_i c1_n) (cs rfl) c1_n (cs rfl) rfl hD (CJx4a65c_get_915e3 hD (gd_slot (k := 5) hD g60 rfl (by decide)) rv5 q61) (fun a61 b61 f61 => ?_)
        obtain ⟨g63, h⟩ := gs h
        refine E_cast (pc' := 510) dL_act_507 rfl tq1860 (dO_pos g63) (dO_is hD g63 rfl) ?_
        refine E_astore (pc' := 512) dL_act_510 rfl (cl rfl) (Or.inr rfl) (L' := [some (rV (v0)), some (.int (iN (v1))), some (.int (iN (v2))), some (.int (iN (v3))), some (.int (iN (v4))), some (.int (iN (v5))), some (.int (iN (v6))), some (.int (iN (v7))), some (.int (iN (v8))), some (.int (iN (v9))), some (.int (iN (s0))), some (.int (iN (r55))), some (rV (r61)), none]) rfl ?_
        refine E_aload (pc' := 514) dL_act_512 rfl rfl ?_
        refine E_getI (pc' := 517) dL_act_514 rfl FL_170_7 hD g63 rfl (j := 5) rfl ?_
        refine X_iload (pc' := 519) dL_act_517 rfl rfl ?_
        refine X_ishr (pc' := 520) dL_act_519 rfl ?_
        refine X_iconst (pc' := 521) dL_act_520 rfl ?_
        refine X_iand (pc' := 522) dL_act_521 rfl ?_
        refine X_if_ne dL_act_522 (tgt := 528) rfl (pc' := 525) rfl (inR_zand _ _) (fun c64 => ?_) (fun c64 => ?_)
        · have h := if_f c64 h
          refine E_aload (pc' := 530) dL_act_528 rfl rfl ?_
          refine E_getR (pc' := 533) dL_act_530 rfl FL_175_7 hD g63 rfl (j := 6) rfl ?_
          refine X_iload (pc' := 535) dL_act_533 rfl rfl ?_
          obtain ⟨r65, q65, h⟩ := bs h
          refine E_callS [.int (iN (v4))] (pc' := 538) dL_act_535 rfl (xSn SL_179) (by decide) rfl (c1_i c1_n) (cs rfl) (c1_r c1_n) (cs rfl) rfl hD (CJ6_valueOf_2dffe hD rv4 q65) (fun a65 b65 f65 => ?_)
          refine X_iload (pc' := 540) dL_act_538 rfl rfl ?_
          obtain ⟨r66, q66, h⟩ := bs h
          refine E_callS [.int (iN (r55))] (pc' := 543) dL_act_540 rfl (xSn SL_179) (by decide) rfl (c1_i c1_n) (cs rfl) (c1_r (c1_r c1_n)) (cs rfl) rfl hD (CJ6_valueOf_2dffe hD f55 q66) (fun a66 b66 f66 => ?_)
          obtain ⟨⟨r67, D67⟩, q67, h⟩ := bs h
          obtain ⟨g68, h⟩ := gs h
          refine E_callV [rV (r65), rV (r66)] (pc' := 546) dL_act_543 rfl (xVc VL_185) (by decide) ⟨dO_pos g68, dO_is hD g68 rfl⟩ rfl (c1_r (c1_r c1_n)) (cs rfl) c1_n (cs rfl) rfl hD (CX18_put hD (gd_slot (k := 6) hD g63 rfl (by decide)) f65 f66 q67) (fun a67 b67 f67 => ?_)
          refine X_pop (pc' := 547) dL_act_546 rfl (rV_cat _) ?_
          refine E_aload_n (pc' := 548) dL_act_547 rfl rfl ?_
          refine E_aload (pc' := 550) dL_act_548 rfl rfl ?_
          obtain ⟨⟨r69, D69⟩, q69, h⟩ := bs h
          refine E_callV [rV (r61)] (pc' := 553) dL_act_550 rfl (xVc VL_152) (by decide) ⟨dO_pos (dO_le b67 g60), dO_is a67 (dO_le b67 g60) rfl⟩ rfl (c1_r c1_n) (cs rfl) c1_n (cs rfl) rfl a67 (CX6_grade_ a67 (gdV_le b67 rv0) (gdV_le b67 f61) q69) (fun a69 b69 f69 => ?_)
          cases h
          exact X_iret dL_act_553 rfl (k a69 (DLe_trans b67 b69) f69)
        have h := if_t c64 h
        refine X_ldcI (pc' := 527) dL_act_525 rfl tq1760 (n := (-1000000003)) rfl ?_
        cases h
        exact X_iret dL_act_527 rfl (k hD (DLe_refl _) (inR_c (n := (-1000000003)) rfl))
      have h := if_t c59 h
      refine X_ldcI (pc' := 497) dL_act_495 rfl tq1719 (n := (-1000000002)) rfl ?_
      cases h
      exact X_iret dL_act_497 rfl (k hD (DLe_refl _) (inR_c (n := (-1000000002)) rfl))
    have h := if_t c57 h
    refine X_ldcI (pc' := 483) dL_act_481 rfl tq1815 (n := (-1000000001)) rfl ?_
    cases h
    exact X_iret dL_act_483 rfl (k hD (DLe_refl _) (inR_c (n := (-1000000001)) rfl))
  have h := if_f c53 h
  by_cases c70 : 11 ≤ (v1) ∧ (v1) ≤ 13
  · refine X_tableIn dL_act_109 (off := 445) (tgt := 554) rv1 (by omega) (by omega) (by rcases (show (v1) = 11 ∨ (v1) = 12 ∨ (v1) = 13 by omega) with q9 | q9 | q9 <;> rw [q9] <;> rfl) rfl ?_
    have h := if_t c70 h
    refine X_iload (pc' := 556) dL_act_554 rfl rfl ?_
    refine X_if_eq dL_act_556 (tgt := 571) rfl (pc' := 559) rfl rv9 (fun c71 => ?_) (fun c71 => ?_)
    · have h := if_t c71 h
      refine X_ldcI (pc' := 573) dL_act_571 rfl tq1815 (n := (-1000000001)) rfl ?_
      cases h
      exact X_iret dL_act_573 rfl (k hD (DLe_refl _) (inR_c (n := (-1000000001)) rfl))
    have h := if_f c71 h
    refine X_iload (pc' := 561) dL_act_559 rfl rfl ?_
    refine E_aload_n (pc' := 562) dL_act_561 rfl rfl ?_
    obtain ⟨g72, h⟩ := gs h
    refine E_getR (pc' := 565) dL_act_562 rfl FL_112_6 hD g72 rfl (j := 6) rfl ?_
    obtain ⟨r73, q73, h⟩ := bs h
    obtain ⟨g74, h⟩ := gs h
    refine E_callV [] (pc' := 568) dL_act_565 rfl (xVc VL_101) (by decide) ⟨dO_pos g74, dO_is hD g74 rfl⟩ rfl c1_n (cs rfl) (c1_i c1_n) (cs rfl) rfl hD (CJx4a65c_size_8abf5 hD (gd_slot (k := 6) hD g72 rfl (by decide)) q73) (fun a73 b73 f73 => ?_)
    refine X_icmp_ne dL_act_568 (tgt := 574) rfl (pc' := 571) rfl ⟨rv6.1, rv6.2, f73.1, f73.2⟩ (fun c75 => ?_) (fun c75 => ?_)
    · have h := if_f c75 h
      refine E_aload_n (pc' := 575) dL_act_574 rfl rfl ?_
      refine E_getR (pc' := 578) dL_act_575 rfl FL_95_6 hD g72 rfl (j := 7) rfl ?_
      refine X_iload (pc' := 580) dL_act_578 rfl rfl ?_
      obtain ⟨r76, q76, h⟩ := bs h
      obtain ⟨g77, h⟩ := gs h
      refine E_callV [.int (iN (v4))] (pc' := 583) dL_act_580 rfl (xVc VL_148) (by decide) ⟨dO_pos g77, dO_is hD g77 rfl⟩ rfl (c1_i c1_n) (cs rfl) c1_n (cs rfl) rfl hD (CJx4a65c_get_915e3 hD (gd_slot (k := 7) hD g72 rfl (by decide)) rv4 q76) (fun a76 b76 f76 => ?_)
      obtain ⟨g78, h⟩ := gs h
      refine E_cast (pc' := 586) dL_act_583 rfl tq1882 (dO_pos g78) (dO_isI hD g78) ?_
      refine E_astore (pc' := 588) dL_act_586 rfl (cl rfl) (Or.inr rfl) (L' := [some (rV (v0)), some (.int (iN (v1))), some (.int (iN (v2))), some (.int (iN (v3))), some (.int (iN (v4))), some (.int (iN (v5))), some (.int (iN (v6))), some (.int (iN (v7))), some (.int (iN (v8))), some (.int (iN (v9))), some (.int (iN (s0))), some (rV (r76)), none, none]) rfl ?_
      refine E_aload_n (pc' := 589) dL_act_588 rfl rfl ?_
      refine E_getR (pc' := 592) dL_act_589 rfl FL_112_6 hD g72 rfl (j := 6) rfl ?_
      refine X_iload (pc' := 594) dL_act_592 rfl rfl ?_
      obtain ⟨r79, q79, h⟩ := bs h
      refine E_callV [.int (iN (v6))] (pc' := 597) dL_act_594 rfl (xVc VL_148) (by decide) ⟨dO_pos g74, dO_is hD g74 rfl⟩ rfl (c1_i c1_n) (cs rfl) c1_n (cs rfl) rfl hD (CJx4a65c_get_915e3 hD (gd_slot (k := 6) hD g72 rfl (by decide)) rv6 q79) (fun a79 b79 f79 => ?_)
      obtain ⟨g80, h⟩ := gs h
      refine E_cast (pc' := 600) dL_act_597 rfl tq1882 (dO_pos g80) (dO_isI hD g80) ?_
      refine E_astore (pc' := 602) dL_act_600 rfl (cl rfl) (Or.inr (xC1_R _)) (L' := [some (rV (v0)), some (.int (iN (v1))), some (.int (iN (v2))), some (.int (iN (v3))), some (.int (iN (v4))), some (.int (iN (v5))), some (.int (iN (v6))), some (.int (iN (v7))), some (.int (iN (v8))), some (.int (iN (v9))), some (.int (iN (s0))), some (rV (r76)), some (rV (r79)), none]) rfl ?_
      refine E_aload (pc' := 604) dL_act_602 rfl rfl ?_
      refine X_iconst (pc' := 605) dL_act_604 rfl ?_
      obtain ⟨g81, h⟩ := gs h
      refine E_iald (pc' := 606) dL_act_605 rfl hD g78 g81 ?_
      refine X_iconst (pc' := 607) dL_act_606 rfl ?_
      refine X_icmp_ne dL_act_607 (tgt := 643) rfl (pc' := 610) rfl ⟨(in_at hD g78 (Or.inl rfl) g81.1).1, (in_at hD g78 (Or.inl rfl) g81.1).2, (inR_c (n := (-1)) rfl).1, (inR_c (n := (-1)) rfl).2⟩ (fun c82 => ?_) (fun c82 => ?_)
      · have h := if_f c82 h
        refine X_ldcI (pc' := 645) dL_act_643 rfl tq1760 (n := (-1000000003)) rfl ?_
        cases h
        exact X_iret dL_act_645 rfl (k hD (DLe_refl _) (inR_c (n := (-1000000003)) rfl))
      have h := if_t c82 h
      refine E_aload (pc' := 612) dL_act_610 rfl rfl ?_
      refine X_iconst (pc' := 613) dL_act_612 rfl ?_
      obtain ⟨g83, h⟩ := gs h
      refine E_iald (pc' := 614) dL_act_613 rfl hD g78 g83 ?_
      refine E_aload (pc' := 616) dL_act_614 rfl rfl ?_
      refine X_iconst (pc' := 617) dL_act_616 rfl ?_
      obtain ⟨g84, h⟩ := gs h
      refine E_iald (pc' := 618) dL_act_617 rfl hD g80 g84 ?_
      refine X_icmp_ne dL_act_618 (tgt := 643) rfl (pc' := 621) rfl ⟨(in_at hD g78 (Or.inl rfl) g83.1).1, (in_at hD g78 (Or.inl rfl) g83.1).2, (in_at hD g80 (Or.inl rfl) g84.1).1, (in_at hD g80 (Or.inl rfl) g84.1).2⟩ (fun c85 => ?_) (fun c85 => ?_)
      · have h := if_f c85 h
        refine X_ldcI (pc' := 645) dL_act_643 rfl tq1760 (n := (-1000000003)) rfl ?_
        cases h
        exact X_iret dL_act_645 rfl (k hD (DLe_refl _) (inR_c (n := (-1000000003)) rfl))
      have h := if_t c85 h
      refine E_aload_n (pc' := 622) dL_act_621 rfl rfl ?_
      refine X_iload (pc' := 624) dL_act_622 rfl rfl ?_
      obtain ⟨⟨r86, D86⟩, q86, h⟩ := bs h
      refine E_callV [.int (iN (v6))] (pc' := 627) dL_act_624 rfl (xVc VL_191) (by decide) ⟨dO_pos g72, dO_is hD g72 rfl⟩ rfl (c1_i c1_n) (cs rfl) c1_n (cs rfl) rfl hD (CX6_isLent hD rv0 rv6 q86) (fun a86 b86 f86 => ?_)
      refine X_if_ne dL_act_627 (tgt := 643) rfl (pc' := 630) rfl (inR_b f86) (fun c87 => ?_) (fun c87 => ?_)
      · have h := if_f c87 h
        refine X_ldcI (pc' := 645) dL_act_643 rfl tq1760 (n := (-1000000003)) rfl ?_
        cases h
        exact X_iret dL_act_645 rfl (k a86 b86 (inR_c (n := (-1000000003)) rfl))
      have h := if_t c87 h
      refine E_aload_n (pc' := 631) dL_act_630 rfl rfl ?_
      refine X_iload (pc' := 633) dL_act_631 rfl rfl ?_
      refine E_aload_n (pc' := 634) dL_act_633 rfl rfl ?_
      refine E_getI (pc' := 637) dL_act_634 rfl FL_137_6 a86 (dO_le b86 g72) rfl (j := 3) rfl ?_
      obtain ⟨r88, q88, h⟩ := bs h
      refine E_callV [.int (iN (v6)), .int (iN ((dW D86 (v0) 3)))] (pc' := 640) dL_act_637 rfl (xVc VL_194) (by decide) ⟨dO_pos (dO_le b86 g72), dO_is a86 (dO_le b86 g72) rfl⟩ rfl (c1_i (c1_i c1_n)) (cs rfl) c1_n (cs rfl) rfl a86 (CX6_inForce a86 (gdV_le b86 rv0) rv6 (in_slot (k := 3) a86 (dO_le b86 g72) rfl (by decide)) q88) (fun a88 b88 f88 => ?_)
      refine X_if_ne dL_act_640 (tgt := 646) rfl (pc' := 643) rfl (inR_b f88) (fun c89 => ?_) (fun c89 => ?_)
      · have h := if_f c89 h
        refine E_aload (pc' := 648) dL_act_646 rfl rfl ?_
        refine X_iconst (pc' := 649) dL_act_648 rfl ?_
        refine X_iload (pc' := 651) dL_act_649 rfl rfl ?_
        obtain ⟨g90, h⟩ := gs h
        refine E_iast (pc' := 652) dL_act_651 rfl a86 (dO_le b86 g78) g90 ?_
        obtain ⟨D91, e91, f91, h⟩ := zl_some (P := fun q => okD q ∧ DLe D86 q) h ⟨okD_dupJ a86 g90.1 (okS_at20 (dO_le b86 g78) rv6), DLe_dup _ _ _ _⟩
        rw [e91]
        refine E_aload (pc' := 654) dL_act_652 rfl rfl ?_
        refine X_iconst (pc' := 655) dL_act_654 rfl ?_
        obtain ⟨g92, h⟩ := gs h
        refine E_iald (pc' := 656) dL_act_655 rfl f91.1 (dO_le f91.2 (dO_le b86 g80)) g92 ?_
        refine E_aload (pc' := 658) dL_act_656 rfl rfl ?_
        refine X_iconst (pc' := 659) dL_act_658 rfl ?_
        obtain ⟨g93, h⟩ := gs h
        refine E_iald (pc' := 660) dL_act_659 rfl f91.1 (dO_le f91.2 (dO_le b86 g80)) g93 ?_
        refine X_iadd (pc' := 661) dL_act_660 rfl ?_
        obtain ⟨g94, h⟩ := gs h
        cases h
        exact X_iret dL_act_661 rfl (k f91.1 (DLe_trans b86 f91.2) g94)
      have h := if_t c89 h
      refine X_ldcI (pc' := 645) dL_act_643 rfl tq1760 (n := (-1000000003)) rfl ?_
      cases h
      exact X_iret dL_act_645 rfl (k a86 b86 (inR_c (n := (-1000000003)) rfl))
    have h := if_t c75 h
    refine X_ldcI (pc' := 573) dL_act_571 rfl tq1815 (n := (-1000000001)) rfl ?_
    cases h
    exact X_iret dL_act_573 rfl (k hD (DLe_refl _) (inR_c (n := (-1000000001)) rfl))
  have h := if_f c70 h
  by_cases c95 : (v1) = 14
  · refine X_tableIn dL_act_109 (off := 553) (tgt := 662) rv1 (by rw [c95]; decide) (by rw [c95]; decide) (by rw [c95]; rfl) rfl ?_
    have h := if_t c95 h
    refine X_iload (pc' := 664) dL_act_662 rfl rfl ?_
    refine X_if_ne dL_act_664 (tgt := 670) rfl (pc' := 667) rfl rv9 (fun c96 => ?_) (fun c96 => ?_)
    · have h := if_f c96 h
      refine E_aload_n (pc' := 671) dL_act_670 rfl rfl ?_
      obtain ⟨g97, h⟩ := gs h
      refine E_getR (pc' := 674) dL_act_671 rfl FL_95_6 hD g97 rfl (j := 7) rfl ?_
      refine X_iload (pc' := 676) dL_act_674 rfl rfl ?_
      obtain ⟨r98, q98, h⟩ := bs h
      obtain ⟨g99, h⟩ := gs h
      refine E_callV [.int (iN (v4))] (pc' := 679) dL_act_676 rfl (xVc VL_148) (by decide) ⟨dO_pos g99, dO_is hD g99 rfl⟩ rfl (c1_i c1_n) (cs rfl) c1_n (cs rfl) rfl hD (CJx4a65c_get_915e3 hD (gd_slot (k := 7) hD g97 rfl (by decide)) rv4 q98) (fun a98 b98 f98 => ?_)
      obtain ⟨g100, h⟩ := gs h
      refine E_cast (pc' := 682) dL_act_679 rfl tq1882 (dO_pos g100) (dO_isI hD g100) ?_
      refine X_iconst (pc' := 683) dL_act_682 rfl ?_
      obtain ⟨g101, h⟩ := gs h
      refine E_iald (pc' := 684) dL_act_683 rfl hD g100 g101 ?_
      refine X_istore (pc' := 686) dL_act_684 rfl (cl rfl) (Or.inr rfl) (L' := [some (rV (v0)), some (.int (iN (v1))), some (.int (iN (v2))), some (.int (iN (v3))), some (.int (iN (v4))), some (.int (iN (v5))), some (.int (iN (v6))), some (.int (iN (v7))), some (.int (iN (v8))), some (.int (iN (v9))), some (.int (iN (s0))), some (.int (iN ((dW D (r98) (3))))), none, none]) rfl ?_
      refine X_iload (pc' := 688) dL_act_686 rfl rfl ?_
      refine X_iconst (pc' := 689) dL_act_688 rfl ?_
      refine X_icmp_ne dL_act_689 (tgt := 695) rfl (pc' := 692) rfl ⟨(in_at hD g100 (Or.inl rfl) g101.1).1, (in_at hD g100 (Or.inl rfl) g101.1).2, (inR_c (n := (-1)) rfl).1, (inR_c (n := (-1)) rfl).2⟩ (fun c102 => ?_) (fun c102 => ?_)
      · have h := if_f c102 h
        refine E_aload_n (pc' := 696) dL_act_695 rfl rfl ?_
        refine E_getR (pc' := 699) dL_act_696 rfl FL_95_6 hD g97 rfl (j := 7) rfl ?_
        refine X_iload (pc' := 701) dL_act_699 rfl rfl ?_
        obtain ⟨r103, q103, h⟩ := bs h
        refine E_callV [.int (iN (v4))] (pc' := 704) dL_act_701 rfl (xVc VL_148) (by decide) ⟨dO_pos g99, dO_is hD g99 rfl⟩ rfl (c1_i c1_n) (cs rfl) c1_n (cs rfl) rfl hD (CJx4a65c_get_915e3 hD (gd_slot (k := 7) hD g97 rfl (by decide)) rv4 q103) (fun a103 b103 f103 => ?_)
        obtain ⟨g104, h⟩ := gs h
        refine E_cast (pc' := 707) dL_act_704 rfl tq1882 (dO_pos g104) (dO_isI hD g104) ?_
        refine X_iconst (pc' := 708) dL_act_707 rfl ?_
        refine X_iconst (pc' := 709) dL_act_708 rfl ?_
        obtain ⟨g105, h⟩ := gs h
        refine E_iast (pc' := 710) dL_act_709 rfl hD g104 g105 ?_
        obtain ⟨D106, e106, f106, h⟩ := zl_some (P := fun q => okD q ∧ DLe D q) h ⟨okD_dupJ hD g105.1 (okS_at20 g104 (inR_c (n := (-1)) rfl)), DLe_dup _ _ _ _⟩
        rw [e106]
        refine X_iload (pc' := 712) dL_act_710 rfl rfl ?_
        cases h
        exact X_iret dL_act_712 rfl (k f106.1 f106.2 (in_at hD g100 (Or.inl rfl) g101.1))
      have h := if_t c102 h
      refine X_ldcI (pc' := 694) dL_act_692 rfl tq1760 (n := (-1000000003)) rfl ?_
      cases h
      exact X_iret dL_act_694 rfl (k hD (DLe_refl _) (inR_c (n := (-1000000003)) rfl))
    have h := if_t c96 h
    refine X_ldcI (pc' := 669) dL_act_667 rfl tq1815 (n := (-1000000001)) rfl ?_
    cases h
    exact X_iret dL_act_669 rfl (k hD (DLe_refl _) (inR_c (n := (-1000000001)) rfl))
  have h := if_f c95 h
  by_cases c107 : (v1) = 15
  · refine X_tableIn dL_act_109 (off := 604) (tgt := 713) rv1 (by rw [c107]; decide) (by rw [c107]; decide) (by rw [c107]; rfl) rfl ?_
    have h := if_t c107 h
    refine X_iload_n (pc' := 714) dL_act_713 rfl rfl ?_
    refine X_iconst (pc' := 715) dL_act_714 rfl ?_
    obtain ⟨g108, h⟩ := gs h
    refine X_irem (pc' := 716) dL_act_715 rfl ⟨g108.1, rv2.2, g108.2, (inR_c (n := 5) rfl).2⟩ ?_
    refine X_if_le dL_act_716 (tgt := 723) rfl (pc' := 719) rfl (inR_mod g108 (inR_c (n := 5) rfl)) (fun c109 => ?_) (fun c109 => ?_)
    · have h := if_f (Int.not_lt.mpr c109) h
      refine X_iconst (pc' := 724) dL_act_723 rfl ?_
      exact X_sub (sub_s (sub_n (sub_n (sub_n (sub_n (sub_n (sub_s (sub_n (sub_n (sub_n (sub_n (sub_n (sub_n (sub_n sub_0)))))))))))))) (BL_act_724 hD rv0 rv6 (inR_c (n := 0) rfl) h (fun a b c => k a (DLe_trans (DLe_refl _) b) c))
    have h := if_t c109 h
    refine X_iconst (pc' := 720) dL_act_719 rfl ?_
    refine X_goto dL_act_720 (tgt := 724) rfl ?_
    exact X_sub (sub_s (sub_n (sub_n (sub_n (sub_n (sub_n (sub_s (sub_n (sub_n (sub_n (sub_n (sub_n (sub_n (sub_n sub_0)))))))))))))) (BL_act_724 hD rv0 rv6 (inR_c (n := 1) rfl) h (fun a b c => k a (DLe_trans (DLe_refl _) b) c))
  have h := if_f c107 h
  by_cases c110 : 16 ≤ (v1) ∧ (v1) ≤ 17
  · refine X_tableIn dL_act_109 (off := 703) (tgt := 812) rv1 (by omega) (by omega) (by rcases (show (v1) = 16 ∨ (v1) = 17 by omega) with q9 | q9 <;> rw [q9] <;> rfl) rfl ?_
    have h := if_t c110 h
    refine X_iload (pc' := 814) dL_act_812 rfl rfl ?_
    refine X_if_eq dL_act_814 (tgt := 829) rfl (pc' := 817) rfl rv9 (fun c111 => ?_) (fun c111 => ?_)
    · have h := if_t c111 h
      refine X_ldcI (pc' := 831) dL_act_829 rfl tq1815 (n := (-1000000001)) rfl ?_
      cases h
      exact X_iret dL_act_831 rfl (k hD (DLe_refl _) (inR_c (n := (-1000000001)) rfl))
    have h := if_f c111 h
    refine X_iload (pc' := 819) dL_act_817 rfl rfl ?_
    refine E_aload_n (pc' := 820) dL_act_819 rfl rfl ?_
    obtain ⟨g112, h⟩ := gs h
    refine E_getR (pc' := 823) dL_act_820 rfl FL_115_6 hD g112 rfl (j := 8) rfl ?_
    obtain ⟨r113, q113, h⟩ := bs h
    obtain ⟨g114, h⟩ := gs h
    refine E_callV [] (pc' := 826) dL_act_823 rfl (xVc VL_101) (by decide) ⟨dO_pos g114, dO_is hD g114 rfl⟩ rfl c1_n (cs rfl) (c1_i c1_n) (cs rfl) rfl hD (CJx4a65c_size_8abf5 hD (gd_slot (k := 8) hD g112 rfl (by decide)) q113) (fun a113 b113 f113 => ?_)
    refine X_icmp_ne dL_act_826 (tgt := 832) rfl (pc' := 829) rfl ⟨rv7.1, rv7.2, f113.1, f113.2⟩ (fun c115 => ?_) (fun c115 => ?_)
    · have h := if_f c115 h
      refine E_aload_n (pc' := 833) dL_act_832 rfl rfl ?_
      refine E_getR (pc' := 836) dL_act_833 rfl FL_95_6 hD g112 rfl (j := 7) rfl ?_
      refine X_iload (pc' := 838) dL_act_836 rfl rfl ?_
      obtain ⟨r116, q116, h⟩ := bs h
      obtain ⟨g117, h⟩ := gs h
      refine E_callV [.int (iN (v4))] (pc' := 841) dL_act_838 rfl (xVc VL_148) (by decide) ⟨dO_pos g117, dO_is hD g117 rfl⟩ rfl (c1_i c1_n) (cs rfl) c1_n (cs rfl) rfl hD (CJx4a65c_get_915e3 hD (gd_slot (k := 7) hD g112 rfl (by decide)) rv4 q116) (fun a116 b116 f116 => ?_)
      obtain ⟨g118, h⟩ := gs h
      refine E_cast (pc' := 844) dL_act_841 rfl tq1882 (dO_pos g118) (dO_isI hD g118) ?_
      refine E_astore (pc' := 846) dL_act_844 rfl (cl rfl) (Or.inr rfl) (L' := [some (rV (v0)), some (.int (iN (v1))), some (.int (iN (v2))), some (.int (iN (v3))), some (.int (iN (v4))), some (.int (iN (v5))), some (.int (iN (v6))), some (.int (iN (v7))), some (.int (iN (v8))), some (.int (iN (v9))), some (.int (iN (s0))), some (rV (r116)), none, none]) rfl ?_
      refine E_aload_n (pc' := 847) dL_act_846 rfl rfl ?_
      refine E_getR (pc' := 850) dL_act_847 rfl FL_115_6 hD g112 rfl (j := 8) rfl ?_
      refine X_iload (pc' := 852) dL_act_850 rfl rfl ?_
      obtain ⟨r119, q119, h⟩ := bs h
      refine E_callV [.int (iN (v7))] (pc' := 855) dL_act_852 rfl (xVc VL_148) (by decide) ⟨dO_pos g114, dO_is hD g114 rfl⟩ rfl (c1_i c1_n) (cs rfl) c1_n (cs rfl) rfl hD (CJx4a65c_get_915e3 hD (gd_slot (k := 8) hD g112 rfl (by decide)) rv7 q119) (fun a119 b119 f119 => ?_)
      obtain ⟨g120, h⟩ := gs h
      refine E_cast (pc' := 858) dL_act_855 rfl tq1882 (dO_pos g120) (dO_isI hD g120) ?_
      refine E_astore (pc' := 860) dL_act_858 rfl (cl rfl) (Or.inr (xC1_R _)) (L' := [some (rV (v0)), some (.int (iN (v1))), some (.int (iN (v2))), some (.int (iN (v3))), some (.int (iN (v4))), some (.int (iN (v5))), some (.int (iN (v6))), some (.int (iN (v7))), some (.int (iN (v8))), some (.int (iN (v9))), some (.int (iN (s0))), some (rV (r116)), some (rV (r119)), none]) rfl ?_
      refine E_aload (pc' := 862) dL_act_860 rfl rfl ?_
      refine X_iconst (pc' := 863) dL_act_862 rfl ?_
      obtain ⟨g121, h⟩ := gs h
      refine E_iald (pc' := 864) dL_act_863 rfl hD g118 g121 ?_
      refine X_iconst (pc' := 865) dL_act_864 rfl ?_
      refine X_icmp_ne dL_act_865 (tgt := 908) rfl (pc' := 868) rfl ⟨(in_at hD g118 (Or.inl rfl) g121.1).1, (in_at hD g118 (Or.inl rfl) g121.1).2, (inR_c (n := (-1)) rfl).1, (inR_c (n := (-1)) rfl).2⟩ (fun c122 => ?_) (fun c122 => ?_)
      · have h := if_f c122 h
        refine X_ldcI (pc' := 910) dL_act_908 rfl tq1760 (n := (-1000000003)) rfl ?_
        cases h
        exact X_iret dL_act_910 rfl (k hD (DLe_refl _) (inR_c (n := (-1000000003)) rfl))
      have h := if_t c122 h
      refine E_aload (pc' := 870) dL_act_868 rfl rfl ?_
      refine X_iconst (pc' := 871) dL_act_870 rfl ?_
      obtain ⟨g123, h⟩ := gs h
      refine E_iald (pc' := 872) dL_act_871 rfl hD g118 g123 ?_
      refine E_aload (pc' := 874) dL_act_872 rfl rfl ?_
      refine X_iconst (pc' := 875) dL_act_874 rfl ?_
      obtain ⟨g124, h⟩ := gs h
      refine E_iald (pc' := 876) dL_act_875 rfl hD g120 g124 ?_
      refine X_iconst (pc' := 877) dL_act_876 rfl ?_
      refine X_isub (pc' := 878) dL_act_877 rfl ?_
      obtain ⟨g126, h⟩ := gs h
      refine X_icmp_ne dL_act_878 (tgt := 908) rfl (pc' := 881) rfl ⟨(in_at hD g118 (Or.inl rfl) g123.1).1, (in_at hD g118 (Or.inl rfl) g123.1).2, g126.1, g126.2⟩ (fun c125 => ?_) (fun c125 => ?_)
      · have h := if_f c125 h
        refine X_ldcI (pc' := 910) dL_act_908 rfl tq1760 (n := (-1000000003)) rfl ?_
        cases h
        exact X_iret dL_act_910 rfl (k hD (DLe_refl _) (inR_c (n := (-1000000003)) rfl))
      have h := if_t c125 h
      refine E_aload (pc' := 883) dL_act_881 rfl rfl ?_
      refine X_iconst (pc' := 884) dL_act_883 rfl ?_
      obtain ⟨g127, h⟩ := gs h
      refine E_iald (pc' := 885) dL_act_884 rfl hD g118 g127 ?_
      refine E_aload (pc' := 887) dL_act_885 rfl rfl ?_
      refine X_iconst (pc' := 888) dL_act_887 rfl ?_
      obtain ⟨g128, h⟩ := gs h
      refine E_iald (pc' := 889) dL_act_888 rfl hD g120 g128 ?_
      refine X_icmp_lt dL_act_889 (tgt := 908) rfl (pc' := 892) rfl ⟨(in_at hD g118 (Or.inl rfl) g127.1).1, (in_at hD g118 (Or.inl rfl) g127.1).2, (in_at hD g120 (Or.inl rfl) g128.1).1, (in_at hD g120 (Or.inl rfl) g128.1).2⟩ (fun c129 => ?_) (fun c129 => ?_)
      · have h := if_t c129 h
        refine X_ldcI (pc' := 910) dL_act_908 rfl tq1760 (n := (-1000000003)) rfl ?_
        cases h
        exact X_iret dL_act_910 rfl (k hD (DLe_refl _) (inR_c (n := (-1000000003)) rfl))
      have h := if_f (Int.not_lt.mpr c129) h
      refine E_aload_n (pc' := 893) dL_act_892 rfl rfl ?_
      refine X_iload (pc' := 895) dL_act_893 rfl rfl ?_
      obtain ⟨r130, q130, h⟩ := bs h
      refine E_callV [.int (iN (v7))] (pc' := 898) dL_act_895 rfl (xVc VL_197) (by decide) ⟨dO_pos g112, dO_is hD g112 rfl⟩ rfl (c1_i c1_n) (cs rfl) c1_n (cs rfl) rfl hD (CX6_inCourse hD rv0 rv7 q130) (fun a130 b130 f130 => ?_)
      obtain ⟨r131, q131, h⟩ := bs h
      refine E_callS [.int (iN (r130))] (pc' := 901) dL_act_898 rfl (xSn SL_200) (by decide) rfl (c1_i c1_n) (cs rfl) c1_n (cs rfl) rfl hD (CJ6_bitCount_0f7a4_D hD f130 q131) (fun a131 b131 f131 => ?_)
      refine E_aload (pc' := 903) dL_act_901 rfl rfl ?_
      refine X_iconst (pc' := 904) dL_act_903 rfl ?_
      obtain ⟨g132, h⟩ := gs h
      refine E_iald (pc' := 905) dL_act_904 rfl hD g120 g132 ?_
      refine X_icmp_lt dL_act_905 (tgt := 911) rfl (pc' := 908) rfl ⟨f131.1, f131.2, (in_at hD g120 (Or.inl rfl) g132.1).1, (in_at hD g120 (Or.inl rfl) g132.1).2⟩ (fun c133 => ?_) (fun c133 => ?_)
      · have h := if_t c133 h
        refine E_aload (pc' := 913) dL_act_911 rfl rfl ?_
        refine X_iconst (pc' := 914) dL_act_913 rfl ?_
        refine X_iload (pc' := 916) dL_act_914 rfl rfl ?_
        refine E_iast (pc' := 917) dL_act_916 rfl hD g118 g121 ?_
        obtain ⟨D134, e134, f134, h⟩ := zl_some (P := fun q => okD q ∧ DLe D q) h ⟨okD_dupJ hD g121.1 (okS_at20 g118 rv7), DLe_dup _ _ _ _⟩
        rw [e134]
        refine E_aload_n (pc' := 918) dL_act_917 rfl rfl ?_
        refine X_iload (pc' := 920) dL_act_918 rfl rfl ?_
        obtain ⟨r135, q135, h⟩ := bs h
        refine E_callV [.int (iN (v7))] (pc' := 923) dL_act_920 rfl (xVc VL_197) (by decide) ⟨dO_pos (dO_le f134.2 g112), dO_is f134.1 (dO_le f134.2 g112) rfl⟩ rfl (c1_i c1_n) (cs rfl) c1_n (cs rfl) rfl f134.1 (CX6_inCourse f134.1 (gdV_le f134.2 rv0) rv7 q135) (fun a135 b135 f135 => ?_)
        obtain ⟨r136, q136, h⟩ := bs h
        refine E_callS [.int (iN (r135))] (pc' := 926) dL_act_923 rfl (xSn SL_200) (by decide) rfl (c1_i c1_n) (cs rfl) c1_n (cs rfl) rfl f134.1 (CJ6_bitCount_0f7a4_D f134.1 f135 q136) (fun a136 b136 f136 => ?_)
        cases h
        exact X_iret dL_act_926 rfl (k f134.1 f134.2 f136)
      have h := if_f (Int.not_lt.mpr c133) h
      refine X_ldcI (pc' := 910) dL_act_908 rfl tq1760 (n := (-1000000003)) rfl ?_
      cases h
      exact X_iret dL_act_910 rfl (k hD (DLe_refl _) (inR_c (n := (-1000000003)) rfl))
    have h := if_t c115 h
    refine X_ldcI (pc' := 831) dL_act_829 rfl tq1815 (n := (-1000000001)) rfl ?_
    cases h
    exact X_iret dL_act_831 rfl (k hD (DLe_refl _) (inR_c (n := (-1000000001)) rfl))
  have h := if_f c110 h
  by_cases c137 : (v1) = 18
  · refine X_tableIn dL_act_109 (off := 818) (tgt := 927) rv1 (by rw [c137]; decide) (by rw [c137]; decide) (by rw [c137]; rfl) rfl ?_
    have h := if_t c137 h
    refine X_iload (pc' := 929) dL_act_927 rfl rfl ?_
    refine X_if_ne dL_act_929 (tgt := 935) rfl (pc' := 932) rfl rv9 (fun c138 => ?_) (fun c138 => ?_)
    · have h := if_f c138 h
      refine E_aload_n (pc' := 936) dL_act_935 rfl rfl ?_
      obtain ⟨g139, h⟩ := gs h
      refine E_getR (pc' := 939) dL_act_936 rfl FL_95_6 hD g139 rfl (j := 7) rfl ?_
      refine X_iload (pc' := 941) dL_act_939 rfl rfl ?_
      obtain ⟨r140, q140, h⟩ := bs h
      obtain ⟨g141, h⟩ := gs h
      refine E_callV [.int (iN (v4))] (pc' := 944) dL_act_941 rfl (xVc VL_148) (by decide) ⟨dO_pos g141, dO_is hD g141 rfl⟩ rfl (c1_i c1_n) (cs rfl) c1_n (cs rfl) rfl hD (CJx4a65c_get_915e3 hD (gd_slot (k := 7) hD g139 rfl (by decide)) rv4 q140) (fun a140 b140 f140 => ?_)
      obtain ⟨g142, h⟩ := gs h
      refine E_cast (pc' := 947) dL_act_944 rfl tq1882 (dO_pos g142) (dO_isI hD g142) ?_
      refine X_iconst (pc' := 948) dL_act_947 rfl ?_
      obtain ⟨g143, h⟩ := gs h
      refine E_iald (pc' := 949) dL_act_948 rfl hD g142 g143 ?_
      refine X_istore (pc' := 951) dL_act_949 rfl (cl rfl) (Or.inr rfl) (L' := [some (rV (v0)), some (.int (iN (v1))), some (.int (iN (v2))), some (.int (iN (v3))), some (.int (iN (v4))), some (.int (iN (v5))), some (.int (iN (v6))), some (.int (iN (v7))), some (.int (iN (v8))), some (.int (iN (v9))), some (.int (iN (s0))), some (.int (iN ((dW D (r140) (4))))), none, none]) rfl ?_
      refine X_iload (pc' := 953) dL_act_951 rfl rfl ?_
      refine X_iconst (pc' := 954) dL_act_953 rfl ?_
      refine X_icmp_ne dL_act_954 (tgt := 960) rfl (pc' := 957) rfl ⟨(in_at hD g142 (Or.inl rfl) g143.1).1, (in_at hD g142 (Or.inl rfl) g143.1).2, (inR_c (n := (-1)) rfl).1, (inR_c (n := (-1)) rfl).2⟩ (fun c144 => ?_) (fun c144 => ?_)
      · have h := if_f c144 h
        refine E_aload_n (pc' := 961) dL_act_960 rfl rfl ?_
        refine E_getR (pc' := 964) dL_act_961 rfl FL_95_6 hD g139 rfl (j := 7) rfl ?_
        refine X_iload (pc' := 966) dL_act_964 rfl rfl ?_
        obtain ⟨r145, q145, h⟩ := bs h
        refine E_callV [.int (iN (v4))] (pc' := 969) dL_act_966 rfl (xVc VL_148) (by decide) ⟨dO_pos g141, dO_is hD g141 rfl⟩ rfl (c1_i c1_n) (cs rfl) c1_n (cs rfl) rfl hD (CJx4a65c_get_915e3 hD (gd_slot (k := 7) hD g139 rfl (by decide)) rv4 q145) (fun a145 b145 f145 => ?_)
        obtain ⟨g146, h⟩ := gs h
        refine E_cast (pc' := 972) dL_act_969 rfl tq1882 (dO_pos g146) (dO_isI hD g146) ?_
        refine X_iconst (pc' := 973) dL_act_972 rfl ?_
        refine X_iconst (pc' := 974) dL_act_973 rfl ?_
        obtain ⟨g147, h⟩ := gs h
        refine E_iast (pc' := 975) dL_act_974 rfl hD g146 g147 ?_
        obtain ⟨D148, e148, f148, h⟩ := zl_some (P := fun q => okD q ∧ DLe D q) h ⟨okD_dupJ hD g147.1 (okS_at20 g146 (inR_c (n := (-1)) rfl)), DLe_dup _ _ _ _⟩
        rw [e148]
        refine X_iload (pc' := 977) dL_act_975 rfl rfl ?_
        cases h
        exact X_iret dL_act_977 rfl (k f148.1 f148.2 (in_at hD g142 (Or.inl rfl) g143.1))
      have h := if_t c144 h
      refine X_ldcI (pc' := 959) dL_act_957 rfl tq1760 (n := (-1000000003)) rfl ?_
      cases h
      exact X_iret dL_act_959 rfl (k hD (DLe_refl _) (inR_c (n := (-1000000003)) rfl))
    have h := if_t c138 h
    refine X_ldcI (pc' := 934) dL_act_932 rfl tq1815 (n := (-1000000001)) rfl ?_
    cases h
    exact X_iret dL_act_934 rfl (k hD (DLe_refl _) (inR_c (n := (-1000000001)) rfl))
  have h := if_f c137 h
  by_cases c149 : (v1) = 19
  · refine X_tableIn dL_act_109 (off := 869) (tgt := 978) rv1 (by rw [c149]; decide) (by rw [c149]; decide) (by rw [c149]; rfl) rfl ?_
    have h := if_t c149 h
    refine X_iload (pc' := 980) dL_act_978 rfl rfl ?_
    refine E_aload_n (pc' := 981) dL_act_980 rfl rfl ?_
    obtain ⟨g150, h⟩ := gs h
    refine E_getR (pc' := 984) dL_act_981 rfl FL_115_6 hD g150 rfl (j := 8) rfl ?_
    obtain ⟨r151, q151, h⟩ := bs h
    obtain ⟨g152, h⟩ := gs h
    refine E_callV [] (pc' := 987) dL_act_984 rfl (xVc VL_101) (by decide) ⟨dO_pos g152, dO_is hD g152 rfl⟩ rfl c1_n (cs rfl) (c1_i c1_n) (cs rfl) rfl hD (CJx4a65c_size_8abf5 hD (gd_slot (k := 8) hD g150 rfl (by decide)) q151) (fun a151 b151 f151 => ?_)
    refine X_icmp_ne dL_act_987 (tgt := 993) rfl (pc' := 990) rfl ⟨rv7.1, rv7.2, f151.1, f151.2⟩ (fun c153 => ?_) (fun c153 => ?_)
    · have h := if_f c153 h
      refine E_aload_n (pc' := 994) dL_act_993 rfl rfl ?_
      refine X_iload (pc' := 996) dL_act_994 rfl rfl ?_
      obtain ⟨r154, q154, h⟩ := bs h
      refine E_callV [.int (iN (v7))] (pc' := 999) dL_act_996 rfl (xVc VL_197) (by decide) ⟨dO_pos g150, dO_is hD g150 rfl⟩ rfl (c1_i c1_n) (cs rfl) c1_n (cs rfl) rfl hD (CX6_inCourse hD rv0 rv7 q154) (fun a154 b154 f154 => ?_)
      refine X_istore (pc' := 1001) dL_act_999 rfl (cl rfl) (Or.inr rfl) (L' := [some (rV (v0)), some (.int (iN (v1))), some (.int (iN (v2))), some (.int (iN (v3))), some (.int (iN (v4))), some (.int (iN (v5))), some (.int (iN (v6))), some (.int (iN (v7))), some (.int (iN (v8))), some (.int (iN (v9))), some (.int (iN (s0))), some (.int (iN (r154))), none, none]) rfl ?_
      refine X_iconst (pc' := 1002) dL_act_1001 rfl ?_
      refine X_istore (pc' := 1004) dL_act_1002 rfl (cl rfl) (Or.inr rfl) (L' := [some (rV (v0)), some (.int (iN (v1))), some (.int (iN (v2))), some (.int (iN (v3))), some (.int (iN (v4))), some (.int (iN (v5))), some (.int (iN (v6))), some (.int (iN (v7))), some (.int (iN (v8))), some (.int (iN (v9))), some (.int (iN (s0))), some (.int (iN (r154))), some (.int (iN (0))), none]) rfl ?_
      obtain ⟨D155, q155, h⟩ := bs h
      refine X_sub (sub_s (sub_n (sub_s (sub_n (sub_n (sub_n (sub_n (sub_s (sub_n (sub_n (sub_n (sub_s (sub_s (sub_n sub_0)))))))))))))) (LL_act_1004 FU _ _ hD rv0 rv2 rv7 f154 (inR_c (n := 0) rfl) q155 (fun D155₁ hh hD155 le155 => ?_))
      cases hh
      refine X_iload (pc' := 1084) dL_act_1082 rfl rfl ?_
      refine X_iload_n (pc' := 1085) dL_act_1084 rfl rfl ?_
      refine X_iand (pc' := 1086) dL_act_1085 rfl ?_
      obtain ⟨r156, q156, h⟩ := bs h
      refine E_callS [.int (iN ((zand r154 v2)))] (pc' := 1089) dL_act_1086 rfl (xSn SL_200) (by decide) rfl (c1_i c1_n) (cs rfl) c1_n (cs rfl) rfl hD155 (CJ6_bitCount_0f7a4_D hD155 (inR_zand _ _) q156) (fun a156 b156 f156 => ?_)
      cases h
      exact X_iret dL_act_1089 rfl (k hD155 le155 f156)
    have h := if_t c153 h
    refine X_ldcI (pc' := 992) dL_act_990 rfl tq1815 (n := (-1000000001)) rfl ?_
    cases h
    exact X_iret dL_act_992 rfl (k hD (DLe_refl _) (inR_c (n := (-1000000001)) rfl))
  have h := if_f c149 h
  by_cases c157 : (v1) = 20
  · refine X_tableIn dL_act_109 (off := 981) (tgt := 1090) rv1 (by rw [c157]; decide) (by rw [c157]; decide) (by rw [c157]; rfl) rfl ?_
    have h := if_t c157 h
    refine X_iload_n (pc' := 1091) dL_act_1090 rfl rfl ?_
    refine X_iconst (pc' := 1092) dL_act_1091 rfl ?_
    refine X_bipush (pc' := 1094) dL_act_1092 rfl (by decide) ?_
    obtain ⟨r158, q158, h⟩ := bs h
    refine E_callS [.int (iN (v3)), .int (iN (1)), .int (iN (14))] (pc' := 1097) dL_act_1094 rfl (xSn SL_121) (by decide) rfl (c1_i (c1_i (c1_i c1_n))) (cs rfl) c1_n (cs rfl) rfl hD (CL_some hD rv3 (inR_c (n := 1) rfl) (inR_c (n := 14) rfl) q158) (fun a158 b158 f158 => ?_)
    refine X_istore (pc' := 1099) dL_act_1097 rfl (cl rfl) (Or.inr rfl) (L' := [some (rV (v0)), some (.int (iN (v1))), some (.int (iN (v2))), some (.int (iN (v3))), some (.int (iN (v4))), some (.int (iN (v5))), some (.int (iN (v6))), some (.int (iN (v7))), some (.int (iN (v8))), some (.int (iN (v9))), some (.int (iN (s0))), some (.int (iN (r158))), none, none]) rfl ?_
    refine X_iload (pc' := 1101) dL_act_1099 rfl rfl ?_
    refine E_aload_n (pc' := 1102) dL_act_1101 rfl rfl ?_
    obtain ⟨g159, h⟩ := gs h
    refine E_getR (pc' := 1105) dL_act_1102 rfl FL_118_6 hD g159 rfl (j := 4) rfl ?_
    obtain ⟨r160, q160, h⟩ := bs h
    obtain ⟨g161, h⟩ := gs h
    refine E_callV [] (pc' := 1108) dL_act_1105 rfl (xVc VL_101) (by decide) ⟨dO_pos g161, dO_is hD g161 rfl⟩ rfl c1_n (cs rfl) (c1_i c1_n) (cs rfl) rfl hD (CJx4a65c_size_8abf5 hD (gd_slot (k := 4) hD g159 rfl (by decide)) q160) (fun a160 b160 f160 => ?_)
    refine X_icmp_ne dL_act_1108 (tgt := 1114) rfl (pc' := 1111) rfl ⟨rv8.1, rv8.2, f160.1, f160.2⟩ (fun c162 => ?_) (fun c162 => ?_)
    · have h := if_f c162 h
      refine X_iload (pc' := 1116) dL_act_1114 rfl rfl ?_
      refine X_iconst (pc' := 1117) dL_act_1116 rfl ?_
      refine X_bipush (pc' := 1119) dL_act_1117 rfl (by decide) ?_
      obtain ⟨r163, q163, h⟩ := bs h
      refine E_callS [.int (iN (r158)), .int (iN (1)), .int (iN (14))] (pc' := 1122) dL_act_1119 rfl (xSn SL_124) (by decide) rfl (c1_i (c1_i (c1_i c1_n))) (cs rfl) c1_n (cs rfl) rfl hD (CL_is hD f158 (inR_c (n := 1) rfl) (inR_c (n := 14) rfl) q163) (fun a163 b163 f163 => ?_)
      refine X_if_ne dL_act_1122 (tgt := 1128) rfl (pc' := 1125) rfl (inR_b f163) (fun c164 => ?_) (fun c164 => ?_)
      · have h := if_f c164 h
        refine E_aload_n (pc' := 1129) dL_act_1128 rfl rfl ?_
        refine E_getR (pc' := 1132) dL_act_1129 rfl FL_118_6 hD g159 rfl (j := 4) rfl ?_
        refine X_iload (pc' := 1134) dL_act_1132 rfl rfl ?_
        obtain ⟨r165, q165, h⟩ := bs h
        refine E_callV [.int (iN (v8))] (pc' := 1137) dL_act_1134 rfl (xVc VL_148) (by decide) ⟨dO_pos g161, dO_is hD g161 rfl⟩ rfl (c1_i c1_n) (cs rfl) c1_n (cs rfl) rfl hD (CJx4a65c_get_915e3 hD (gd_slot (k := 4) hD g159 rfl (by decide)) rv8 q165) (fun a165 b165 f165 => ?_)
        obtain ⟨g166, h⟩ := gs h
        refine E_cast (pc' := 1140) dL_act_1137 rfl tq1882 (dO_pos g166) (dO_isI hD g166) ?_
        refine X_iconst (pc' := 1141) dL_act_1140 rfl ?_
        refine X_dup2 (pc' := 1142) dL_act_1141 rfl rfl (rV_cat _) ?_
        obtain ⟨g167, h⟩ := gs h
        refine E_iald (pc' := 1143) dL_act_1142 rfl hD g166 g167 ?_
        refine X_iload (pc' := 1145) dL_act_1143 rfl rfl ?_
        refine X_iadd (pc' := 1146) dL_act_1145 rfl ?_
        obtain ⟨g168, h⟩ := gs h
        refine E_iast (pc' := 1147) dL_act_1146 rfl hD g166 g167 ?_
        obtain ⟨D169, e169, f169, h⟩ := zl_some (P := fun q => okD q ∧ DLe D q) h ⟨okD_dupJ hD g167.1 (okS_at20 g166 g168), DLe_dup _ _ _ _⟩
        rw [e169]
        refine E_aload_n (pc' := 1148) dL_act_1147 rfl rfl ?_
        refine E_getR (pc' := 1151) dL_act_1148 rfl FL_118_6 f169.1 (dO_le f169.2 g159) rfl (j := 4) rfl ?_
        refine X_iload (pc' := 1153) dL_act_1151 rfl rfl ?_
        obtain ⟨r170, q170, h⟩ := bs h
        obtain ⟨g171, h⟩ := gs h
        refine E_callV [.int (iN (v8))] (pc' := 1156) dL_act_1153 rfl (xVc VL_148) (by decide) ⟨dO_pos g171, dO_is f169.1 g171 rfl⟩ rfl (c1_i c1_n) (cs rfl) c1_n (cs rfl) rfl f169.1 (CJx4a65c_get_915e3 f169.1 (gd_slot (k := 4) f169.1 (dO_le f169.2 g159) rfl (by decide)) rv8 q170) (fun a170 b170 f170 => ?_)
        obtain ⟨g172, h⟩ := gs h
        refine E_cast (pc' := 1159) dL_act_1156 rfl tq1882 (dO_pos g172) (dO_isI f169.1 g172) ?_
        refine X_iconst (pc' := 1160) dL_act_1159 rfl ?_
        obtain ⟨g173, h⟩ := gs h
        refine E_iald (pc' := 1161) dL_act_1160 rfl f169.1 g172 g173 ?_
        cases h
        exact X_iret dL_act_1161 rfl (k f169.1 f169.2 (in_at f169.1 g172 (Or.inl rfl) g173.1))
      have h := if_t c164 h
      refine X_ldcI (pc' := 1127) dL_act_1125 rfl tq1719 (n := (-1000000002)) rfl ?_
      cases h
      exact X_iret dL_act_1127 rfl (k hD (DLe_refl _) (inR_c (n := (-1000000002)) rfl))
    have h := if_t c162 h
    refine X_ldcI (pc' := 1113) dL_act_1111 rfl tq1815 (n := (-1000000001)) rfl ?_
    cases h
    exact X_iret dL_act_1113 rfl (k hD (DLe_refl _) (inR_c (n := (-1000000001)) rfl))
  have h := if_f c157 h
  refine X_tableOut dL_act_109 (tgt := 1162) rv1 (by omega) rfl ?_
  refine X_iload_n (pc' := 1163) dL_act_1162 rfl rfl ?_
  refine X_iconst (pc' := 1164) dL_act_1163 rfl ?_
  refine X_iload_n (pc' := 1165) dL_act_1164 rfl rfl ?_
  refine X_iconst (pc' := 1166) dL_act_1165 rfl ?_
  obtain ⟨g174, h⟩ := gs h
  refine X_irem (pc' := 1167) dL_act_1166 rfl ⟨g174.1, rv2.2, g174.2, (inR_c (n := 4) rfl).2⟩ ?_
  refine X_if_ne dL_act_1167 (tgt := 1175) rfl (pc' := 1170) rfl (inR_mod g174 (inR_c (n := 4) rfl)) (fun c175 => ?_) (fun c175 => ?_)
  · have h := if_f c175 h
    refine X_iconst (pc' := 1176) dL_act_1175 rfl ?_
    exact X_sub (sub_s (sub_n (sub_n (sub_n (sub_n (sub_n (sub_n (sub_n (sub_n (sub_n (sub_n (sub_n (sub_n (sub_n sub_0)))))))))))))) (BL_act_1176 hD rv0 rv3 (inR_c (n := 1) rfl) (inR_c (n := 5) rfl) h (fun a b c => k a (DLe_trans (DLe_refl _) b) c))
  have h := if_t c175 h
  refine X_bipush (pc' := 1172) dL_act_1170 rfl (by decide) ?_
  refine X_goto dL_act_1172 (tgt := 1176) rfl ?_
  exact X_sub (sub_s (sub_n (sub_n (sub_n (sub_n (sub_n (sub_n (sub_n (sub_n (sub_n (sub_n (sub_n (sub_n (sub_n sub_0)))))))))))))) (BL_act_1176 hD rv0 rv3 (inR_c (n := 1) rfl) (inR_c (n := 60) rfl) h (fun a b c => k a (DLe_trans (DLe_refl _) b) c))
def fL_act_b87 (v0 : Int) (v1 : Int) (v2 : Int) (v3 : Int) (v4 : Int) (v5 : Int) (v6 : Int) (v7 : Int) (v8 : Int) (s0 : Int) (D : DD) : Option (Int × DD) := (if dO D (v0) 7 then (Option.bind (fJx4a65c_size_8abf5 ((dW D (v0) 5)) D) fun r2 => (if dO D ((dW D (v0) 5)) 9 then (if (v5) < (r2) then fL_act_b106 (v0) (v1) (v2) (v3) (v4) (v5) (v6) (v7) (v8) (s0) (1) D else fL_act_b106 (v0) (v1) (v2) (v3) (v4) (v5) (v6) (v7) (v8) (s0) (0) D) else none)) else none)
set_option maxRecDepth 100000 in
theorem BL_act_87 {ln : Nat} {D : DD} {z : ZZ} {v0 : Int} {v1 : Int} {v2 : Int} {v3 : Int} {v4 : Int} {v5 : Int} {v6 : Int} {v7 : Int} {v8 : Int} {s0 : Int} {Φ : xRes → xS → Prop} (hD : okD D) (rv0 : gdV D v0) (rv1 : inR v1) (rv2 : inR v2) (rv3 : inR v3) (rv4 : inR v4) (rv5 : inR v5) (rv6 : inR v6) (rv7 : inR v7) (rv8 : inR v8) (rs0 : inR s0) {p : Int × DD} (h : fL_act_b87 v0 v1 v2 v3 v4 v5 v6 v7 v8 s0 D = some p) (k : K_wi Φ ln D z p) : XD mL_act 87 [some (rV (v0)), some (.int (iN (v1))), some (.int (iN (v2))), some (.int (iN (v3))), some (.int (iN (v4))), some (.int (iN (v5))), some (.int (iN (v6))), some (.int (iN (v7))), some (.int (iN (v8))), none, none, none, none, none] [.int (iN (s0))] ln D z Φ := by
  unfold fL_act_b87 at h
  refine X_istore (pc' := 89) dL_act_87 rfl (cl rfl) (Or.inr rfl) (L' := [some (rV (v0)), some (.int (iN (v1))), some (.int (iN (v2))), some (.int (iN (v3))), some (.int (iN (v4))), some (.int (iN (v5))), some (.int (iN (v6))), some (.int (iN (v7))), some (.int (iN (v8))), some (.int (iN (s0))), none, none, none, none]) rfl ?_
  refine X_iload (pc' := 91) dL_act_89 rfl rfl ?_
  refine E_aload_n (pc' := 92) dL_act_91 rfl rfl ?_
  obtain ⟨g1, h⟩ := gs h
  refine E_getR (pc' := 95) dL_act_92 rfl FL_109_6 hD g1 rfl (j := 5) rfl ?_
  obtain ⟨r2, q2, h⟩ := bs h
  obtain ⟨g3, h⟩ := gs h
  refine E_callV [] (pc' := 98) dL_act_95 rfl (xVc VL_101) (by decide) ⟨dO_pos g3, dO_is hD g3 rfl⟩ rfl c1_n (cs rfl) (c1_i c1_n) (cs rfl) rfl hD (CJx4a65c_size_8abf5 hD (gd_slot (k := 5) hD g1 rfl (by decide)) q2) (fun a2 b2 f2 => ?_)
  refine X_icmp_ge dL_act_98 (tgt := 105) rfl (pc' := 101) rfl ⟨rv5.1, rv5.2, f2.1, f2.2⟩ (fun c4 => ?_) (fun c4 => ?_)
  · have h := if_f (Int.not_lt.mpr c4) h
    refine X_iconst (pc' := 106) dL_act_105 rfl ?_
    exact X_sub (sub_s (sub_s (sub_s (sub_s (sub_s (sub_s (sub_s (sub_s (sub_s (sub_s (sub_n (sub_n (sub_n (sub_n sub_0)))))))))))))) (BL_act_106 hD rv0 rv1 rv2 rv3 rv4 rv5 rv6 rv7 rv8 rs0 (inR_c (n := 0) rfl) h (fun a b c => k a (DLe_trans (DLe_refl _) b) c))
  have h := if_t c4 h
  refine X_iconst (pc' := 102) dL_act_101 rfl ?_
  refine X_goto dL_act_102 (tgt := 106) rfl ?_
  exact X_sub (sub_s (sub_s (sub_s (sub_s (sub_s (sub_s (sub_s (sub_s (sub_s (sub_s (sub_n (sub_n (sub_n (sub_n sub_0)))))))))))))) (BL_act_106 hD rv0 rv1 rv2 rv3 rv4 rv5 rv6 rv7 rv8 rs0 (inR_c (n := 1) rfl) h (fun a b c => k a (DLe_trans (DLe_refl _) b) c))
def fL_act (v0 : Int) (v1 : Int) (v2 : Int) (D : DD) : Option (Int × DD) := (if (0 : Int) ≤ (v2) ∧ (0 : Int) < (64) then (if dO D (v0) 7 then (Option.bind (fJx4a65c_size_8abf5 ((dW D (v0) 7)) D) fun r3 => (if dO D ((dW D (v0) 7)) 9 then (Option.bind (fL_one (v2) (r3) D) fun r5 => (Option.bind (fJx4a65c_size_8abf5 ((dW D (v0) 5)) D) fun r6 => (if dO D ((dW D (v0) 5)) 9 then (Option.bind (fL_one ((v2 / 64)) (r6) D) fun r8 => (Option.bind (fJx4a65c_size_8abf5 ((dW D (v0) 6)) D) fun r9 => (if dO D ((dW D (v0) 6)) 9 then (Option.bind (fL_one ((v2 / 64)) (r9) D) fun r11 => (Option.bind (fJx4a65c_size_8abf5 ((dW D (v0) 8)) D) fun r12 => (if dO D ((dW D (v0) 8)) 9 then (Option.bind (fL_one ((v2 / 64)) (r12) D) fun r14 => (Option.bind (fJx4a65c_size_8abf5 ((dW D (v0) 4)) D) fun r15 => (if dO D ((dW D (v0) 4)) 9 then (Option.bind (fL_one (v2) (r15) D) fun r17 => (Option.bind (fJx4a65c_size_8abf5 ((dW D (v0) 7)) D) fun r18 => (if (r5) < (r18) then fL_act_b87 (v0) (v1) (v2) ((v2 / 64)) (r5) (r8) (r11) (r14) (r17) (1) D else fL_act_b87 (v0) (v1) (v2) ((v2 / 64)) (r5) (r8) (r11) (r14) (r17) (0) D))) else none))) else none))) else none))) else none))) else none)) else none) else none)
set_option maxRecDepth 100000 in
theorem CL_act {ln : Nat} {D : DD} {z : ZZ} {v0 : Int} {v1 : Int} {v2 : Int} (hD : okD D) (rv0 : gdV D v0) (rv1 : inR v1) (rv2 : inR v2) {p : Int × DD} (h : fL_act v0 v1 v2 D = some p) : XD mL_act 0 (xEnt [rV (v0), .int (iN (v1)), .int (iN (v2))] (xL mL_act)) [] ln D z (Qd (FdD D p.2 (inR p.1)) (.inl (some (.int (iN p.1)))) (sD ln p.2 z)) := by
  have k : K_wi (Qd (FdD D p.2 (inR p.1)) (.inl (some (.int (iN p.1)))) (sD ln p.2 z)) ln D z p := fun a b c => ⟨⟨a, b, c⟩, rfl, rfl⟩
  unfold fL_act at h
  refine E_ent (c1_r (c1_i (c1_i c1_n))) (M := [some (rV (v0)), some (.int (iN (v1))), some (.int (iN (v2))), none, none, none, none, none, none, none, none, none, none, none]) rfl ?_
  refine X_iload_n (pc' := 1) dL_act_0 rfl rfl ?_
  refine X_bipush (pc' := 3) dL_act_1 rfl (by decide) ?_
  obtain ⟨g1, h⟩ := gs h
  refine X_idiv (pc' := 4) dL_act_3 rfl ⟨g1.1, rv2.2, g1.2, (inR_c (n := 64) rfl).2⟩ ?_
  refine X_istore_n (pc' := 5) dL_act_4 rfl (cl rfl) (Or.inr rfl) (L' := [some (rV (v0)), some (.int (iN (v1))), some (.int (iN (v2))), some (.int (iN ((v2 / 64)))), none, none, none, none, none, none, none, none, none, none]) rfl ?_
  refine X_iload_n (pc' := 6) dL_act_5 rfl rfl ?_
  refine E_aload_n (pc' := 7) dL_act_6 rfl rfl ?_
  obtain ⟨g2, h⟩ := gs h
  refine E_getR (pc' := 10) dL_act_7 rfl FL_95_6 hD g2 rfl (j := 7) rfl ?_
  obtain ⟨r3, q3, h⟩ := bs h
  obtain ⟨g4, h⟩ := gs h
  refine E_callV [] (pc' := 13) dL_act_10 rfl (xVc VL_101) (by decide) ⟨dO_pos g4, dO_is hD g4 rfl⟩ rfl c1_n (cs rfl) (c1_i c1_n) (cs rfl) rfl hD (CJx4a65c_size_8abf5 hD (gd_slot (k := 7) hD g2 rfl (by decide)) q3) (fun a3 b3 f3 => ?_)
  obtain ⟨r5, q5, h⟩ := bs h
  refine E_callS [.int (iN (v2)), .int (iN (r3))] (pc' := 16) dL_act_13 rfl (xSn SL_106) (by decide) rfl (c1_i (c1_i c1_n)) (cs rfl) c1_n (cs rfl) rfl hD (CL_one hD rv2 f3 q5) (fun a5 b5 f5 => ?_)
  refine X_istore (pc' := 18) dL_act_16 rfl (cl rfl) (Or.inr rfl) (L' := [some (rV (v0)), some (.int (iN (v1))), some (.int (iN (v2))), some (.int (iN ((v2 / 64)))), some (.int (iN (r5))), none, none, none, none, none, none, none, none, none]) rfl ?_
  refine X_iload_n (pc' := 19) dL_act_18 rfl rfl ?_
  refine E_aload_n (pc' := 20) dL_act_19 rfl rfl ?_
  refine E_getR (pc' := 23) dL_act_20 rfl FL_109_6 hD g2 rfl (j := 5) rfl ?_
  obtain ⟨r6, q6, h⟩ := bs h
  obtain ⟨g7, h⟩ := gs h
  refine E_callV [] (pc' := 26) dL_act_23 rfl (xVc VL_101) (by decide) ⟨dO_pos g7, dO_is hD g7 rfl⟩ rfl c1_n (cs rfl) (c1_i c1_n) (cs rfl) rfl hD (CJx4a65c_size_8abf5 hD (gd_slot (k := 5) hD g2 rfl (by decide)) q6) (fun a6 b6 f6 => ?_)
  obtain ⟨r8, q8, h⟩ := bs h
  refine E_callS [.int (iN ((v2 / 64))), .int (iN (r6))] (pc' := 29) dL_act_26 rfl (xSn SL_106) (by decide) rfl (c1_i (c1_i c1_n)) (cs rfl) c1_n (cs rfl) rfl hD (CL_one hD (inR_div g1 rv2) f6 q8) (fun a8 b8 f8 => ?_)
  refine X_istore (pc' := 31) dL_act_29 rfl (cl rfl) (Or.inr rfl) (L' := [some (rV (v0)), some (.int (iN (v1))), some (.int (iN (v2))), some (.int (iN ((v2 / 64)))), some (.int (iN (r5))), some (.int (iN (r8))), none, none, none, none, none, none, none, none]) rfl ?_
  refine X_iload_n (pc' := 32) dL_act_31 rfl rfl ?_
  refine E_aload_n (pc' := 33) dL_act_32 rfl rfl ?_
  refine E_getR (pc' := 36) dL_act_33 rfl FL_112_6 hD g2 rfl (j := 6) rfl ?_
  obtain ⟨r9, q9, h⟩ := bs h
  obtain ⟨g10, h⟩ := gs h
  refine E_callV [] (pc' := 39) dL_act_36 rfl (xVc VL_101) (by decide) ⟨dO_pos g10, dO_is hD g10 rfl⟩ rfl c1_n (cs rfl) (c1_i c1_n) (cs rfl) rfl hD (CJx4a65c_size_8abf5 hD (gd_slot (k := 6) hD g2 rfl (by decide)) q9) (fun a9 b9 f9 => ?_)
  obtain ⟨r11, q11, h⟩ := bs h
  refine E_callS [.int (iN ((v2 / 64))), .int (iN (r9))] (pc' := 42) dL_act_39 rfl (xSn SL_106) (by decide) rfl (c1_i (c1_i c1_n)) (cs rfl) c1_n (cs rfl) rfl hD (CL_one hD (inR_div g1 rv2) f9 q11) (fun a11 b11 f11 => ?_)
  refine X_istore (pc' := 44) dL_act_42 rfl (cl rfl) (Or.inr rfl) (L' := [some (rV (v0)), some (.int (iN (v1))), some (.int (iN (v2))), some (.int (iN ((v2 / 64)))), some (.int (iN (r5))), some (.int (iN (r8))), some (.int (iN (r11))), none, none, none, none, none, none, none]) rfl ?_
  refine X_iload_n (pc' := 45) dL_act_44 rfl rfl ?_
  refine E_aload_n (pc' := 46) dL_act_45 rfl rfl ?_
  refine E_getR (pc' := 49) dL_act_46 rfl FL_115_6 hD g2 rfl (j := 8) rfl ?_
  obtain ⟨r12, q12, h⟩ := bs h
  obtain ⟨g13, h⟩ := gs h
  refine E_callV [] (pc' := 52) dL_act_49 rfl (xVc VL_101) (by decide) ⟨dO_pos g13, dO_is hD g13 rfl⟩ rfl c1_n (cs rfl) (c1_i c1_n) (cs rfl) rfl hD (CJx4a65c_size_8abf5 hD (gd_slot (k := 8) hD g2 rfl (by decide)) q12) (fun a12 b12 f12 => ?_)
  obtain ⟨r14, q14, h⟩ := bs h
  refine E_callS [.int (iN ((v2 / 64))), .int (iN (r12))] (pc' := 55) dL_act_52 rfl (xSn SL_106) (by decide) rfl (c1_i (c1_i c1_n)) (cs rfl) c1_n (cs rfl) rfl hD (CL_one hD (inR_div g1 rv2) f12 q14) (fun a14 b14 f14 => ?_)
  refine X_istore (pc' := 57) dL_act_55 rfl (cl rfl) (Or.inr rfl) (L' := [some (rV (v0)), some (.int (iN (v1))), some (.int (iN (v2))), some (.int (iN ((v2 / 64)))), some (.int (iN (r5))), some (.int (iN (r8))), some (.int (iN (r11))), some (.int (iN (r14))), none, none, none, none, none, none]) rfl ?_
  refine X_iload_n (pc' := 58) dL_act_57 rfl rfl ?_
  refine E_aload_n (pc' := 59) dL_act_58 rfl rfl ?_
  refine E_getR (pc' := 62) dL_act_59 rfl FL_118_6 hD g2 rfl (j := 4) rfl ?_
  obtain ⟨r15, q15, h⟩ := bs h
  obtain ⟨g16, h⟩ := gs h
  refine E_callV [] (pc' := 65) dL_act_62 rfl (xVc VL_101) (by decide) ⟨dO_pos g16, dO_is hD g16 rfl⟩ rfl c1_n (cs rfl) (c1_i c1_n) (cs rfl) rfl hD (CJx4a65c_size_8abf5 hD (gd_slot (k := 4) hD g2 rfl (by decide)) q15) (fun a15 b15 f15 => ?_)
  obtain ⟨r17, q17, h⟩ := bs h
  refine E_callS [.int (iN (v2)), .int (iN (r15))] (pc' := 68) dL_act_65 rfl (xSn SL_106) (by decide) rfl (c1_i (c1_i c1_n)) (cs rfl) c1_n (cs rfl) rfl hD (CL_one hD rv2 f15 q17) (fun a17 b17 f17 => ?_)
  refine X_istore (pc' := 70) dL_act_68 rfl (cl rfl) (Or.inr rfl) (L' := [some (rV (v0)), some (.int (iN (v1))), some (.int (iN (v2))), some (.int (iN ((v2 / 64)))), some (.int (iN (r5))), some (.int (iN (r8))), some (.int (iN (r11))), some (.int (iN (r14))), some (.int (iN (r17))), none, none, none, none, none]) rfl ?_
  refine X_iload (pc' := 72) dL_act_70 rfl rfl ?_
  refine E_aload_n (pc' := 73) dL_act_72 rfl rfl ?_
  refine E_getR (pc' := 76) dL_act_73 rfl FL_95_6 hD g2 rfl (j := 7) rfl ?_
  obtain ⟨r18, q18, h⟩ := bs h
  refine E_callV [] (pc' := 79) dL_act_76 rfl (xVc VL_101) (by decide) ⟨dO_pos g4, dO_is hD g4 rfl⟩ rfl c1_n (cs rfl) (c1_i c1_n) (cs rfl) rfl hD (CJx4a65c_size_8abf5 hD (gd_slot (k := 7) hD g2 rfl (by decide)) q18) (fun a18 b18 f18 => ?_)
  refine X_icmp_ge dL_act_79 (tgt := 86) rfl (pc' := 82) rfl ⟨f5.1, f5.2, f18.1, f18.2⟩ (fun c19 => ?_) (fun c19 => ?_)
  · have h := if_f (Int.not_lt.mpr c19) h
    refine X_iconst (pc' := 87) dL_act_86 rfl ?_
    exact X_sub (sub_s (sub_s (sub_s (sub_s (sub_s (sub_s (sub_s (sub_s (sub_s (sub_n (sub_n (sub_n (sub_n (sub_n sub_0)))))))))))))) (BL_act_87 hD rv0 rv1 rv2 (inR_div g1 rv2) f5 f8 f11 f14 f17 (inR_c (n := 0) rfl) h (fun a b c => k a (DLe_trans (DLe_refl _) b) c))
  have h := if_t c19 h
  refine X_iconst (pc' := 83) dL_act_82 rfl ?_
  refine X_goto dL_act_83 (tgt := 87) rfl ?_
  exact X_sub (sub_s (sub_s (sub_s (sub_s (sub_s (sub_s (sub_s (sub_s (sub_s (sub_n (sub_n (sub_n (sub_n (sub_n sub_0)))))))))))))) (BL_act_87 hD rv0 rv1 rv2 (inR_div g1 rv2) f5 f8 f11 f14 f17 (inR_c (n := 1) rfl) h (fun a b c => k a (DLe_trans (DLe_refl _) b) c))
