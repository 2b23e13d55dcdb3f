theorem am_len_ro {h : am_H} {p n : Nat} {f : Nat → Int32} {g : Nat → Prop} (hp : h.2 p = .inl (.float, n, .inl f)) (H : g n) : am_len h p g := by
  unfold am_len
  rw [hp]
  exact H
/-! THE LAW: its loop -/
def cd_La : List (Nat × am_E) := [(0, .new 8, 3, 7, 0, 0, 0, 0), (3, .dup, 1, 0, 0, 0, 0, 0), (4, .invokespecial 26, 3, 114, 1, 8, 0, 0), (7, .astore_n 1, 1, 0, 0, 0, 0, 0), (8, .new 27, 3, 8, 0, 0, 0, 0), (11, .dup, 1, 0, 0, 0, 0, 0), (12, .invokespecial 29, 3, 182, 1, 9, 0, 0), (15, .astore_n 2, 1, 0, 0, 0, 0, 0), (16, .iconst 1, 1, 0, 0, 0, (1), 0), (17, .newarray .long, 2, 0, 0, 0, 0, 0), (19, .astore_n 3, 1, 0, 0, 0, 0, 0), (20, .iconst 0, 1, 0, 0, 0, (0), 0), (21, .istore 4, 2, 0, 0, 0, 0, 0), (23, .iload 4, 2, 0, 0, 0, 0, 0), (25, .aload_n 0, 1, 0, 0, 0, 0, 0), (26, .arraylength, 1, 0, 0, 0, 0, 0), (27, .iconst 5, 1, 0, 0, 0, (5), 0), (28, .isub, 1, 0, 0, 0, 0, 0), (29, .if_icmp .gt 1792, 3, 1821, 0, 0, 0, 0), (32, .aload_n 0, 1, 0, 0, 0, 0, 0), (33, .iload 4, 2, 0, 0, 0, 0, 0), (35, .iaload, 1, 0, 0, 0, 0, 0), (36, .bipush 63, 2, 0, 0, 0, (63), 0), (38, .iand, 1, 0, 0, 0, 0, 0), (39, .tableswitch 1776 0 51 #[221, 246, 271, 284, 297, 365, 433, 489, 550, 587, 612, 649, 698, 735, 772, 797, 822, 859, 872, 885, 910, 947, 960, 997, 1022, 1059, 1084, 1109, 1146, 1159, 1208, 1233, 1258, 1295, 1320, 1345, 1370, 1407, 1420, 1445, 1470, 1507, 1520, 1533, 1546, 1571, 1584, 1609, 1646, 1671, 1696, 1721], 221, 0, 0, 0, 0, 0)]
theorem ok_La : cd_La.all inL = true := by decide +kernel
def cd_Lz : List (Nat × am_E) := [(1815, .iinc 4 5, 3, 0, 0, 0, (5), 0), (1818, .goto (-1795), 3, 23, 0, 0, 0, 0), (1821, .iconst 1, 1, 0, 0, 0, (1), 0), (1822, .ireturn, 1, 0, 0, 2, 0, 0)]
theorem ok_Lz : cd_Lz.all inL = true := by decide +kernel
def lw_tg (j : Nat) : Nat := [260, 285, 310, 323, 336, 404, 472, 528, 589, 626, 651, 688, 737, 774, 811, 836, 861, 898, 911, 924, 949, 986, 999, 1036, 1061, 1098, 1123, 1148, 1185, 1198, 1247, 1272, 1297, 1334, 1359, 1384, 1409, 1446, 1459, 1484, 1509, 1546, 1559, 1572, 1585, 1610, 1623, 1648, 1685, 1710, 1735, 1760].getD j 1815
theorem lw_tsw : ∀ j, j < 64 → am_tsw 39 1776 0 51 #[221, 246, 271, 284, 297, 365, 433, 489, 550, 587, 612, 649, 698, 735, 772, 797, 822, 859, 872, 885, 910, 947, 960, 997, 1022, 1059, 1084, 1109, 1146, 1159, 1208, 1233, 1258, 1295, 1320, 1345, 1370, 1407, 1420, 1445, 1470, 1507, 1520, 1533, 1546, 1571, 1584, 1609, 1646, 1671, 1696, 1721] (nI j) = lw_tg j := by decide +kernel
theorem lw_gt {L i : Nat} (hL : L ≤ 2560) (hi : i ≤ 2560) : nI L - 5 < nI i ↔ L < i + 5 := by
  rw [Int32.lt_iff_toInt_lt, show (nI L - 5).toInt = (L : Int) - 5 from pk_sub_toInt (a := L) (b := 5) (by omega) (by omega), nI_toInt (by omega)]
  omega
section
variable {d L : Nat} {xs : Nat → Int32} {h h' : am_H} {M : Ms} {Q : Option Value → am_H → Prop}
theorem lw_all {i u1 u2 : Nat} {x5 x6 x7 : Option Value} (hL : L ≤ 2560) (hi : i + 5 ≤ L) (hu1 : u1 ≤ 600000) (hu2 : u2 ≤ 7000000) (w : LW L xs h M)
    (hN : ∀ h' M' v1 v2 y5 y6 y7, v1 ≤ u1 + 1 → v2 ≤ u2 + 6 → LW L xs h' M' → am_wp (lawK (d + 300)) (601024, 7293034) cm_L_law Q (fun _ => False) (1815, [some (.ref 34), some (.ref 40), some (.ref 152), some (.ref 181), some (.int (nI i)), y5, y6, y7], [], v1, v2) h') : ∀ j, j < 64 → am_wp (lawK (d + 300)) (601024, 7293034) cm_L_law Q (fun _ => False) (lw_tg j, [some (.ref 34), some (.ref 40), some (.ref 152), some (.ref 181), some (.int (nI i)), x5, x6, x7], [], u1, u2) h
  | 0, _ => lw_0 hL hi hu1 hu2 w hN
  | 1, _ => lw_1 hL hi hu1 hu2 w hN
  | 2, _ => lw_2 hL hi hu1 hu2 w hN
  | 3, _ => lw_3 hL hi hu1 hu2 w hN
  | 4, _ => lw_4 hL hi hu1 hu2 w hN
  | 5, _ => lw_5 hL hi hu1 hu2 w hN
  | 6, _ => lw_6 hL hi hu1 hu2 w hN
  | 7, _ => lw_7 hL hi hu1 hu2 w hN
  | 8, _ => lw_8 hL hi hu1 hu2 w hN
  | 9, _ => lw_9 hL hi hu1 hu2 w hN
  | 10, _ => lw_10 hL hi hu1 hu2 w hN
  | 11, _ => lw_11 hL hi hu1 hu2 w hN
  | 12, _ => lw_12 hL hi hu1 hu2 w hN
  | 13, _ => lw_13 hL hi hu1 hu2 w hN
  | 14, _ => lw_14 hL hi hu1 hu2 w hN
  | 15, _ => lw_15 hL hi hu1 hu2 w hN
  | 16, _ => lw_16 hL hi hu1 hu2 w hN
  | 17, _ => lw_17 hL hi hu1 hu2 w hN
  | 18, _ => lw_18 hL hi hu1 hu2 w hN
  | 19, _ => lw_19 hL hi hu1 hu2 w hN
  | 20, _ => lw_20 hL hi hu1 hu2 w hN
  | 21, _ => lw_21 hL hi hu1 hu2 w hN
  | 22, _ => lw_22 hL hi hu1 hu2 w hN
  | 23, _ => lw_23 hL hi hu1 hu2 w hN
  | 24, _ => lw_24 hL hi hu1 hu2 w hN
  | 25, _ => lw_25 hL hi hu1 hu2 w hN
  | 26, _ => lw_26 hL hi hu1 hu2 w hN
  | 27, _ => lw_27 hL hi hu1 hu2 w hN
  | 28, _ => lw_28 hL hi hu1 hu2 w hN
  | 29, _ => lw_29 hL hi hu1 hu2 w hN
  | 30, _ => lw_30 hL hi hu1 hu2 w hN
  | 31, _ => lw_31 hL hi hu1 hu2 w hN
  | 32, _ => lw_32 hL hi hu1 hu2 w hN
  | 33, _ => lw_33 hL hi hu1 hu2 w hN
  | 34, _ => lw_34 hL hi hu1 hu2 w hN
  | 35, _ => lw_35 hL hi hu1 hu2 w hN
  | 36, _ => lw_36 hL hi hu1 hu2 w hN
  | 37, _ => lw_37 hL hi hu1 hu2 w hN
  | 38, _ => lw_38 hL hi hu1 hu2 w hN
  | 39, _ => lw_39 hL hi hu1 hu2 w hN
  | 40, _ => lw_40 hL hi hu1 hu2 w hN
  | 41, _ => lw_41 hL hi hu1 hu2 w hN
  | 42, _ => lw_42 hL hi hu1 hu2 w hN
  | 43, _ => lw_43 hL hi hu1 hu2 w hN
  | 44, _ => lw_44 hL hi hu1 hu2 w hN
  | 45, _ => lw_45 hL hi hu1 hu2 w hN
  | 46, _ => lw_46 hL hi hu1 hu2 w hN
  | 47, _ => lw_47 hL hi hu1 hu2 w hN
  | 48, _ => lw_48 hL hi hu1 hu2 w hN
  | 49, _ => lw_49 hL hi hu1 hu2 w hN
  | 50, _ => lw_50 hL hi hu1 hu2 w hN
  | 51, _ => lw_51 hL hi hu1 hu2 w hN
  | k + 52, _ => (show am_wp (lawK (d + 300)) (601024, 7293034) cm_L_law Q (fun _ => False) (1815, [some (.ref 34), some (.ref 40), some (.ref 152), some (.ref 181), some (.int (nI i)), x5, x6, x7], [], u1, u2) h from hN h M u1 u2 x5 x6 x7 (by omega) (by omega) w)
theorem law_abs (hL : L ≤ 2560) (h1 : h.1 = 40) (hO : RO h) (hs : h.2 34 = .inl (.float, L, .inl xs)) (hQ : ∀ h', Q (some (.int 1)) h') : am_wp (lawK (d + 300)) (601024, 7293034) cm_L_law Q (fun _ => False) (0, [some (.ref 34), none, none, none, none, none, none, none], [], 0, 0) h := by
  refine lw_run ok_La (n := 1) ⟨Nat.le_of_ble_eq_true rfl, Nat.le_of_ble_eq_true rfl, ?_⟩
  rw [h1]
  refine lw_run ok_La (n := 2) (am_obj_in (p := 40) (ad_s h1) (show am_call (d + 300) 114 [.ref 40] _ _ from X_init (ad_1 h1) (ad_s h1) (RO_fr hO (fun x hx => ad_n h1 hx)) (fun g1 m1 r1 f1 => ?_)))
  have hs1 : g1.2 34 = .inl (.float, L, .inl xs) := (f1 34 (by decide)).trans ((ad_n h1 (by decide)).trans hs)
  refine lw_run ok_La (n := 1) (show am_wp (lawK (d + 300)) (601024, 7293034) cm_L_law Q (fun _ => False) (8, [some (.ref 34), some (.ref 40), none, none, none, none, none, none], [], 112, 2830) g1 from ?_)
  refine lw_run ok_La (n := 1) ⟨Nat.le_of_ble_eq_true rfl, Nat.le_of_ble_eq_true rfl, ?_⟩
  rw [m1]
  refine lw_run ok_La (n := 2) (am_obj_in (p := 152) (ad_s m1) (show am_call (d + 300) 182 [.ref 152] _ _ from Z_init (ad_1 m1) (ad_s m1) (fun g2 m2 r2 f2 => ?_)))
  have r1' : RX g2 M0 := RX_fz r1 (fun x hx => (f2 x hx).trans (ad_n m1 hx))
  have hs2 : g2.2 34 = .inl (.float, L, .inl xs) := (f2 34 (by decide)).trans ((ad_n m1 (by decide)).trans hs1)
  refine lw_run ok_La (n := 1) (show am_wp (lawK (d + 300)) (601024, 7293034) cm_L_law Q (fun _ => False) (16, [some (.ref 34), some (.ref 40), some (.ref 152), none, none, none, none, none], [], 141, 5045) g2 from ?_)
  refine lw_run ok_La (n := 2) ⟨by decide, by decide, Nat.le_of_ble_eq_true rfl, Nat.le_of_ble_eq_true rfl, ?_⟩
  rw [m2]
  generalize hg : am_add g2 _ = g3
  have w0 : LW L xs g3 M0 := by
    have e : ∀ q, q < 181 → g3.2 q = g2.2 q := fun q hq => by rw [← hg]; exact ad_n m2 hq
    exact ⟨RX_fz r1' (fun x hx => e x (by omega)), RY_fx r2 (fun q q1 q2 => e q q2), ⟨fun _ => 0, by rw [← hg]; exact ad_s m2⟩, (e 34 (by decide)).trans hs2⟩
  refine lw_run ok_La (n := 3) (show am_wp (lawK (d + 300)) (601024, 7293034) cm_L_law Q (fun _ => False) (23, [some (.ref 34), some (.ref 40), some (.ref 152), some (.ref 181), some (.int (nI (5 * 0))), none, none, none], [], 142, 5046) g3 from ?_)
  refine am_lp (α := Option Value × Option Value × Option Value × Nat × Nat) (fun t x => (23, [some (.ref 34), some (.ref 40), some (.ref 152), some (.ref 181), some (.int (nI (5 * t))), x.1, x.2.1, x.2.2.1], [], x.2.2.2.1, x.2.2.2.2)) (fun t x h' => (∃ M, LW L xs h' M) ∧ x.2.2.2.1 ≤ 142 + t ∧ x.2.2.2.2 ≤ 5046 + 6 * t) (L / 5) (fun t x k ht P K => ?_) (fun x k P => ?_) 0 (none, none, none, 142, 5046) g3 (Nat.zero_le _) ⟨⟨M0, w0⟩, Nat.le_refl _, Nat.le_refl _⟩
  · obtain ⟨x5, x6, x7, u1, u2⟩ := x
    obtain ⟨⟨M, w⟩, b1, b2⟩ := P
    replace b1 : u1 ≤ 142 + t := b1
    replace b2 : u2 ≤ 5046 + 6 * t := b2
    have hi : 5 * t + 5 ≤ L := by omega
    refine lw_run ok_La (n := 3) (am_len_ro w.s ?_)
    refine lw_run ok_La (n := 3) ⟨fun c => absurd ((lw_gt hL (by omega)).mp c) (by omega), fun _ => ?_⟩
    refine lw_run ok_La (n := 3) (am_rdi_ro w.s ⟨vp_in_nI (n := 5 * t) (N := L) (by omega) (by omega), ?_⟩)
    obtain ⟨j, hj, ej⟩ := pk_andE (xs (nI (5 * t)).toNatClampNeg) (m := 63) 6 (by decide)
    refine lw_run ok_La (n := 3) (show am_wp (lawK (d + 300)) (601024, 7293034) cm_L_law Q (fun _ => False) (am_tsw 39 1776 0 51 #[221, 246, 271, 284, 297, 365, 433, 489, 550, 587, 612, 649, 698, 735, 772, 797, 822, 859, 872, 885, 910, 947, 960, 997, 1022, 1059, 1084, 1109, 1146, 1159, 1208, 1233, 1258, 1295, 1320, 1345, 1370, 1407, 1420, 1445, 1470, 1507, 1520, 1533, 1546, 1571, 1584, 1609, 1646, 1671, 1696, 1721] (xs (nI (5 * t)).toNatClampNeg &&& 63), [some (.ref 34), some (.ref 40), some (.ref 152), some (.ref 181), some (.int (nI (5 * t))), x5, x6, x7], [], u1, u2) k from ?_)
    rw [ej, lw_tsw j hj]
    refine lw_all hL hi (by omega) (by omega) w (fun h2 M2 v1 v2 y5 y6 y7 c1 c2 w2 => ?_) j hj
    have K2 := K (y5, y6, y7, v1, v2) h2 ⟨⟨M2, w2⟩, by show v1 ≤ 142 + (t + 1); omega, by show v2 ≤ 5046 + 6 * (t + 1); omega⟩
    rw [show nI (5 * (t + 1)) = nI (5 * t) + 5 by rw [show 5 * (t + 1) = 5 * t + 5 by omega]; exact (nI_add (5 * t) 5).symm] at K2
    exact lw_run ok_Lz (n := 2) K2
  · obtain ⟨x5, x6, x7, u1, u2⟩ := x
    obtain ⟨⟨M, w⟩, b1, b2⟩ := P
    refine lw_run ok_La (n := 3) (am_len_ro w.s ?_)
    refine lw_run ok_La (n := 3) ⟨fun _ => ?_, fun c => absurd ((lw_gt hL (by omega)).mpr (by omega)) c⟩
    exact lw_run ok_Lz (n := 2) ⟨Or.inr rfl, hQ k⟩
end
