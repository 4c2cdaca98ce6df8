variable {p : Program} {l : Launch} {e : Env} {s : State} {m : MethodId} {args : Array Value} {below : List Frame} {meth : Method} {c : Code} {dC : Nat → ClassId} {dI : Nat → Nat → Nat} {cy : Nat → ClassId} {ad : Nat → Nat} {A : Nat → Prop} {Z : State → Prop}
-- ===== X4_matchFrom
theorem fl_X4_matchFrom_9 : Cond.fieldLink RX4 9 "UnlikeUnion$Rounding" "machineOf" "[I" ∈ wsX4_matchFrom := by decide +kernel
theorem in_X4_matchFrom_X1 : ∀ w ∈ u_ws RX1 TX1 2, w ∈ wsX4_matchFrom := by decide +kernel
theorem in_X4_matchFrom_X4 : ∀ w ∈ u_ws RX4 TX4 1, w ∈ wsX4_matchFrom := by decide +kernel
abbrev rmX4_matchFrom (d : Nat) : Room := { frames := d + 20, cells := 0, slots := 0, locals := 200 * d + 2000 }
theorem rm_X4_matchFrom_fit {d : Nat} : (rmX4_matchFrom d).frames + 1 ≤ (rmX4_matchFrom (d + 1)).frames ∧ 8 + (8 + 11) + (rmX4_matchFrom d).locals ≤ (rmX4_matchFrom (d + 1)).locals := by simp only []; omega
theorem rm_X4_matchFrom_f {d k : Nat} (h : k ≤ 20) : k ≤ (rmX4_matchFrom (d + 1)).frames := by simp only []; omega
theorem rm_X4_matchFrom_l {d k : Nat} (h : k ≤ 2000) : k ≤ (rmX4_matchFrom (d + 1)).locals := by simp only []; omega
def p_X4_matchFrom_52 (N : Nat) (co : Int32) (dnu : Nat → Int32) (dde : Nat → Int32) (REC : (Int32 → (Nat → Int32) → Prop) → Int32 → Int32 → (Nat → Int32) → Prop) (Q : Int32 → (Nat → Int32) → Prop) : Nat → Int32 → Int32 → Int32 → (Nat → Int32) → Prop
  | 0 => fun _ _ _ _ => False
  | n + 1 => fun x3 x4 x6 rma => ((3 : Int32) ≤ x6 → (Q (0 : Int32) rma)) ∧ (¬ (3 : Int32) ≤ x6 → (∀ x7_2 : Int32, x7_2 = (1 : Int32) <<< (x6 &&& 31) → (p_X0_hasShare N dnu (fun r_3 => (r_3 = 0 → (∀ x6_5 : Int32, x6_5 = x6 + (1 : Int32) → (p_X4_matchFrom_52 N co dnu dde REC Q n x3 x4 x6_5 rma))) ∧ (¬ r_3 = 0 → (((x4 &&& x7_2) = 0 → (vp_in x3 7 ∧ (REC (fun r_9 rma_10 => (r_9 = 0 → (∀ x6_12 : Int32, x6_12 = x6 + (1 : Int32) → (p_X4_matchFrom_52 N co dnu dde REC Q n x3 x4 x6_12 rma_10))) ∧ (¬ r_9 = 0 → (Q (1 : Int32) rma_10))) (x3 + (1 : Int32)) (x4 ||| x7_2) (upd rma (x3).toNatClampNeg x6)))) ∧ (¬ (x4 &&& x7_2) = 0 → (∀ x6_7 : Int32, x6_7 = x6 + (1 : Int32) → (p_X4_matchFrom_52 N co dnu dde REC Q n x3 x4 x6_7 rma)))))) x3 x6)))

def p_X4_matchFrom (N : Nat) (co : Int32) (dnu : Nat → Int32) (dde : Nat → Int32) : Nat → (Int32 → (Nat → Int32) → Prop) → Int32 → Int32 → (Nat → Int32) → Prop
  | 0 => fun _ _ _ _ => False
  | n + 1 => fun Q x3 x4 rma => (co ≤ x3 → (Q (1 : Int32) rma)) ∧ (¬ co ≤ x3 → ((x3 < (7 : Int32) → (p_X0_wholeMachine N dnu dde (fun r_3 => (r_3 = (-1 : Int32) → (p_X4_matchFrom_52 N co dnu dde (p_X4_matchFrom N co dnu dde n) Q N x3 x4 (0 : Int32) rma)) ∧ (¬ r_3 = (-1 : Int32) → (vp_in x3 7 ∧ ((p_X4_matchFrom N co dnu dde n) (fun r_6 rma_7 => Q r_6 rma_7) (x3 + (1 : Int32)) x4 (upd rma (x3).toNatClampNeg r_3))))) x3)) ∧ (¬ x3 < (7 : Int32) → (Q (1 : Int32) rma))))

set_option maxHeartbeats 4000000 in
set_option maxRecDepth 100000 in
theorem k_X4_matchFrom_52 {N : Nat} {ss : Int32} {ds : Int32} {ti : Nat → Int32} {co : Int32} {oma : Nat → Int32} {obr : Int32} {obj : Int32} {obo : Int32} {obm : Int32} {plo : Nat → Int32} {pch : Nat → Int32} {pbe : Nat → Int32} {pbl : Int32} {dnu : Nat → Int32} {dde : Nat → Int32} {dbo : Int32} {dln : Int32} {dld : Int32} {tba : Nat → Int32} {tal : Nat → Int32} {tro : Int32} {tsc : Int64} {tcl : Nat → Nat → Int64} {recd : Nat} {REC : (Int32 → (Nat → Int32) → Prop) → Int32 → Int32 → (Nat → Int32) → Prop} {Q : Int32 → (Nat → Int32) → Prop} (C0 : cxM cX4_matchFrom 8 (some .boolean) RX4 wsX4_matchFrom p s m args meth c dC dI cy A) :
    ∀ (n : Nat) (x3 : Int32) (x4 : Int32) (x6 : Int32) (rma : Nat → Int32) (H : Heap) (locs : List Loc) (ls : Array Slot) (hm : p_X4_matchFrom_52 N co dnu dde REC Q n x3 x4 x6 rma) (hSt : stC dC dI A s (wC ad cy ss ds ti co oma obr obj obo obm plo pch pbe pbl dnu dde dbo dln dld tba tal tro tsc tcl rma) H locs) (hl : lv_has ls 8 [(0, .ref (ad 16)), (1, .ref (ad 1)), (2, .ref (ad 9)), (3, .int x3), (4, .int x4), (6, .int x6)]) (hret : ∀ (r : Int32) (rma : Nat → Int32) (H : Heap) (locs : List Loc) (ls : Array Slot) (pc : Nat), decode cX4_matchFrom pc = .ok (.ireturn, 1) → narrow .boolean (.int r) = .int r → stC dC dI A s (wC ad cy ss ds ti co oma obr obj obo obm plo pch pbe pbl dnu dde dbo dln dld tba tal tro tsc tcl rma) H locs → Q r rma → W p l e (rmX4_matchFrom (recd + 1)) s m args below meth c H locs 0 0 Z (F0 m pc ls [.int r])) (hrec : ∀ (sz : Nat) (ss : Int32) (ds : Int32) (ti : Nat → Int32) (oma : Nat → Int32) (obr : Int32) (obj : Int32) (obo : Int32) (obm : Int32) (plo : Nat → Int32) (pch : Nat → Int32) (pbe : Nat → Int32) (pbl : Int32) (dbo : Int32) (dln : Int32) (dld : Int32) (tba : Nat → Int32) (tal : Nat → Int32) (tro : Int32) (tsc : Int64) (tcl : Nat → Nat → Int64) (rma : Nat → Int32) (x3 : Int32) (x4 : Int32) (Q : Int32 → (Nat → Int32) → Prop), REC Q x3 x4 rma → Met l yX4_matchFrom wsX4_matchFrom (rmX4_matchFrom recd) (va_Pc [.ref (ad 16), .ref (ad 1), .ref (ad 9), .int x3, .int x4] (cPre dC dI cy (wC ad cy ss ds ti co oma obr obj obo obm plo pch pbe pbl dnu dde dbo dln dld tba tal tro tsc tcl rma) sz)) (va_Qi (fun (r : Int32) (u : (Nat → Int32)) => Q r u ∧ narrow .boolean (.int r) = .int r) (fun u t => cPost dC dI cy (wC ad cy ss ds ti co oma obr obj obo obm plo pch pbe pbl dnu dde dbo dln dld tba tal tro tsc tcl rma) sz (wC ad cy ss ds ti co oma obr obj obo obm plo pch pbe pbl dnu dde dbo dln dld tba tal tro tsc tcl u) t) (va_A (wC ad cy ss ds ti co oma obr obj obo obm plo pch pbe pbl dnu dde dbo dln dld tba tal tro tsc tcl rma) sz)) 0 0 (va_A (wC ad cy ss ds ti co oma obr obj obo obm plo pch pbe pbl dnu dde dbo dln dld tba tal tro tsc tcl rma) sz)), W p l e (rmX4_matchFrom (recd + 1)) s m args below meth c H locs 0 0 Z (F0 m 52 ls []) := by
  obtain ⟨hx, hb, hml, hr, hown, hts, hlocks, hK, hA, hN⟩ := id C0
  intro n
  induction n with
  | zero => intro x3 x4 x6 rma H locs ls hm; exact False.elim hm
  | succ n ih =>
    intro x3 x4 x6 rma H locs ls hm hSt hl hret hrec
    obtain ⟨hP, hD, hS⟩ := hSt
    unfold p_X4_matchFrom_52 at hm
    refine lv_iload hx hb dX4_matchFrom_52 (lv_at hl 5 rfl) ?_
    refine lv_iconst (v := 3) hx hb dX4_matchFrom_54 (by decide) ?_
    refine lv_icmp_ge (tgt := 115) hx hb dX4_matchFrom_55 (by decide) (fun c_1 => ?_) (fun c_1 => ?_)
    · have hm := hm.1 c_1
      refine lv_iconst (v := 0) hx hb dX4_matchFrom_115 (by decide) ?_
      exact hret (0 : Int32) rma H locs ls 116 dX4_matchFrom_116 rfl ⟨hP, hD, hS⟩ hm
    · have hm := hm.2 c_1
      refine lv_iconst (v := 1) hx hb dX4_matchFrom_58 (by decide) ?_
      refine lv_iload hx hb dX4_matchFrom_59 (lv_at hl 5 rfl) ?_
      refine lv_ishl hx hb dX4_matchFrom_61 ?_
      refine lv_topi (fun x7_2 ex7_2 => ?_)
      have hm := hm x7_2 ex7_2
      refine lv_istore (lv' := [(7, .int x7_2), (0, .ref (ad 16)), (1, .ref (ad 1)), (2, .ref (ad 9)), (3, .int x3), (4, .int x4), (6, .int x6)]) hx hb dX4_matchFrom_62 hl (by decide) rfl (fun ls hl => ?_)
      refine lv_aload_n hx hb dX4_matchFrom_64 rfl (lv_at hl 3 rfl) ?_
      refine lv_iload_n hx hb dX4_matchFrom_65 rfl (lv_at hl 4 rfl) ?_
      refine lv_iload hx hb dX4_matchFrom_66 (lv_at hl 6 rfl) ?_
      have hFc := va_freeSame hD hS hA
      refine va_calli (va_runV (As := [.int x3, .int x6]) (rest := []) ⟨hx, hb, hml, hown, hts⟩ (c_X0_hasShare l dC dI cy ad H.size ss ds ti co oma obr obj obo obm plo pch pbe pbl dnu dde dbo dln dld tba tal tro tsc tcl rma x3 x6 _ _ hm) (cwV 2 hts gX4_matchFrom_X0_hasShare rfl rfl rfl (by decide +kernel) ⟨rm_X4_matchFrom_f (Nat.le_of_ble_eq_true rfl), rm_X4_matchFrom_l (Nat.le_of_ble_eq_true rfl)⟩) ⟨cPre_blind, va_recv hK hP (ci := 0) (q0 := 9) rfl rfl, fun U hU hW => ⟨rfl, cPre_at hP hK hD hN hU hW⟩⟩ rfl rfl hl.1 rfl (lv_room (Nat.le_of_ble_eq_true rfl)) dX4_matchFrom_68 ⟨Nat.zero_le _, Nat.zero_le _⟩) hS (fun q _ h => hFc q h) hFc (fun r_3 u t H locs ht hvm hw hB hz1 hk1 hS => ?_)
      try dsimp only at hw
      obtain ⟨hm, nar_r_3⟩ := hw
      have hP : va_P (dC, dI) vwCl (wC ad cy ss ds ti co oma obr obj obo obm plo pch pbe pbl dnu dde dbo dln dld tba tal tro tsc tcl rma) H := cPost_P ht hB
      have hD : va_D A (wC ad cy ss ds ti co oma obr obj obo obm plo pch pbe pbl dnu dde dbo dln dld tba tal tro tsc tcl rma) := cPost_D hFc hB
      refine lv_if_eq (tgt := 109) hx hb dX4_matchFrom_71 (by decide) (fun c_4 => ?_) (fun c_4 => ?_)
      · have hm := hm.1 c_4
        obtain ⟨x6_5, ex6_5⟩ : ∃ y : Int32, y = x6 + (1 : Int32) := ⟨_, rfl⟩
        have hm := hm x6_5 ex6_5
        refine lv_iinc (v := x6_5) (lv' := [(6, .int x6_5), (7, .int x7_2), (0, .ref (ad 16)), (1, .ref (ad 1)), (2, .ref (ad 9)), (3, .int x3), (4, .int x4)]) hx hb dX4_matchFrom_109 hl (k := 6) rfl (by rw [ex6_5]; rfl) (by decide) rfl (fun ls hl => ?_)
        refine lv_goto (tgt := 52) hx hb dX4_matchFrom_112 (by decide) ?_
        exact ih x3 x4 x6_5 rma H locs ls hm ⟨hP, hD, hS⟩ (lv_sub hl [2, 3, 4, 5, 6, 0] rfl) hret hrec
      · have hm := hm.2 c_4
        refine lv_iload hx hb dX4_matchFrom_74 (lv_at hl 5 rfl) ?_
        refine lv_iload hx hb dX4_matchFrom_76 (lv_at hl 0 rfl) ?_
        refine lv_iand hx hb dX4_matchFrom_78 ?_
        refine lv_if_ne (tgt := 109) hx hb dX4_matchFrom_79 (by decide) (fun c_6 => ?_) (fun c_6 => ?_)
        · have hm := hm.2 c_6
          obtain ⟨x6_7, ex6_7⟩ : ∃ y : Int32, y = x6 + (1 : Int32) := ⟨_, rfl⟩
          have hm := hm x6_7 ex6_7
          refine lv_iinc (v := x6_7) (lv' := [(6, .int x6_7), (7, .int x7_2), (0, .ref (ad 16)), (1, .ref (ad 1)), (2, .ref (ad 9)), (3, .int x3), (4, .int x4)]) hx hb dX4_matchFrom_109 hl (k := 6) rfl (by rw [ex6_7]; rfl) (by decide) rfl (fun ls hl => ?_)
          refine lv_goto (tgt := 52) hx hb dX4_matchFrom_112 (by decide) ?_
          exact ih x3 x4 x6_7 rma H locs ls hm ⟨hP, hD, hS⟩ (lv_sub hl [2, 3, 4, 5, 6, 0] rfl) hret hrec
        · have hm := hm.1 c_6
          refine lv_aload_n hx hb dX4_matchFrom_82 rfl (lv_at hl 1 rfl) ?_
          refine va_get (D := (dC, dI)) (ci := 4) (v := .ref (ad 17)) (C := RX4) (T := TX4) (N := 1) hx hb hts in_X4_matchFrom_X4 hown hK hP 16 rfl rfl 0 (by decide) (hts _ fl_X4_matchFrom_9) (fun _ h9 => h9) rfl dX4_matchFrom_83 ?_
          refine lv_iload_n hx hb dX4_matchFrom_86 rfl (lv_at hl 4 rfl) ?_
          refine lv_iload hx hb dX4_matchFrom_87 (lv_at hl 6 rfl) ?_
          have hi_8 := hm.1
          have hm := hm.2
          refine va_iast hx hb hK hP hD hS 17 0 rfl rfl hi_8 dX4_matchFrom_89 (fun H locs hP hD hS => ?_)
          have hP : va_P (dC, dI) vwCl (wC ad cy ss ds ti co oma obr obj obo obm plo pch pbe pbl dnu dde dbo dln dld tba tal tro tsc tcl (upd rma (x3).toNatClampNeg x6)) H := hP
          have hD : va_D A (wC ad cy ss ds ti co oma obr obj obo obm plo pch pbe pbl dnu dde dbo dln dld tba tal tro tsc tcl (upd rma (x3).toNatClampNeg x6)) := hD
          refine lv_aload_n hx hb dX4_matchFrom_90 rfl (lv_at hl 1 rfl) ?_
          refine lv_aload_n hx hb dX4_matchFrom_91 rfl (lv_at hl 2 rfl) ?_
          refine lv_aload_n hx hb dX4_matchFrom_92 rfl (lv_at hl 3 rfl) ?_
          refine lv_iload_n hx hb dX4_matchFrom_93 rfl (lv_at hl 4 rfl) ?_
          refine lv_iconst (v := 1) hx hb dX4_matchFrom_94 (by decide) ?_
          refine lv_iadd hx hb dX4_matchFrom_95 ?_
          refine lv_iload hx hb dX4_matchFrom_96 (lv_at hl 5 rfl) ?_
          refine lv_iload hx hb dX4_matchFrom_98 (lv_at hl 0 rfl) ?_
          refine lv_ior hx hb dX4_matchFrom_100 ?_
          have hFc := va_freeSame hD hS hA
          refine va_calli (va_runS (As := [.ref (ad 16), .ref (ad 1), .ref (ad 9), .int (x3 + (1 : Int32)), .int (x4 ||| x7_2)]) (rest := []) ⟨hx, hb, hml, hown, hts⟩ (hrec H.size ss ds ti oma obr obj obo obm plo pch pbe pbl dbo dln dld tba tal tro tsc tcl (upd rma (x3).toNatClampNeg x6) (x3 + (1 : Int32)) (x4 ||| x7_2) _ hm) (cwS 5 hts gX4_matchFrom_X4_matchFrom rfl rfl rfl (by decide +kernel) rm_X4_matchFrom_fit) ⟨cPre_blind, fun U hU hW => ⟨rfl, cPre_at hP hK hD hN hU hW⟩⟩ rfl rfl hl.1 rfl (lv_room (Nat.le_of_ble_eq_true rfl)) dX4_matchFrom_101 ⟨Nat.zero_le _, Nat.zero_le _⟩) hS (fun q _ h => hFc q h) hFc (fun r_9 u t H locs ht hvm hw hB hz1 hk1 hS => ?_)
          obtain ⟨rma_10, rfl⟩ : ∃ z, z = u := ⟨_, rfl⟩
          try dsimp only at hw
          obtain ⟨hm, nar_r_9⟩ := hw
          have hP : va_P (dC, dI) vwCl (wC ad cy ss ds ti co oma obr obj obo obm plo pch pbe pbl dnu dde dbo dln dld tba tal tro tsc tcl rma_10) H := cPost_P ht hB
          have hD : va_D A (wC ad cy ss ds ti co oma obr obj obo obm plo pch pbe pbl dnu dde dbo dln dld tba tal tro tsc tcl rma_10) := cPost_D hFc hB
          refine lv_if_eq (tgt := 109) hx hb dX4_matchFrom_104 (by decide) (fun c_11 => ?_) (fun c_11 => ?_)
          · have hm := hm.1 c_11
            obtain ⟨x6_12, ex6_12⟩ : ∃ y : Int32, y = x6 + (1 : Int32) := ⟨_, rfl⟩
            have hm := hm x6_12 ex6_12
            refine lv_iinc (v := x6_12) (lv' := [(6, .int x6_12), (7, .int x7_2), (0, .ref (ad 16)), (1, .ref (ad 1)), (2, .ref (ad 9)), (3, .int x3), (4, .int x4)]) hx hb dX4_matchFrom_109 hl (k := 6) rfl (by rw [ex6_12]; rfl) (by decide) rfl (fun ls hl => ?_)
            refine lv_goto (tgt := 52) hx hb dX4_matchFrom_112 (by decide) ?_
            exact ih x3 x4 x6_12 rma_10 H locs ls hm ⟨hP, hD, hS⟩ (lv_sub hl [2, 3, 4, 5, 6, 0] rfl) hret hrec
          · have hm := hm.2 c_11
            refine lv_iconst (v := 1) hx hb dX4_matchFrom_107 (by decide) ?_
            exact hret (1 : Int32) rma_10 H locs ls 108 dX4_matchFrom_108 rfl ⟨hP, hD, hS⟩ hm

set_option maxHeartbeats 4000000 in
set_option maxRecDepth 100000 in
theorem k_X4_matchFrom_0 {N : Nat} {ss : Int32} {ds : Int32} {ti : Nat → Int32} {co : Int32} {oma : Nat → Int32} {obr : Int32} {obj : Int32} {obo : Int32} {obm : Int32} {plo : Nat → Int32} {pch : Nat → Int32} {pbe : Nat → Int32} {pbl : Int32} {dnu : Nat → Int32} {dde : Nat → Int32} {dbo : Int32} {dln : Int32} {dld : Int32} {tba : Nat → Int32} {tal : Nat → Int32} {tro : Int32} {tsc : Int64} {tcl : Nat → Nat → Int64} {recd : Nat} {Q : Int32 → (Nat → Int32) → Prop} (C0 : cxM cX4_matchFrom 8 (some .boolean) RX4 wsX4_matchFrom p s m args meth c dC dI cy A) :
    ∀ (x3 : Int32) (x4 : Int32) (rma : Nat → Int32) (H : Heap) (locs : List Loc) (ls : Array Slot) (hm : p_X4_matchFrom N co dnu dde (recd + 1) Q x3 x4 rma) (hSt : stC dC dI A s (wC ad cy ss ds ti co oma obr obj obo obm plo pch pbe pbl dnu dde dbo dln dld tba tal tro tsc tcl rma) H locs) (hl : lv_has ls 8 [(0, .ref (ad 16)), (1, .ref (ad 1)), (2, .ref (ad 9)), (3, .int x3), (4, .int x4)]) (hret : ∀ (r : Int32) (rma : Nat → Int32) (H : Heap) (locs : List Loc) (ls : Array Slot) (pc : Nat), decode cX4_matchFrom pc = .ok (.ireturn, 1) → narrow .boolean (.int r) = .int r → stC dC dI A s (wC ad cy ss ds ti co oma obr obj obo obm plo pch pbe pbl dnu dde dbo dln dld tba tal tro tsc tcl rma) H locs → Q r rma → W p l e (rmX4_matchFrom (recd + 1)) s m args below meth c H locs 0 0 Z (F0 m pc ls [.int r])) (hrec : ∀ (sz : Nat) (ss : Int32) (ds : Int32) (ti : Nat → Int32) (oma : Nat → Int32) (obr : Int32) (obj : Int32) (obo : Int32) (obm : Int32) (plo : Nat → Int32) (pch : Nat → Int32) (pbe : Nat → Int32) (pbl : Int32) (dbo : Int32) (dln : Int32) (dld : Int32) (tba : Nat → Int32) (tal : Nat → Int32) (tro : Int32) (tsc : Int64) (tcl : Nat → Nat → Int64) (rma : Nat → Int32) (x3 : Int32) (x4 : Int32) (Q : Int32 → (Nat → Int32) → Prop), p_X4_matchFrom N co dnu dde recd Q x3 x4 rma → Met l yX4_matchFrom wsX4_matchFrom (rmX4_matchFrom recd) (va_Pc [.ref (ad 16), .ref (ad 1), .ref (ad 9), .int x3, .int x4] (cPre dC dI cy (wC ad cy ss ds ti co oma obr obj obo obm plo pch pbe pbl dnu dde dbo dln dld tba tal tro tsc tcl rma) sz)) (va_Qi (fun (r : Int32) (u : (Nat → Int32)) => Q r u ∧ narrow .boolean (.int r) = .int r) (fun u t => cPost dC dI cy (wC ad cy ss ds ti co oma obr obj obo obm plo pch pbe pbl dnu dde dbo dln dld tba tal tro tsc tcl rma) sz (wC ad cy ss ds ti co oma obr obj obo obm plo pch pbe pbl dnu dde dbo dln dld tba tal tro tsc tcl u) t) (va_A (wC ad cy ss ds ti co oma obr obj obo obm plo pch pbe pbl dnu dde dbo dln dld tba tal tro tsc tcl rma) sz)) 0 0 (va_A (wC ad cy ss ds ti co oma obr obj obo obm plo pch pbe pbl dnu dde dbo dln dld tba tal tro tsc tcl rma) sz)), W p l e (rmX4_matchFrom (recd + 1)) s m args below meth c H locs 0 0 Z (F0 m 0 ls []) := by
  obtain ⟨hx, hb, hml, hr, hown, hts, hlocks, hK, hA, hN⟩ := id C0
  intro x3 x4 rma H locs ls hm hSt hl hret hrec
  obtain ⟨hP, hD, hS⟩ := hSt
  unfold p_X4_matchFrom at hm
  refine lv_iload_n hx hb dX4_matchFrom_0 rfl (lv_at hl 3 rfl) ?_
  refine lv_aload_n hx hb dX4_matchFrom_1 rfl (lv_at hl 1 rfl) ?_
  refine va_getN (D := (dC, dI)) (ci := 1) (v := .int co) (C := RX1) (T := TX1) (N := 2) hx hb hts in_X4_matchFrom_X1 hown hK hP 1 rfl rfl 1 (by decide) (va_Nw.use rfl (nw_X4_19 hN)) (fun _ h9 => h9) rfl dX4_matchFrom_2 ?_
  refine lv_icmp_ge (tgt := 14) hx hb dX4_matchFrom_5 (by decide) (fun c_1 => ?_) (fun c_1 => ?_)
  · have hm := hm.1 c_1
    refine lv_iconst (v := 1) hx hb dX4_matchFrom_14 (by decide) ?_
    exact hret (1 : Int32) rma H locs ls 15 dX4_matchFrom_15 rfl ⟨hP, hD, hS⟩ hm
  · have hm := hm.2 c_1
    refine lv_iload_n hx hb dX4_matchFrom_8 rfl (lv_at hl 3 rfl) ?_
    refine lv_bipush (v := 7) hx hb dX4_matchFrom_9 (by decide) ?_
    refine lv_icmp_lt (tgt := 16) hx hb dX4_matchFrom_11 (by decide) (fun c_2 => ?_) (fun c_2 => ?_)
    · have hm := hm.1 c_2
      refine lv_aload_n hx hb dX4_matchFrom_16 rfl (lv_at hl 2 rfl) ?_
      refine lv_iload_n hx hb dX4_matchFrom_17 rfl (lv_at hl 3 rfl) ?_
      have hFc := va_freeSame hD hS hA
      refine va_calli (va_runV (As := [.int x3]) (rest := []) ⟨hx, hb, hml, hown, hts⟩ (c_X0_wholeMachine l dC dI cy ad H.size ss ds ti co oma obr obj obo obm plo pch pbe pbl dnu dde dbo dln dld tba tal tro tsc tcl rma x3 _ _ hm) (cwV 1 hts gX4_matchFrom_X0_wholeMachine rfl rfl rfl (by decide +kernel) ⟨rm_X4_matchFrom_f (Nat.le_of_ble_eq_true rfl), rm_X4_matchFrom_l (Nat.le_of_ble_eq_true rfl)⟩) ⟨cPre_blind, va_recv hK hP (ci := 0) (q0 := 9) rfl rfl, fun U hU hW => ⟨rfl, cPre_at hP hK hD hN hU hW⟩⟩ rfl rfl hl.1 rfl (lv_room (Nat.le_of_ble_eq_true rfl)) dX4_matchFrom_18 ⟨Nat.zero_le _, Nat.zero_le _⟩) hS (fun q _ h => hFc q h) hFc (fun r_3 u t H locs ht hvm hw hB hz1 hk1 hS => ?_)
      try dsimp only at hw
      have hm := hw
      have hP : va_P (dC, dI) vwCl (wC ad cy ss ds ti co oma obr obj obo obm plo pch pbe pbl dnu dde dbo dln dld tba tal tro tsc tcl rma) H := cPost_P ht hB
      have hD : va_D A (wC ad cy ss ds ti co oma obr obj obo obm plo pch pbe pbl dnu dde dbo dln dld tba tal tro tsc tcl rma) := cPost_D hFc hB
      refine lv_istore (lv' := [(5, .int r_3), (0, .ref (ad 16)), (1, .ref (ad 1)), (2, .ref (ad 9)), (3, .int x3), (4, .int x4)]) hx hb dX4_matchFrom_21 hl (by decide) rfl (fun ls hl => ?_)
      refine lv_iload hx hb dX4_matchFrom_23 (lv_at hl 0 rfl) ?_
      refine lv_iconst (v := -1) hx hb dX4_matchFrom_25 (by decide) ?_
      refine lv_icmp_eq (tgt := 49) hx hb dX4_matchFrom_26 (by decide) (fun c_4 => ?_) (fun c_4 => ?_)
      · have hm := hm.1 c_4
        refine lv_iconst (v := 0) hx hb dX4_matchFrom_49 (by decide) ?_
        refine lv_istore (lv' := [(6, .int (0 : Int32)), (5, .int r_3), (0, .ref (ad 16)), (1, .ref (ad 1)), (2, .ref (ad 9)), (3, .int x3), (4, .int x4)]) hx hb dX4_matchFrom_50 hl (by decide) rfl (fun ls hl => ?_)
        exact k_X4_matchFrom_52 C0 N x3 x4 (0 : Int32) rma H locs ls hm ⟨hP, hD, hS⟩ (lv_sub hl [2, 3, 4, 5, 6, 0] rfl) hret hrec
      · have hm := hm.2 c_4
        refine lv_aload_n hx hb dX4_matchFrom_29 rfl (lv_at hl 1 rfl) ?_
        refine va_get (D := (dC, dI)) (ci := 4) (v := .ref (ad 17)) (C := RX4) (T := TX4) (N := 1) hx hb hts in_X4_matchFrom_X4 hown hK hP 16 rfl rfl 0 (by decide) (hts _ fl_X4_matchFrom_9) (fun _ h9 => h9) rfl dX4_matchFrom_30 ?_
        refine lv_iload_n hx hb dX4_matchFrom_33 rfl (lv_at hl 4 rfl) ?_
        refine lv_iload hx hb dX4_matchFrom_34 (lv_at hl 0 rfl) ?_
        have hi_5 := hm.1
        have hm := hm.2
        refine va_iast hx hb hK hP hD hS 17 0 rfl rfl hi_5 dX4_matchFrom_36 (fun H locs hP hD hS => ?_)
        have hP : va_P (dC, dI) vwCl (wC ad cy ss ds ti co oma obr obj obo obm plo pch pbe pbl dnu dde dbo dln dld tba tal tro tsc tcl (upd rma (x3).toNatClampNeg r_3)) H := hP
        have hD : va_D A (wC ad cy ss ds ti co oma obr obj obo obm plo pch pbe pbl dnu dde dbo dln dld tba tal tro tsc tcl (upd rma (x3).toNatClampNeg r_3)) := hD
        refine lv_aload_n hx hb dX4_matchFrom_37 rfl (lv_at hl 1 rfl) ?_
        refine lv_aload_n hx hb dX4_matchFrom_38 rfl (lv_at hl 2 rfl) ?_
        refine lv_aload_n hx hb dX4_matchFrom_39 rfl (lv_at hl 3 rfl) ?_
        refine lv_iload_n hx hb dX4_matchFrom_40 rfl (lv_at hl 4 rfl) ?_
        refine lv_iconst (v := 1) hx hb dX4_matchFrom_41 (by decide) ?_
        refine lv_iadd hx hb dX4_matchFrom_42 ?_
        refine lv_iload hx hb dX4_matchFrom_43 (lv_at hl 5 rfl) ?_
        have hFc := va_freeSame hD hS hA
        refine va_calli (va_runS (As := [.ref (ad 16), .ref (ad 1), .ref (ad 9), .int (x3 + (1 : Int32)), .int x4]) (rest := []) ⟨hx, hb, hml, hown, hts⟩ (hrec H.size ss ds ti oma obr obj obo obm plo pch pbe pbl dbo dln dld tba tal tro tsc tcl (upd rma (x3).toNatClampNeg r_3) (x3 + (1 : Int32)) x4 _ hm) (cwS 5 hts gX4_matchFrom_X4_matchFrom rfl rfl rfl (by decide +kernel) rm_X4_matchFrom_fit) ⟨cPre_blind, fun U hU hW => ⟨rfl, cPre_at hP hK hD hN hU hW⟩⟩ rfl rfl hl.1 rfl (lv_room (Nat.le_of_ble_eq_true rfl)) dX4_matchFrom_45 ⟨Nat.zero_le _, Nat.zero_le _⟩) hS (fun q _ h => hFc q h) hFc (fun r_6 u t H locs ht hvm hw hB hz1 hk1 hS => ?_)
        obtain ⟨rma_7, rfl⟩ : ∃ z, z = u := ⟨_, rfl⟩
        try dsimp only at hw
        obtain ⟨hm, nar_r_6⟩ := hw
        have hP : va_P (dC, dI) vwCl (wC ad cy ss ds ti co oma obr obj obo obm plo pch pbe pbl dnu dde dbo dln dld tba tal tro tsc tcl rma_7) H := cPost_P ht hB
        have hD : va_D A (wC ad cy ss ds ti co oma obr obj obo obm plo pch pbe pbl dnu dde dbo dln dld tba tal tro tsc tcl rma_7) := cPost_D hFc hB
        exact hret r_6 rma_7 H locs ls 48 dX4_matchFrom_48 nar_r_6 ⟨hP, hD, hS⟩ hm
    · have hm := hm.2 c_2
      refine lv_iconst (v := 1) hx hb dX4_matchFrom_14 (by decide) ?_
      exact hret (1 : Int32) rma H locs ls 15 dX4_matchFrom_15 rfl ⟨hP, hD, hS⟩ hm

set_option maxHeartbeats 4000000 in
set_option maxRecDepth 100000 in
theorem c_X4_matchFrom_all (l : Launch) (dC : Nat → ClassId) (dI : Nat → Nat → Nat) (cy : Nat → ClassId) (ad : Nat → Nat) (N : Nat) : ∀ (d : Nat) (sz : Nat) (ss : Int32) (ds : Int32) (ti : Nat → Int32) (co : Int32) (oma : Nat → Int32) (obr : Int32) (obj : Int32) (obo : Int32) (obm : Int32) (plo : Nat → Int32) (pch : Nat → Int32) (pbe : Nat → Int32) (pbl : Int32) (dnu : Nat → Int32) (dde : Nat → Int32) (dbo : Int32) (dln : Int32) (dld : Int32) (tba : Nat → Int32) (tal : Nat → Int32) (tro : Int32) (tsc : Int64) (tcl : Nat → Nat → Int64) (rma : Nat → Int32) (x3 : Int32) (x4 : Int32) (Q : Int32 → (Nat → Int32) → Prop), p_X4_matchFrom N co dnu dde d Q x3 x4 rma → Met l yX4_matchFrom wsX4_matchFrom (rmX4_matchFrom d) (va_Pc [.ref (ad 16), .ref (ad 1), .ref (ad 9), .int x3, .int x4] (cPre dC dI cy (wC ad cy ss ds ti co oma obr obj obo obm plo pch pbe pbl dnu dde dbo dln dld tba tal tro tsc tcl rma) sz)) (va_Qi (fun (r : Int32) (u : (Nat → Int32)) => Q r u ∧ narrow .boolean (.int r) = .int r) (fun u t => cPost dC dI cy (wC ad cy ss ds ti co oma obr obj obo obm plo pch pbe pbl dnu dde dbo dln dld tba tal tro tsc tcl rma) sz (wC ad cy ss ds ti co oma obr obj obo obm plo pch pbe pbl dnu dde dbo dln dld tba tal tro tsc tcl u) t) (va_A (wC ad cy ss ds ti co oma obr obj obo obm plo pch pbe pbl dnu dde dbo dln dld tba tal tro tsc tcl rma) sz)) 0 0 (va_A (wC ad cy ss ds ti co oma obr obj obo obm plo pch pbe pbl dnu dde dbo dln dld tba tal tro tsc tcl rma) sz) := by
  intro d
  induction d with
  | zero => intro sz ss ds ti co oma obr obj obo obm plo pch pbe pbl dnu dde dbo dln dld tba tal tro tsc tcl rma x3 x4 Q hm; exact False.elim hm
  | succ recd ih =>
    intro sz ss ds ti co oma obr obj obo obm plo pch pbe pbl dnu dde dbo dln dld tba tal tro tsc tcl rma x3 x4 Q hm
    refine Met.ofW (cc := cX4_matchFrom) (maxL := 8) (ret := (some .boolean)) (by decide) rfl ?_
    intro p e s m args below meth c s₁ B hml hv
    obtain ⟨rfl, hsz, hP, hK, hD0, hN⟩ := hv
    have hts := atoms_spec (ws := wsX4_matchFrom) B.pre
    have hown : s.vm.findClass RX4 = some m.cls := findClass_of_methodNamed B.named
    subst hsz
    have hD := hD0.self (sz := s.heap.size)
    generalize hAe : va_A (wC ad cy ss ds ti co oma obr obj obo obm plo pch pbe pbl dnu dde dbo dln dld tba tal tro tsc tcl rma) s.heap.size = A at hD ⊢
    have hA : ∀ q : Nat, s.heap.size ≤ q → A q := fun q h => by rw [← hAe]; exact Or.inr h
    have hl := lv_entry ([.ref (ad 16), .ref (ad 1), .ref (ad 9), .int x3, .int x4]) (n := 8) (Nat.le_of_ble_eq_true rfl)
    rw [lg_entry_eq]
    generalize (lg_sl ([.ref (ad 16), .ref (ad 1), .ref (ad 9), .int x3, .int x4]) ++ List.replicate (8 - (lg_sl ([.ref (ad 16), .ref (ad 1), .ref (ad 9), .int x3, .int x4])).length) Slot.unset).toArray = ls at hl ⊢
    have hl : lv_has ls 8 [(0, .ref (ad 16)), (1, .ref (ad 1)), (2, .ref (ad 9)), (3, .int x3), (4, .int x4)] := hl
    exact k_X4_matchFrom_0 ⟨B.exec, B.bytes, hml, B.returns, hown, hts, B.notSynchronized, hK, hA, hN⟩ x3 x4 rma s.heap [] ls hm ⟨hP, hD, va_S.rf⟩ (lv_sub hl [0, 1, 2, 3, 4] rfl) (fun r rma H locs ls pc hdg hn hSt hq => W.zret B.exec B.bytes B.returns hn (fun t ht hW => ⟨⟨r, (rma), rfl, ⟨hq, hn⟩, cPost_of hAe ht hW.alike hSt hK⟩, hSt.2.2.F ht⟩) hSt.2.2.2.2 hdg B.notSynchronized) (fun sz ss ds ti oma obr obj obo obm plo pch pbe pbl dbo dln dld tba tal tro tsc tcl rma x3 x4 Q hm => ih sz ss ds ti co oma obr obj obo obm plo pch pbe pbl dnu dde dbo dln dld tba tal tro tsc tcl rma x3 x4 Q hm)
theorem c_X4_matchFrom (l : Launch) (dC : Nat → ClassId) (dI : Nat → Nat → Nat) (cy : Nat → ClassId) (ad : Nat → Nat) (sz : Nat) (ss : Int32) (ds : Int32) (ti : Nat → Int32) (co : Int32) (oma : Nat → Int32) (obr : Int32) (obj : Int32) (obo : Int32) (obm : Int32) (plo : Nat → Int32) (pch : Nat → Int32) (pbe : Nat → Int32) (pbl : Int32) (dnu : Nat → Int32) (dde : Nat → Int32) (dbo : Int32) (dln : Int32) (dld : Int32) (tba : Nat → Int32) (tal : Nat → Int32) (tro : Int32) (tsc : Int64) (tcl : Nat → Nat → Int64) (rma : Nat → Int32) (x3 : Int32) (x4 : Int32) (d N : Nat) (Q : Int32 → (Nat → Int32) → Prop) (hm : p_X4_matchFrom N co dnu dde d Q x3 x4 rma) : Met l yX4_matchFrom wsX4_matchFrom (rmX4_matchFrom d) (va_Pc [.ref (ad 16), .ref (ad 1), .ref (ad 9), .int x3, .int x4] (cPre dC dI cy (wC ad cy ss ds ti co oma obr obj obo obm plo pch pbe pbl dnu dde dbo dln dld tba tal tro tsc tcl rma) sz)) (va_Qi (fun (r : Int32) (u : (Nat → Int32)) => Q r u ∧ narrow .boolean (.int r) = .int r) (fun u t => cPost dC dI cy (wC ad cy ss ds ti co oma obr obj obo obm plo pch pbe pbl dnu dde dbo dln dld tba tal tro tsc tcl rma) sz (wC ad cy ss ds ti co oma obr obj obo obm plo pch pbe pbl dnu dde dbo dln dld tba tal tro tsc tcl u) t) (va_A (wC ad cy ss ds ti co oma obr obj obo obm plo pch pbe pbl dnu dde dbo dln dld tba tal tro tsc tcl rma) sz)) 0 0 (va_A (wC ad cy ss ds ti co oma obr obj obo obm plo pch pbe pbl dnu dde dbo dln dld tba tal tro tsc tcl rma) sz) := c_X4_matchFrom_all l dC dI cy ad N d sz ss ds ti co oma obr obj obo obm plo pch pbe pbl dnu dde dbo dln dld tba tal tro tsc tcl rma x3 x4 Q hm

-- ===== X4_make
abbrev rmX4_make : Room := { frames := 41, cells := 0, slots := 0, locals := 4087 }
def p_X4_make (N : Nat) (co : Int32) (dnu : Nat → Int32) (dde : Nat → Int32) (Q : (Nat → Int32) → Prop) (rma : Nat → Int32) : Prop :=
  p_X4_matchFrom N co dnu dde 10 (fun r_1 rma_2 => Q rma_2) (0 : Int32) (0 : Int32) rma

set_option maxHeartbeats 4000000 in
set_option maxRecDepth 100000 in
theorem k_X4_make_0 {N : Nat} {ss : Int32} {ds : Int32} {ti : Nat → Int32} {co : Int32} {oma : Nat → Int32} {obr : Int32} {obj : Int32} {obo : Int32} {obm : Int32} {plo : Nat → Int32} {pch : Nat → Int32} {pbe : Nat → Int32} {pbl : Int32} {dnu : Nat → Int32} {dde : Nat → Int32} {dbo : Int32} {dln : Int32} {dld : Int32} {tba : Nat → Int32} {tal : Nat → Int32} {tro : Int32} {tsc : Int64} {tcl : Nat → Nat → Int64} {Q : (Nat → Int32) → Prop} (C0 : cxM cX4_make 3 none RX4 wsX4_make p s m args meth c dC dI cy A) :
    ∀ (rma : Nat → Int32) (H : Heap) (locs : List Loc) (ls : Array Slot) (hm : p_X4_make N co dnu dde Q rma) (hSt : stC dC dI A s (wC ad cy ss ds ti co oma obr obj obo obm plo pch pbe pbl dnu dde dbo dln dld tba tal tro tsc tcl rma) H locs) (hl : lv_has ls 3 [(0, .ref (ad 16)), (1, .ref (ad 1)), (2, .ref (ad 9))]) (hret : ∀ (rma : Nat → Int32) (H : Heap) (locs : List Loc) (ls : Array Slot) (pc : Nat), decode cX4_make pc = .ok (.return_, 1) → stC dC dI A s (wC ad cy ss ds ti co oma obr obj obo obm plo pch pbe pbl dnu dde dbo dln dld tba tal tro tsc tcl rma) H locs → Q rma → W p l e rmX4_make s m args below meth c H locs 0 0 Z (F0 m pc ls [])), W p l e rmX4_make s m args below meth c H locs 0 0 Z (F0 m 0 ls []) := by
  obtain ⟨hx, hb, hml, hr, hown, hts, hlocks, hK, hA, hN⟩ := id C0
  intro rma H locs ls hm hSt hl hret
  obtain ⟨hP, hD, hS⟩ := hSt
  unfold p_X4_make at hm
  refine lv_aload_n hx hb dX4_make_0 rfl (lv_at hl 0 rfl) ?_
  refine lv_aload_n hx hb dX4_make_1 rfl (lv_at hl 1 rfl) ?_
  refine lv_aload_n hx hb dX4_make_2 rfl (lv_at hl 2 rfl) ?_
  refine lv_iconst (v := 0) hx hb dX4_make_3 (by decide) ?_
  refine lv_iconst (v := 0) hx hb dX4_make_4 (by decide) ?_
  have hFc := va_freeSame hD hS hA
  refine va_calli (va_runS (As := [.ref (ad 16), .ref (ad 1), .ref (ad 9), .int (0 : Int32), .int (0 : Int32)]) (rest := []) ⟨hx, hb, hml, hown, hts⟩ (c_X4_matchFrom l dC dI cy ad H.size ss ds ti co oma obr obj obo obm plo pch pbe pbl dnu dde dbo dln dld tba tal tro tsc tcl rma (0 : Int32) (0 : Int32) 10 _ _ hm) (cwS 5 hts gX4_make_X4_matchFrom rfl rfl rfl (by decide +kernel) ⟨Nat.le_of_ble_eq_true rfl, Nat.le_of_ble_eq_true rfl⟩) ⟨cPre_blind, fun U hU hW => ⟨rfl, cPre_at hP hK hD hN hU hW⟩⟩ rfl rfl hl.1 rfl (lv_room (Nat.le_of_ble_eq_true rfl)) dX4_make_5 ⟨Nat.zero_le _, Nat.zero_le _⟩) hS (fun q _ h => hFc q h) hFc (fun r_1 u t H locs ht hvm hw hB hz1 hk1 hS => ?_)
  obtain ⟨rma_2, rfl⟩ : ∃ z, z = u := ⟨_, rfl⟩
  try dsimp only at hw
  obtain ⟨hm, nar_r_1⟩ := hw
  have hP : va_P (dC, dI) vwCl (wC ad cy ss ds ti co oma obr obj obo obm plo pch pbe pbl dnu dde dbo dln dld tba tal tro tsc tcl rma_2) H := cPost_P ht hB
  have hD : va_D A (wC ad cy ss ds ti co oma obr obj obo obm plo pch pbe pbl dnu dde dbo dln dld tba tal tro tsc tcl rma_2) := cPost_D hFc hB
  refine lv_pop hx hb dX4_make_8 rfl ?_
  exact hret rma_2 H locs ls 9 dX4_make_9 ⟨hP, hD, hS⟩ hm

set_option maxHeartbeats 4000000 in
set_option maxRecDepth 100000 in
theorem c_X4_make (l : Launch) (dC : Nat → ClassId) (dI : Nat → Nat → Nat) (cy : Nat → ClassId) (ad : Nat → Nat) (sz : Nat) (ss : Int32) (ds : Int32) (ti : Nat → Int32) (co : Int32) (oma : Nat → Int32) (obr : Int32) (obj : Int32) (obo : Int32) (obm : Int32) (plo : Nat → Int32) (pch : Nat → Int32) (pbe : Nat → Int32) (pbl : Int32) (dnu : Nat → Int32) (dde : Nat → Int32) (dbo : Int32) (dln : Int32) (dld : Int32) (tba : Nat → Int32) (tal : Nat → Int32) (tro : Int32) (tsc : Int64) (tcl : Nat → Nat → Int64) (rma : Nat → Int32)  (N : Nat) (Q : (Nat → Int32) → Prop) (hm : p_X4_make N co dnu dde Q rma) : Met l yX4_make wsX4_make rmX4_make (va_Pc [.ref (ad 16), .ref (ad 1), .ref (ad 9)] (cPre dC dI cy (wC ad cy ss ds ti co oma obr obj obo obm plo pch pbe pbl dnu dde dbo dln dld tba tal tro tsc tcl rma) sz)) (va_Qv (fun (u : (Nat → Int32)) => Q u) (fun u t => cPost dC dI cy (wC ad cy ss ds ti co oma obr obj obo obm plo pch pbe pbl dnu dde dbo dln dld tba tal tro tsc tcl rma) sz (wC ad cy ss ds ti co oma obr obj obo obm plo pch pbe pbl dnu dde dbo dln dld tba tal tro tsc tcl u) t) (va_A (wC ad cy ss ds ti co oma obr obj obo obm plo pch pbe pbl dnu dde dbo dln dld tba tal tro tsc tcl rma) sz)) 0 0 (va_A (wC ad cy ss ds ti co oma obr obj obo obm plo pch pbe pbl dnu dde dbo dln dld tba tal tro tsc tcl rma) sz) := by
  refine Met.ofW (cc := cX4_make) (maxL := 3) (ret := none) (by decide) rfl ?_
  intro p e s m args below meth c s₁ B hml hv
  obtain ⟨rfl, hsz, hP, hK, hD0, hN⟩ := hv
  have hts := atoms_spec (ws := wsX4_make) B.pre
  have hown : s.vm.findClass RX4 = some m.cls := findClass_of_methodNamed B.named
  subst hsz
  have hD := hD0.self (sz := s.heap.size)
  generalize hAe : va_A (wC ad cy ss ds ti co oma obr obj obo obm plo pch pbe pbl dnu dde dbo dln dld tba tal tro tsc tcl rma) s.heap.size = A at hD ⊢
  have hA : ∀ q : Nat, s.heap.size ≤ q → A q := fun q h => by rw [← hAe]; exact Or.inr h
  have hl := lv_entry ([.ref (ad 16), .ref (ad 1), .ref (ad 9)]) (n := 3) (Nat.le_of_ble_eq_true rfl)
  rw [lg_entry_eq]
  generalize (lg_sl ([.ref (ad 16), .ref (ad 1), .ref (ad 9)]) ++ List.replicate (3 - (lg_sl ([.ref (ad 16), .ref (ad 1), .ref (ad 9)])).length) Slot.unset).toArray = ls at hl ⊢
  have hl : lv_has ls 3 [(0, .ref (ad 16)), (1, .ref (ad 1)), (2, .ref (ad 9))] := hl
  exact k_X4_make_0 ⟨B.exec, B.bytes, hml, B.returns, hown, hts, B.notSynchronized, hK, hA, hN⟩ rma s.heap [] ls hm ⟨hP, hD, va_S.rf⟩ (lv_sub hl [0, 1, 2] rfl) (fun rma H locs ls pc hdg hSt hq => W.vret B.exec B.bytes B.returns (fun t ht hW => ⟨⟨(rma), rfl, hq, cPost_of hAe ht hW.alike hSt hK⟩, hSt.2.2.F ht⟩) hSt.2.2.2.2 hdg B.notSynchronized)
