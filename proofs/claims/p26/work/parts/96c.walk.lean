variable {p : Program} {l : Launch} {e : Env} {s : State} {m : MethodId} {args : Array Value} {below : List Frame} {meth : Method} {c : Code} {dC : Nat → ClassId} {dI : Nat → Nat → Nat} {cy : Nat → ClassId} {ad : Nat → Nat} {A : Nat → Prop} {Z : State → Prop} {b cq sq : Nat}

-- ===== L_common
abbrev rmL_common : Room := { frames := 1, cells := 0, slots := 0, locals := 70 }
def p_L_common_6 (N : Nat) (nj : Nat) (ti : Nat → Int32) (g : Nat → Nat) (Q : Int64 → Prop) : Nat → Int64 → Int64 → Prop
  | 0 => fun _ _ => False
  | n + 1 => fun x4 x6 => (x6 = (0 : Int64) → (((1 : Int64) ≤ x4 → (Q x4)) ∧ (¬ (1 : Int64) ≤ x4 → (Q (1 : Int64))))) ∧ (¬ x6 = (0 : Int64) → ((¬ x6 = 0) ∧ (∀ x8_4 : Int64, x8_4 = x4 - x4 / x6 * x6 → (p_L_common_6 N nj ti g Q n x6 x8_4))))

def p_L_common (N : Nat) (nj : Nat) (ti : Nat → Int32) (g : Nat → Nat) (Q : Int64 → Prop) (x0 : Int64) (x2 : Int64) : Prop :=
  p_L_common_6 N nj ti g Q N x0 x2

set_option maxHeartbeats 4000000 in
set_option maxRecDepth 100000 in
theorem k_L_common_6 {N : Nat} {nj : Nat} {ti : Nat → Int32} {g : Nat → Nat} {Q : Int64 → Prop} (C0 : cxM cL_common 10 (some .long) RL wsL_common p s m args meth c dC dI cy A) :
    ∀ (n : Nat) (x4 : Int64) (x6 : Int64) (H : Heap) (locs : List Loc) (ls : Array Slot) (hm : p_L_common_6 N nj ti g Q n x4 x6) (hSt : stG dC dI cy ad A s nj ti g H locs) (hl : lv_has ls 10 [(4, .long x4), (6, .long x6)]) (hret : ∀ (r : Int64) (H : Heap) (locs : List Loc) (ls : Array Slot) (pc : Nat), decode cL_common pc = .ok (.lreturn, 1) → stG dC dI cy ad A s nj ti g H locs → Q r → W p l e rmL_common s m args below meth c H locs 0 0 Z (F0 m pc ls [.long r])), W p l e rmL_common s m args below meth c H locs 0 0 Z (F0 m 6 ls []) := by
  obtain ⟨hx, hb, hml, hr, hown, hts, hlocks, hK, hA, hN⟩ := id C0
  intro n
  induction n with
  | zero => intro x4 x6 H locs ls hm; exact False.elim hm
  | succ n ih =>
    intro x4 x6 H locs ls hm hSt hl hret
    skip
    unfold p_L_common_6 at hm
    refine lv_lload hx hb dL_common_6 (lv_at hl 1 rfl) ?_
    refine lv_lconst (v := 0) hx hb dL_common_8 (by decide) ?_
    refine lq_eq (tgt := 31) hx hb dL_common_9 dL_common_10 (by decide) (fun c_1 => ?_) (fun c_1 => ?_)
    · have hm := hm.1 c_1
      refine lv_lload hx hb dL_common_31 (lv_at hl 0 rfl) ?_
      refine lv_lconst (v := 1) hx hb dL_common_33 (by decide) ?_
      refine lq_ge (tgt := 42) hx hb dL_common_34 dL_common_35 (by decide) (fun c_2 => ?_) (fun c_2 => ?_)
      · have hm := hm.1 c_2
        refine lv_lload hx hb dL_common_42 (lv_at hl 0 rfl) ?_
        exact hret x4 H locs ls 44 dL_common_44 hSt hm
      · have hm := hm.2 c_2
        refine lv_lconst (v := 1) hx hb dL_common_38 (by decide) ?_
        refine lv_goto (tgt := 44) hx hb dL_common_39 (by decide) ?_
        exact hret (1 : Int64) H locs ls 44 dL_common_44 hSt hm
    · have hm := hm.2 c_1
      refine lv_lload hx hb dL_common_13 (lv_at hl 0 rfl) ?_
      refine lv_lload hx hb dL_common_15 (lv_at hl 1 rfl) ?_
      have hz_3 := hm.1
      have hm := hm.2
      refine lv_lrem hx hb dL_common_17 hz_3 ?_
      refine lv_topl (fun x8_4 ex8_4 => ?_)
      have hm := hm x8_4 ex8_4
      refine lv_lstore (lv' := [(8, .long x8_4), (4, .long x4), (6, .long x6)]) hx hb dL_common_18 hl (by decide) rfl (fun ls hl => ?_)
      refine lv_lload hx hb dL_common_20 (lv_at hl 2 rfl) ?_
      refine lv_lstore (lv' := [(4, .long x6), (8, .long x8_4), (6, .long x6)]) hx hb dL_common_22 hl (by decide) rfl (fun ls hl => ?_)
      refine lv_lload hx hb dL_common_24 (lv_at hl 1 rfl) ?_
      refine lv_lstore (lv' := [(6, .long x8_4), (4, .long x6), (8, .long x8_4)]) hx hb dL_common_26 hl (by decide) rfl (fun ls hl => ?_)
      refine lv_goto (tgt := 6) hx hb dL_common_28 (by decide) ?_
      exact ih x6 x8_4 H locs ls hm hSt (lv_sub hl [1, 0] rfl) hret

set_option maxHeartbeats 4000000 in
set_option maxRecDepth 100000 in
theorem k_L_common_0 {N : Nat} {nj : Nat} {ti : Nat → Int32} {g : Nat → Nat} {Q : Int64 → Prop} (C0 : cxM cL_common 10 (some .long) RL wsL_common p s m args meth c dC dI cy A) :
    ∀ (x0 : Int64) (x2 : Int64) (H : Heap) (locs : List Loc) (ls : Array Slot) (hm : p_L_common N nj ti g Q x0 x2) (hSt : stG dC dI cy ad A s nj ti g H locs) (hl : lv_has ls 10 [(0, .long x0), (2, .long x2)]) (hret : ∀ (r : Int64) (H : Heap) (locs : List Loc) (ls : Array Slot) (pc : Nat), decode cL_common pc = .ok (.lreturn, 1) → stG dC dI cy ad A s nj ti g H locs → Q r → W p l e rmL_common s m args below meth c H locs 0 0 Z (F0 m pc ls [.long r])), W p l e rmL_common s m args below meth c H locs 0 0 Z (F0 m 0 ls []) := by
  obtain ⟨hx, hb, hml, hr, hown, hts, hlocks, hK, hA, hN⟩ := id C0
  intro x0 x2 H locs ls hm hSt hl hret
  skip
  unfold p_L_common at hm
  refine lv_lload_n hx hb dL_common_0 rfl (lv_at hl 0 rfl) ?_
  refine lv_lstore (lv' := [(4, .long x0), (0, .long x0), (2, .long x2)]) hx hb dL_common_1 hl (by decide) rfl (fun ls hl => ?_)
  refine lv_lload_n hx hb dL_common_3 rfl (lv_at hl 2 rfl) ?_
  refine lv_lstore (lv' := [(6, .long x2), (4, .long x0), (0, .long x0), (2, .long x2)]) hx hb dL_common_4 hl (by decide) rfl (fun ls hl => ?_)
  exact k_L_common_6 C0 N x0 x2 H locs ls hm hSt (lv_sub hl [1, 0] rfl) hret

set_option maxHeartbeats 4000000 in
set_option maxRecDepth 100000 in
theorem c_L_common (l : Launch) (dC : Nat → ClassId) (dI : Nat → Nat → Nat) (cy : Nat → ClassId) (ad : Nat → Nat) (sz : Nat) (w : va_W) (n : Nat) (ti : Nat → Int32) (g : Nat → Nat) (x0 : Int64) (x2 : Int64) (hWG : WG ad cy n ti g w) (N : Nat) (Q : Int64 → Prop) (hm : p_L_common N n ti g Q x0 x2) : Met l yL_common wsL_common rmL_common (va_Pc [.long x0, .long x2] (cPre dC dI cy w sz)) (va_Ql (fun (r : Int64) (u : va_W) => Q r ∧ WG ad cy n ti g u) (fun u t => cPost dC dI cy w sz u t) (va_A w sz)) 0 0 (va_A w sz) := by
  refine Met.ofW (cc := cL_common) (maxL := 10) (ret := (some .long)) (by decide) rfl ?_
  intro p e s m args below meth c s₁ B hml hv
  obtain ⟨rfl, hsz, hP, hK, hD0, hN⟩ := hv
  have hts := atoms_spec (ws := wsL_common) B.pre
  have hown : s.vm.findClass RL = some m.cls := findClass_of_methodNamed B.named
  subst hsz
  have hD := hD0.self (sz := s.heap.size)
  generalize hAe : va_A w s.heap.size = A at hD ⊢
  have hA : ∀ q : Nat, s.heap.size ≤ q → A q := fun q h => by rw [← hAe]; exact Or.inr h
  have hl := lv_entry ([.long x0, .long x2]) (n := 10) (Nat.le_of_ble_eq_true rfl)
  rw [lg_entry_eq]
  generalize (lg_sl ([.long x0, .long x2]) ++ List.replicate (10 - (lg_sl ([.long x0, .long x2])).length) Slot.unset).toArray = ls at hl ⊢
  have hl : lv_has ls 10 [(0, .long x0), (2, .long x2)] := hl
  exact k_L_common_0 ⟨B.exec, B.bytes, hml, B.returns, hown, hts, B.notSynchronized, hK, hA, hN⟩ x0 x2 s.heap [] ls hm ⟨w, ⟨hP, hD, va_S.rf⟩, hWG⟩ (lv_sub hl [0, 1] rfl) (fun r H locs ls pc hdg hSt hq => by
    obtain ⟨u, hSu, hWu⟩ := hSt
    exact W.lret B.exec B.bytes B.returns (fun t ht hW => ⟨⟨r, u, rfl, ⟨hq, hWu⟩, cPost_of hAe ht hW.alike hSu hK⟩, hSu.2.2.F ht⟩) hSu.2.2.2.2 hdg B.notSynchronized)

-- ===== L_isWithin
abbrev rmL_isWithin : Room := { frames := 45, cells := 0, slots := 0, locals := 4418 }
def p_L_isWithin_8 (N : Nat) (nj : Nat) (ti : Nat → Int32) (g : Nat → Nat) (Q : Int32 → Prop) : Nat → Int32 → Int32 → Int64 → Int64 → Int32 → Prop
  | 0 => fun _ _ _ _ _ => False
  | n + 1 => fun x1 x2 x3 x5 x7 => ∀ r_1 : Int32, r_1 = nI nj → ((r_1 ≤ x7 → (((((x2).toInt64) * x5) < x3 → (Q (0 : Int32))) ∧ (¬ (((x2).toInt64) * x5) < x3 → (Q (1 : Int32))))) ∧ (¬ r_1 ≤ x7 → (jOK nj x7 ∧ (jOK 3 x1 ∧ (∀ r_4 : Int32, r_4 = nI ((sH nj ti).1 (3 * (x7).toNatClampNeg + (x1).toNatClampNeg)) ∧ DF nj ti → (∀ x8_5 : Int64, x8_5 = (r_4).toInt64 → (jOK nj x7 ∧ (jOK 3 x1 ∧ (∀ r_6 : Int32, r_6 = nI ((sH nj ti).2 (3 * (x7).toNatClampNeg + (x1).toNatClampNeg)) ∧ DF nj ti → (∀ x10_7 : Int64, x10_7 = (r_6).toInt64 → (jOK nj x7 ∧ (jOK 3 x1 ∧ (∀ r_8 : Int32, r_8 = ti (3 * (x7).toNatClampNeg + (x1).toNatClampNeg) → (∀ x12_9 : Int64, x12_9 = (x3 * x10_7) + ((x8_5 * ((r_8).toInt64)) * x5) → (p_L_common N nj ti g (fun r_10 => (¬ r_10 = 0) ∧ (∀ x3_12 : Int64, x3_12 = x12_9 / r_10 → ((¬ r_10 = 0) ∧ (∀ x5_14 : Int64, x5_14 = (x5 * x10_7) / r_10 → (∀ x7_15 : Int32, x7_15 = x7 + (1 : Int32) → (p_L_isWithin_8 N nj ti g Q n x1 x2 x3_12 x5_14 x7_15)))))) x12_9 (x5 * x10_7))))))))))))))))

def p_L_isWithin (N : Nat) (nj : Nat) (ti : Nat → Int32) (g : Nat → Nat) (Q : Int32 → Prop) (x1 : Int32) (x2 : Int32) : Prop :=
  p_L_isWithin_8 N nj ti g Q N x1 x2 (0 : Int64) (1 : Int64) (0 : Int32)

set_option maxHeartbeats 4000000 in
set_option maxRecDepth 100000 in
theorem k_L_isWithin_8 {N : Nat} {nj : Nat} {ti : Nat → Int32} {g : Nat → Nat} {Q : Int32 → Prop} (C0 : cxM cL_isWithin 16 (some .boolean) RL wsL_isWithin p s m args meth c dC dI cy A) :
    ∀ (n : Nat) (x1 : Int32) (x2 : Int32) (x3 : Int64) (x5 : Int64) (x7 : Int32) (H : Heap) (locs : List Loc) (ls : Array Slot) (hm : p_L_isWithin_8 N nj ti g Q n x1 x2 x3 x5 x7) (hSt : stG dC dI cy ad A s nj ti g H locs) (hl : lv_has ls 16 [(0, .ref (ad 0)), (1, .int x1), (2, .int x2), (3, .long x3), (5, .long x5), (7, .int x7)]) (hret : ∀ (r : Int32) (H : Heap) (locs : List Loc) (ls : Array Slot) (pc : Nat), decode cL_isWithin pc = .ok (.ireturn, 1) → narrow .boolean (.int r) = .int r → stG dC dI cy ad A s nj ti g H locs → Q r → W p l e rmL_isWithin s m args below meth c H locs 0 0 Z (F0 m pc ls [.int r])), W p l e rmL_isWithin s m args below meth c H locs 0 0 Z (F0 m 8 ls []) := by
  obtain ⟨hx, hb, hml, hr, hown, hts, hlocks, hK, hA, hN⟩ := id C0
  intro n
  induction n with
  | zero => intro x1 x2 x3 x5 x7 H locs ls hm; exact False.elim hm
  | succ n ih =>
    intro x1 x2 x3 x5 x7 H locs ls hm hSt hl hret
    skip
    unfold p_L_isWithin_8 at hm
    refine lv_iload hx hb dL_isWithin_8 (lv_at hl 5 rfl) ?_
    refine lv_aload_n hx hb dL_isWithin_10 rfl (lv_at hl 0 rfl) ?_
    obtain ⟨w0, ⟨hP, hD, hS⟩, hW0⟩ := hSt
    have hFc := va_freeSame hD hS hA
    refine va_calli (va_runV (As := []) (rest := [.int x7]) ⟨hx, hb, hml, hown, hts⟩ (q_X6_jobs l dC dI cy ad H.size w0 nj ti g hW0 ) (cwV 0 hts gL_isWithin_X6_jobs rfl rfl rfl (by decide +kernel) ⟨Nat.le_of_ble_eq_true rfl, Nat.le_of_ble_eq_true rfl⟩) ⟨cPre_blind, va_recv hK hP (ci := 6) (q0 := 0) rfl hW0.recv.choose_spec, fun U hU hW => ⟨rfl, cPre_at hP hK hD hN hU hW⟩⟩ rfl rfl hl.1 rfl (lv_room (Nat.le_of_ble_eq_true rfl)) dL_isWithin_11 ⟨Nat.zero_le _, Nat.zero_le _⟩) hS (fun q _ h => hFc q h) hFc (fun r_1 u t H locs ht hvm hw hB hz1 hk1 hS => ?_)
    obtain ⟨hr, hWu⟩ := hw
    have hm := hm r_1 hr
    have hSt : stG dC dI cy ad A s nj ti g H locs := ⟨u, ⟨cPost_P ht hB, cPost_D hFc hB, hS⟩, hWu⟩
    refine lv_icmp_ge (tgt := 92) hx hb dL_isWithin_14 (by decide) (fun c_2 => ?_) (fun c_2 => ?_)
    · have hm := hm.1 c_2
      refine lv_lload_n hx hb dL_isWithin_92 rfl (lv_at hl 3 rfl) ?_
      refine lv_iload_n hx hb dL_isWithin_93 rfl (lv_at hl 2 rfl) ?_
      refine lv_i2l (v := (x2).toInt64) hx hb dL_isWithin_94 rfl ?_
      refine lv_lload hx hb dL_isWithin_95 (lv_at hl 4 rfl) ?_
      refine lv_lmul hx hb dL_isWithin_97 ?_
      refine lq_gt (tgt := 106) hx hb dL_isWithin_98 dL_isWithin_99 (by decide) (fun c_3 => ?_) (fun c_3 => ?_)
      · have hm := hm.1 c_3
        refine lv_iconst (v := 0) hx hb dL_isWithin_106 (by decide) ?_
        exact hret (0 : Int32) H locs ls 107 dL_isWithin_107 rfl hSt hm
      · have hm := hm.2 c_3
        refine lv_iconst (v := 1) hx hb dL_isWithin_102 (by decide) ?_
        refine lv_goto (tgt := 107) hx hb dL_isWithin_103 (by decide) ?_
        exact hret (1 : Int32) H locs ls 107 dL_isWithin_107 rfl hSt hm
    · have hm := hm.2 c_2
      refine lv_aload_n hx hb dL_isWithin_17 rfl (lv_at hl 0 rfl) ?_
      refine lv_iload hx hb dL_isWithin_18 (lv_at hl 5 rfl) ?_
      refine lv_iload_n hx hb dL_isWithin_20 rfl (lv_at hl 1 rfl) ?_
      have ha0 := hm.1
      have hm := hm.2
      have ha1 := hm.1
      have hm := hm.2
      obtain ⟨w0, ⟨hP, hD, hS⟩, hW0⟩ := hSt
      have hFc := va_freeSame hD hS hA
      refine va_calli (vx_runSW (As := [.ref (ad 0), .int x7, .int x1]) (rest := []) ⟨hx, hb, hml, hown, hts⟩ (q_L_numerator l dC dI cy ad H.size w0 nj ti g x7 x1 hW0 ha0 ha1) (vx_cwSW 3 hts gL_isWithin_L_numerator rfl rfl rfl (by decide +kernel) ⟨Nat.le_of_ble_eq_true rfl, Nat.le_of_ble_eq_true rfl⟩) ⟨cPre_blind, fun U hU hW => ⟨rfl, cPre_at hP hK hD hN hU hW⟩⟩ rfl rfl hl.1 rfl (lv_room (Nat.le_of_ble_eq_true rfl)) dL_isWithin_21 ⟨Nat.zero_le _, Nat.zero_le _⟩) hS (fun q _ h => hFc q h) hFc (fun r_4 u t H locs ht hvm hw hB hz1 hk1 hS => ?_)
      obtain ⟨hr, hWu⟩ := hw
      have hm := hm r_4 hr
      have hSt : stG dC dI cy ad A s nj ti g H locs := ⟨u, ⟨cPost_P ht hB, cPost_D hFc hB, hS⟩, hWu⟩
      refine lv_i2l (v := (r_4).toInt64) hx hb dL_isWithin_24 rfl ?_
      refine lv_topl (fun x8_5 ex8_5 => ?_)
      have hm := hm x8_5 ex8_5
      refine lv_lstore (lv' := [(8, .long x8_5), (0, .ref (ad 0)), (1, .int x1), (2, .int x2), (3, .long x3), (5, .long x5), (7, .int x7)]) hx hb dL_isWithin_25 hl (by decide) rfl (fun ls hl => ?_)
      refine lv_aload_n hx hb dL_isWithin_27 rfl (lv_at hl 1 rfl) ?_
      refine lv_iload hx hb dL_isWithin_28 (lv_at hl 6 rfl) ?_
      refine lv_iload_n hx hb dL_isWithin_30 rfl (lv_at hl 2 rfl) ?_
      have ha0 := hm.1
      have hm := hm.2
      have ha1 := hm.1
      have hm := hm.2
      obtain ⟨w0, ⟨hP, hD, hS⟩, hW0⟩ := hSt
      have hFc := va_freeSame hD hS hA
      refine va_calli (vx_runSW (As := [.ref (ad 0), .int x7, .int x1]) (rest := []) ⟨hx, hb, hml, hown, hts⟩ (q_L_denominator l dC dI cy ad H.size w0 nj ti g x7 x1 hW0 ha0 ha1) (vx_cwSW 3 hts gL_isWithin_L_denominator rfl rfl rfl (by decide +kernel) ⟨Nat.le_of_ble_eq_true rfl, Nat.le_of_ble_eq_true rfl⟩) ⟨cPre_blind, fun U hU hW => ⟨rfl, cPre_at hP hK hD hN hU hW⟩⟩ rfl rfl hl.1 rfl (lv_room (Nat.le_of_ble_eq_true rfl)) dL_isWithin_31 ⟨Nat.zero_le _, Nat.zero_le _⟩) hS (fun q _ h => hFc q h) hFc (fun r_6 u t H locs ht hvm hw hB hz1 hk1 hS => ?_)
      obtain ⟨hr, hWu⟩ := hw
      have hm := hm r_6 hr
      have hSt : stG dC dI cy ad A s nj ti g H locs := ⟨u, ⟨cPost_P ht hB, cPost_D hFc hB, hS⟩, hWu⟩
      refine lv_i2l (v := (r_6).toInt64) hx hb dL_isWithin_34 rfl ?_
      refine lv_topl (fun x10_7 ex10_7 => ?_)
      have hm := hm x10_7 ex10_7
      refine lv_lstore (lv' := [(10, .long x10_7), (8, .long x8_5), (0, .ref (ad 0)), (1, .int x1), (2, .int x2), (3, .long x3), (5, .long x5), (7, .int x7)]) hx hb dL_isWithin_35 hl (by decide) rfl (fun ls hl => ?_)
      refine lv_lload_n hx hb dL_isWithin_37 rfl (lv_at hl 5 rfl) ?_
      refine lv_lload hx hb dL_isWithin_38 (lv_at hl 0 rfl) ?_
      refine lv_lmul hx hb dL_isWithin_40 ?_
      refine lv_lload hx hb dL_isWithin_41 (lv_at hl 1 rfl) ?_
      refine lv_aload_n hx hb dL_isWithin_43 rfl (lv_at hl 2 rfl) ?_
      refine lv_iload hx hb dL_isWithin_44 (lv_at hl 7 rfl) ?_
      refine lv_iload_n hx hb dL_isWithin_46 rfl (lv_at hl 3 rfl) ?_
      have ha0 := hm.1
      have hm := hm.2
      have ha1 := hm.1
      have hm := hm.2
      obtain ⟨w0, ⟨hP, hD, hS⟩, hW0⟩ := hSt
      have hFc := va_freeSame hD hS hA
      refine va_calli (vx_runSW (As := [.ref (ad 0), .int x7, .int x1]) (rest := [.long x8_5, .long (x3 * x10_7)]) ⟨hx, hb, hml, hown, hts⟩ (q_L_time l dC dI cy ad H.size w0 nj ti g x7 x1 hW0 ha0 ha1) (vx_cwSW 3 hts gL_isWithin_L_time rfl rfl rfl (by decide +kernel) ⟨Nat.le_of_ble_eq_true rfl, Nat.le_of_ble_eq_true rfl⟩) ⟨cPre_blind, fun U hU hW => ⟨rfl, cPre_at hP hK hD hN hU hW⟩⟩ rfl rfl hl.1 rfl (lv_room (Nat.le_of_ble_eq_true rfl)) dL_isWithin_47 ⟨Nat.zero_le _, Nat.zero_le _⟩) hS (fun q _ h => hFc q h) hFc (fun r_8 u t H locs ht hvm hw hB hz1 hk1 hS => ?_)
      obtain ⟨hr, hWu⟩ := hw
      have hm := hm r_8 hr
      have hSt : stG dC dI cy ad A s nj ti g H locs := ⟨u, ⟨cPost_P ht hB, cPost_D hFc hB, hS⟩, hWu⟩
      refine lv_i2l (v := (r_8).toInt64) hx hb dL_isWithin_50 rfl ?_
      refine lv_lmul hx hb dL_isWithin_51 ?_
      refine lv_lload hx hb dL_isWithin_52 (lv_at hl 6 rfl) ?_
      refine lv_lmul hx hb dL_isWithin_54 ?_
      refine lv_ladd hx hb dL_isWithin_55 ?_
      refine lv_topl (fun x12_9 ex12_9 => ?_)
      have hm := hm x12_9 ex12_9
      refine lv_lstore (lv' := [(12, .long x12_9), (10, .long x10_7), (8, .long x8_5), (0, .ref (ad 0)), (1, .int x1), (2, .int x2), (3, .long x3), (5, .long x5), (7, .int x7)]) hx hb dL_isWithin_56 hl (by decide) rfl (fun ls hl => ?_)
      refine lv_lload hx hb dL_isWithin_58 (lv_at hl 0 rfl) ?_
      refine lv_lload hx hb dL_isWithin_60 (lv_at hl 7 rfl) ?_
      refine lv_lload hx hb dL_isWithin_62 (lv_at hl 1 rfl) ?_
      refine lv_lmul hx hb dL_isWithin_64 ?_
      obtain ⟨w0, ⟨hP, hD, hS⟩, hW0⟩ := hSt
      have hFc := va_freeSame hD hS hA
      refine va_calll (va_runS (As := [.long x12_9, .long (x5 * x10_7)]) (rest := []) ⟨hx, hb, hml, hown, hts⟩ (c_L_common l dC dI cy ad H.size w0 nj ti g x12_9 (x5 * x10_7) hW0 _ _ hm) (cwS 2 hts gL_isWithin_L_common rfl rfl rfl (by decide +kernel) ⟨Nat.le_of_ble_eq_true rfl, Nat.le_of_ble_eq_true rfl⟩) ⟨cPre_blind, fun U hU hW => ⟨rfl, cPre_at hP hK hD hN hU hW⟩⟩ rfl rfl hl.1 rfl (lv_room (Nat.le_of_ble_eq_true rfl)) dL_isWithin_65 ⟨Nat.zero_le _, Nat.zero_le _⟩) hS (fun q _ h => hFc q h) hFc (fun r_10 u t H locs ht hvm hw hB hz1 hk1 hS => ?_)
      obtain ⟨hm, hWu⟩ := hw
      have hSt : stG dC dI cy ad A s nj ti g H locs := ⟨u, ⟨cPost_P ht hB, cPost_D hFc hB, hS⟩, hWu⟩
      refine lv_lstore (lv' := [(14, .long r_10), (12, .long x12_9), (10, .long x10_7), (8, .long x8_5), (0, .ref (ad 0)), (1, .int x1), (2, .int x2), (3, .long x3), (5, .long x5), (7, .int x7)]) hx hb dL_isWithin_68 hl (by decide) rfl (fun ls hl => ?_)
      refine lv_lload hx hb dL_isWithin_70 (lv_at hl 1 rfl) ?_
      refine lv_lload hx hb dL_isWithin_72 (lv_at hl 0 rfl) ?_
      have hz_11 := hm.1
      have hm := hm.2
      refine lv_ldiv hx hb dL_isWithin_74 hz_11 ?_
      refine lv_topl (fun x3_12 ex3_12 => ?_)
      have hm := hm x3_12 ex3_12
      refine lv_lstore_n (lv' := [(3, .long x3_12), (14, .long r_10), (12, .long x12_9), (10, .long x10_7), (8, .long x8_5), (0, .ref (ad 0)), (1, .int x1), (2, .int x2), (5, .long x5), (7, .int x7)]) hx hb dL_isWithin_75 rfl hl (by decide) rfl (fun ls hl => ?_)
      refine lv_lload hx hb dL_isWithin_76 (lv_at hl 8 rfl) ?_
      refine lv_lload hx hb dL_isWithin_78 (lv_at hl 3 rfl) ?_
      refine lv_lmul hx hb dL_isWithin_80 ?_
      refine lv_lload hx hb dL_isWithin_81 (lv_at hl 1 rfl) ?_
      have hz_13 := hm.1
      have hm := hm.2
      refine lv_ldiv hx hb dL_isWithin_83 hz_13 ?_
      refine lv_topl (fun x5_14 ex5_14 => ?_)
      have hm := hm x5_14 ex5_14
      refine lv_lstore (lv' := [(5, .long x5_14), (3, .long x3_12), (14, .long r_10), (12, .long x12_9), (10, .long x10_7), (8, .long x8_5), (0, .ref (ad 0)), (1, .int x1), (2, .int x2), (7, .int x7)]) hx hb dL_isWithin_84 hl (by decide) rfl (fun ls hl => ?_)
      obtain ⟨x7_15, ex7_15⟩ : ∃ y : Int32, y = x7 + (1 : Int32) := ⟨_, rfl⟩
      have hm := hm x7_15 ex7_15
      refine lv_iinc (v := x7_15) (lv' := [(7, .int x7_15), (5, .long x5_14), (3, .long x3_12), (14, .long r_10), (12, .long x12_9), (10, .long x10_7), (8, .long x8_5), (0, .ref (ad 0)), (1, .int x1), (2, .int x2)]) hx hb dL_isWithin_86 hl (k := 9) rfl (by rw [ex7_15]; rfl) (by decide) rfl (fun ls hl => ?_)
      refine lv_goto (tgt := 8) hx hb dL_isWithin_89 (by decide) ?_
      exact ih x1 x2 x3_12 x5_14 x7_15 H locs ls hm hSt (lv_sub hl [7, 8, 9, 2, 1, 0] rfl) hret

set_option maxHeartbeats 4000000 in
set_option maxRecDepth 100000 in
theorem k_L_isWithin_0 {N : Nat} {nj : Nat} {ti : Nat → Int32} {g : Nat → Nat} {Q : Int32 → Prop} (C0 : cxM cL_isWithin 16 (some .boolean) RL wsL_isWithin p s m args meth c dC dI cy A) :
    ∀ (x1 : Int32) (x2 : Int32) (H : Heap) (locs : List Loc) (ls : Array Slot) (hm : p_L_isWithin N nj ti g Q x1 x2) (hSt : stG dC dI cy ad A s nj ti g H locs) (hl : lv_has ls 16 [(0, .ref (ad 0)), (1, .int x1), (2, .int x2)]) (hret : ∀ (r : Int32) (H : Heap) (locs : List Loc) (ls : Array Slot) (pc : Nat), decode cL_isWithin pc = .ok (.ireturn, 1) → narrow .boolean (.int r) = .int r → stG dC dI cy ad A s nj ti g H locs → Q r → W p l e rmL_isWithin s m args below meth c H locs 0 0 Z (F0 m pc ls [.int r])), W p l e rmL_isWithin s m args below meth c H locs 0 0 Z (F0 m 0 ls []) := by
  obtain ⟨hx, hb, hml, hr, hown, hts, hlocks, hK, hA, hN⟩ := id C0
  intro x1 x2 H locs ls hm hSt hl hret
  skip
  unfold p_L_isWithin at hm
  refine lv_lconst (v := 0) hx hb dL_isWithin_0 (by decide) ?_
  refine lv_lstore_n (lv' := [(3, .long (0 : Int64)), (0, .ref (ad 0)), (1, .int x1), (2, .int x2)]) hx hb dL_isWithin_1 rfl hl (by decide) rfl (fun ls hl => ?_)
  refine lv_lconst (v := 1) hx hb dL_isWithin_2 (by decide) ?_
  refine lv_lstore (lv' := [(5, .long (1 : Int64)), (3, .long (0 : Int64)), (0, .ref (ad 0)), (1, .int x1), (2, .int x2)]) hx hb dL_isWithin_3 hl (by decide) rfl (fun ls hl => ?_)
  refine lv_iconst (v := 0) hx hb dL_isWithin_5 (by decide) ?_
  refine lv_istore (lv' := [(7, .int (0 : Int32)), (5, .long (1 : Int64)), (3, .long (0 : Int64)), (0, .ref (ad 0)), (1, .int x1), (2, .int x2)]) hx hb dL_isWithin_6 hl (by decide) rfl (fun ls hl => ?_)
  exact k_L_isWithin_8 C0 N x1 x2 (0 : Int64) (1 : Int64) (0 : Int32) H locs ls hm hSt (lv_sub hl [3, 4, 5, 2, 1, 0] rfl) hret

set_option maxHeartbeats 4000000 in
set_option maxRecDepth 100000 in
theorem c_L_isWithin (l : Launch) (dC : Nat → ClassId) (dI : Nat → Nat → Nat) (cy : Nat → ClassId) (ad : Nat → Nat) (sz : Nat) (w : va_W) (n : Nat) (ti : Nat → Int32) (g : Nat → Nat) (x1 : Int32) (x2 : Int32) (hWG : WG ad cy n ti g w) (N : Nat) (Q : Int32 → Prop) (hm : p_L_isWithin N n ti g Q x1 x2) : Met l yL_isWithin wsL_isWithin rmL_isWithin (va_Pc [.ref (ad 0), .int x1, .int x2] (cPre dC dI cy w sz)) (va_Qi (fun (r : Int32) (u : va_W) => (Q r ∧ narrow .boolean (.int r) = .int r) ∧ WG ad cy n ti g u) (fun u t => cPost dC dI cy w sz u t) (va_A w sz)) 0 0 (va_A w sz) := by
  refine Met.ofW (cc := cL_isWithin) (maxL := 16) (ret := (some .boolean)) (by decide) rfl ?_
  intro p e s m args below meth c s₁ B hml hv
  obtain ⟨rfl, hsz, hP, hK, hD0, hN⟩ := hv
  have hts := atoms_spec (ws := wsL_isWithin) B.pre
  have hown : s.vm.findClass RL = some m.cls := findClass_of_methodNamed B.named
  subst hsz
  have hD := hD0.self (sz := s.heap.size)
  generalize hAe : va_A w s.heap.size = A at hD ⊢
  have hA : ∀ q : Nat, s.heap.size ≤ q → A q := fun q h => by rw [← hAe]; exact Or.inr h
  have hl := lv_entry ([.ref (ad 0), .int x1, .int x2]) (n := 16) (Nat.le_of_ble_eq_true rfl)
  rw [lg_entry_eq]
  generalize (lg_sl ([.ref (ad 0), .int x1, .int x2]) ++ List.replicate (16 - (lg_sl ([.ref (ad 0), .int x1, .int x2])).length) Slot.unset).toArray = ls at hl ⊢
  have hl : lv_has ls 16 [(0, .ref (ad 0)), (1, .int x1), (2, .int x2)] := hl
  exact k_L_isWithin_0 ⟨B.exec, B.bytes, hml, B.returns, hown, hts, B.notSynchronized, hK, hA, hN⟩ x1 x2 s.heap [] ls hm ⟨w, ⟨hP, hD, va_S.rf⟩, hWG⟩ (lv_sub hl [0, 1, 2] rfl) (fun r H locs ls pc hdg hn hSt hq => by
    obtain ⟨u, hSu, hWu⟩ := hSt
    exact W.zret B.exec B.bytes B.returns hn (fun t ht hW => ⟨⟨r, u, rfl, ⟨⟨hq, hn⟩, hWu⟩, cPost_of hAe ht hW.alike hSu hK⟩, hSu.2.2.F ht⟩) hSu.2.2.2.2 hdg B.notSynchronized)

-- ===== L_divides
abbrev rmL_divides : Room := { frames := 46, cells := 0, slots := 0, locals := 4513 }
def p_L_divides_192 (N : Nat) (nj : Nat) (ti : Nat → Int32) (g : Nat → Nat) (Q : Int32 → Prop) (K68 : Int32 → Int32 → Int32 → Int32 → Int32 → Int64 → Int64 → Int32 → Int32 → Prop) (x1 : Int32) (x2 : Int32) (x3 : Int32) (x4 : Int32) (x5 : Int32) (x6 : Int64) (x8 : Int64) (x11 : Int32) (x12 : Int64) (x14 : Int64) (s0 : Int32) : Prop :=
  ∀ x6_1 : Int64, x6_1 = (x6 * x14) + (x12 * x8) → (∀ x8_2 : Int64, x8_2 = x8 * x14 → (∀ x11_3 : Int32, x11_3 = x11 + (1 : Int32) → (K68 x1 x2 x3 x4 x5 x6_1 x8_2 s0 x11_3)))

def p_L_divides_167 (N : Nat) (nj : Nat) (ti : Nat → Int32) (g : Nat → Nat) (Q : Int32 → Prop) (K68 : Int32 → Int32 → Int32 → Int32 → Int32 → Int64 → Int64 → Int32 → Int32 → Prop) (x1 : Int32) (x3 : Int32) (x4 : Int32) (x5 : Int32) (x6 : Int64) (x8 : Int64) (x10 : Int32) (x11 : Int32) (x12 : Int64) (x14 : Int64) (s0 : Int32) : Prop :=
  (x10 = 0 → ((x12 = (1 : Int64) → ((x14 = (1 : Int64) → (p_L_divides_192 N nj ti g Q K68 x1 s0 x3 x4 x5 x6 x8 x11 x12 x14 (1 : Int32))) ∧ (¬ x14 = (1 : Int64) → (p_L_divides_192 N nj ti g Q K68 x1 s0 x3 x4 x5 x6 x8 x11 x12 x14 (0 : Int32))))) ∧ (¬ x12 = (1 : Int64) → (p_L_divides_192 N nj ti g Q K68 x1 s0 x3 x4 x5 x6 x8 x11 x12 x14 (0 : Int32))))) ∧ (¬ x10 = 0 → (p_L_divides_192 N nj ti g Q K68 x1 s0 x3 x4 x5 x6 x8 x11 x12 x14 (1 : Int32)))

def p_L_divides_254 (N : Nat) (nj : Nat) (ti : Nat → Int32) (g : Nat → Nat) (Q : Int32 → Prop) (K303 : Int32 → Int32 → Int32 → Int32 → Int32 → Int32 → Int32 → Prop) (x1 : Int32) (x3 : Int32) (x4 : Int32) (x5 : Int32) (x10 : Int32) (x11 : Int32) (s0 : Int32) : Prop :=
  (s0 = x10 → ((x11 < 0 → (K303 x1 x3 x4 x5 x10 x11 (0 : Int32))) ∧ (¬ x11 < 0 → (((3 : Int32) ≤ x11 → (K303 x1 x3 x4 x5 x10 x11 (0 : Int32))) ∧ (¬ (3 : Int32) ≤ x11 → (jOK nj x5 ∧ (jOK 3 x11 ∧ (∀ r_4 : Int32, r_4 = nI ((sH nj ti).1 (3 * (x5).toNatClampNeg + (x11).toNatClampNeg)) ∧ DF nj ti → ((r_4 ≤ 0 → (K303 x1 x3 x4 x5 x10 x11 (0 : Int32))) ∧ (¬ r_4 ≤ 0 → ((x10 = 0 → (K303 x1 x3 x4 x5 x10 x11 (1 : Int32))) ∧ (¬ x10 = 0 → (jOK nj x5 ∧ (jOK 3 x11 ∧ (∀ r_7 : Int32, r_7 = nI ((sH nj ti).2 (3 * (x5).toNatClampNeg + (x11).toNatClampNeg)) ∧ DF nj ti → ((r_7 = (1 : Int32) → (K303 x1 x3 x4 x5 x10 x11 (1 : Int32))) ∧ (¬ r_7 = (1 : Int32) → (K303 x1 x3 x4 x5 x10 x11 (0 : Int32))))))))))))))))))) ∧ (¬ s0 = x10 → (K303 x1 x3 x4 x5 x10 x11 (0 : Int32)))

def p_L_divides_303 (N : Nat) (nj : Nat) (ti : Nat → Int32) (g : Nat → Nat) (Q : Int32 → Prop) (K43 : Int32 → Int32 → Int32 → Int32 → Int32 → Prop) (x1 : Int32) (x3 : Int32) (x4 : Int32) (x5 : Int32) (x10 : Int32) (x11 : Int32) (s0 : Int32) : Prop :=
  (s0 = 0 → (∀ x5_2 : Int32, x5_2 = x5 + (1 : Int32) → (K43 x1 s0 x3 x4 x5_2))) ∧ (¬ s0 = 0 → ((x10 = 0 → ((((x3 >>> (x11 &&& 31)) &&& (1 : Int32)) = 0 → (∀ x3_9 : Int32, x3_9 = x3 ||| ((1 : Int32) <<< (x11 &&& 31)) → (∀ x4_10 : Int32, x4_10 = x4 + (1 : Int32) → (∀ x5_11 : Int32, x5_11 = x5 + (1 : Int32) → (K43 x1 (1 : Int32) x3_9 x4_10 x5_11))))) ∧ (¬ ((x3 >>> (x11 &&& 31)) &&& (1 : Int32)) = 0 → (∀ x3_6 : Int32, x3_6 = x3 ||| ((1 : Int32) <<< (x11 &&& 31)) → (∀ x4_7 : Int32, x4_7 = x4 + (1 : Int32) → (∀ x5_8 : Int32, x5_8 = x5 + (1 : Int32) → (K43 x1 (0 : Int32) x3_6 x4_7 x5_8))))))) ∧ (¬ x10 = 0 → (∀ x5_4 : Int32, x5_4 = x5 + (1 : Int32) → (K43 x1 s0 x3 x4 x5_4)))))

def p_L_divides_68 (N : Nat) (nj : Nat) (ti : Nat → Int32) (g : Nat → Nat) (Q : Int32 → Prop) (K43 : Int32 → Int32 → Int32 → Int32 → Int32 → Prop) : Nat → Int32 → Int32 → Int32 → Int32 → Int32 → Int64 → Int64 → Int32 → Int32 → Prop
  | 0 => fun _ _ _ _ _ _ _ _ _ => False
  | n + 1 => fun x1 x2 x3 x4 x5 x6 x8 x10 x11 => ((3 : Int32) ≤ x11 → (jOK nj x5 ∧ (∀ r_2 : Int32, r_2 = nI (rD nj ti (x5).toNatClampNeg) ∧ DF nj ti → ((x2 = 0 → (p_L_divides_303 N nj ti g Q K43 x1 x3 x4 x5 x10 r_2 (0 : Int32))) ∧ (¬ x2 = 0 → ((x6 = x8 → (jOK nj x5 ∧ (∀ r_5 : Int32, r_5 = (if wmN (sH nj ti).1 (sH nj ti).2 (x5).toNatClampNeg = 3 then (1 : Int32) else 0) ∧ DF nj ti → ((r_5 = 0 → (p_L_divides_254 N nj ti g Q (fun x1 x3 x4 x5 x10 x11 s0 => p_L_divides_303 N nj ti g Q K43 x1 x3 x4 x5 x10 x11 s0) x1 x3 x4 x5 x10 r_2 (1 : Int32))) ∧ (¬ r_5 = 0 → (p_L_divides_254 N nj ti g Q (fun x1 x3 x4 x5 x10 x11 s0 => p_L_divides_303 N nj ti g Q K43 x1 x3 x4 x5 x10 x11 s0) x1 x3 x4 x5 x10 r_2 (0 : Int32))))))) ∧ (¬ x6 = x8 → (p_L_divides_303 N nj ti g Q K43 x1 x3 x4 x5 x10 r_2 (0 : Int32))))))))) ∧ (¬ (3 : Int32) ≤ x11 → ((x2 = 0 → (jOK nj x5 ∧ (∀ r_8 : Int32, r_8 = nI (rD nj ti (x5).toNatClampNeg) ∧ DF nj ti → ((x2 = 0 → (p_L_divides_303 N nj ti g Q K43 x1 x3 x4 x5 x10 r_8 (0 : Int32))) ∧ (¬ x2 = 0 → ((x6 = x8 → (jOK nj x5 ∧ (∀ r_11 : Int32, r_11 = (if wmN (sH nj ti).1 (sH nj ti).2 (x5).toNatClampNeg = 3 then (1 : Int32) else 0) ∧ DF nj ti → ((r_11 = 0 → (p_L_divides_254 N nj ti g Q (fun x1 x3 x4 x5 x10 x11 s0 => p_L_divides_303 N nj ti g Q K43 x1 x3 x4 x5 x10 x11 s0) x1 x3 x4 x5 x10 r_8 (1 : Int32))) ∧ (¬ r_11 = 0 → (p_L_divides_254 N nj ti g Q (fun x1 x3 x4 x5 x10 x11 s0 => p_L_divides_303 N nj ti g Q K43 x1 x3 x4 x5 x10 x11 s0) x1 x3 x4 x5 x10 r_8 (0 : Int32))))))) ∧ (¬ x6 = x8 → (p_L_divides_303 N nj ti g Q K43 x1 x3 x4 x5 x10 r_8 (0 : Int32))))))))) ∧ (¬ x2 = 0 → (jOK nj x5 ∧ (jOK 3 x11 ∧ (∀ r_13 : Int32, r_13 = nI ((sH nj ti).1 (3 * (x5).toNatClampNeg + (x11).toNatClampNeg)) ∧ DF nj ti → (∀ x12_14 : Int64, x12_14 = (r_13).toInt64 → (jOK nj x5 ∧ (jOK 3 x11 ∧ (∀ r_15 : Int32, r_15 = nI ((sH nj ti).2 (3 * (x5).toNatClampNeg + (x11).toNatClampNeg)) ∧ DF nj ti → (∀ x14_16 : Int64, x14_16 = (r_15).toInt64 → (jOK nj x5 ∧ (jOK 3 x11 ∧ (∀ r_17 : Int32, r_17 = ti (3 * (x5).toNatClampNeg + (x11).toNatClampNeg) → ((x12_14 < (0 : Int64) → (p_L_divides_167 N nj ti g Q (fun x1 x2 x3 x4 x5 x6 x8 x10 x11 => p_L_divides_68 N nj ti g Q K43 n x1 x2 x3 x4 x5 x6 x8 x10 x11) x1 x3 x4 x5 x6 x8 x10 x11 x12_14 x14_16 (0 : Int32))) ∧ (¬ x12_14 < (0 : Int64) → ((x14_16 < (1 : Int64) → (p_L_divides_167 N nj ti g Q (fun x1 x2 x3 x4 x5 x6 x8 x10 x11 => p_L_divides_68 N nj ti g Q K43 n x1 x2 x3 x4 x5 x6 x8 x10 x11) x1 x3 x4 x5 x6 x8 x10 x11 x12_14 x14_16 (0 : Int32))) ∧ (¬ x14_16 < (1 : Int64) → ((x14_16 < x12_14 → (p_L_divides_167 N nj ti g Q (fun x1 x2 x3 x4 x5 x6 x8 x10 x11 => p_L_divides_68 N nj ti g Q K43 n x1 x2 x3 x4 x5 x6 x8 x10 x11) x1 x3 x4 x5 x6 x8 x10 x11 x12_14 x14_16 (0 : Int32))) ∧ (¬ x14_16 < x12_14 → (p_L_common N nj ti g (fun r_21 => (r_21 = (1 : Int64) → ((x12_14 = (0 : Int64) → (p_L_divides_167 N nj ti g Q (fun x1 x2 x3 x4 x5 x6 x8 x10 x11 => p_L_divides_68 N nj ti g Q K43 n x1 x2 x3 x4 x5 x6 x8 x10 x11) x1 x3 x4 x5 x6 x8 x10 x11 x12_14 x14_16 (1 : Int32))) ∧ (¬ x12_14 = (0 : Int64) → ((r_17 ≤ 0 → (p_L_divides_167 N nj ti g Q (fun x1 x2 x3 x4 x5 x6 x8 x10 x11 => p_L_divides_68 N nj ti g Q K43 n x1 x2 x3 x4 x5 x6 x8 x10 x11) x1 x3 x4 x5 x6 x8 x10 x11 x12_14 x14_16 (0 : Int32))) ∧ (¬ r_17 ≤ 0 → ((x1 < r_17 → (p_L_divides_167 N nj ti g Q (fun x1 x2 x3 x4 x5 x6 x8 x10 x11 => p_L_divides_68 N nj ti g Q K43 n x1 x2 x3 x4 x5 x6 x8 x10 x11) x1 x3 x4 x5 x6 x8 x10 x11 x12_14 x14_16 (0 : Int32))) ∧ (¬ x1 < r_17 → (p_L_divides_167 N nj ti g Q (fun x1 x2 x3 x4 x5 x6 x8 x10 x11 => p_L_divides_68 N nj ti g Q K43 n x1 x2 x3 x4 x5 x6 x8 x10 x11) x1 x3 x4 x5 x6 x8 x10 x11 x12_14 x14_16 (1 : Int32))))))))) ∧ (¬ r_21 = (1 : Int64) → (p_L_divides_167 N nj ti g Q (fun x1 x2 x3 x4 x5 x6 x8 x10 x11 => p_L_divides_68 N nj ti g Q K43 n x1 x2 x3 x4 x5 x6 x8 x10 x11) x1 x3 x4 x5 x6 x8 x10 x11 x12_14 x14_16 (0 : Int32)))) x12_14 x14_16)))))))))))))))))))))

def p_L_divides_371 (N : Nat) (nj : Nat) (ti : Nat → Int32) (g : Nat → Nat) (Q : Int32 → Prop) (x1 : Int32) (x2 : Int32) (x4 : Int32) : Prop :=
  (x2 = 0 → (Q (0 : Int32))) ∧ (¬ x2 = 0 → (((3 : Int32) < x4 → (Q (0 : Int32))) ∧ (¬ (3 : Int32) < x4 → (∀ r_3 : Int32, r_3 = fnum (lS nj ti).1 (lS nj ti).2 ∧ DF nj ti → (∀ r_4 : Int32, r_4 = fden (lS nj ti).1 (lS nj ti).2 ∧ DF nj ti → (((((x1).toInt64) * ((r_4).toInt64)) < ((r_3).toInt64) → (Q (0 : Int32))) ∧ (¬ (((x1).toInt64) * ((r_4).toInt64)) < ((r_3).toInt64) → (∀ r_6 : Int32, r_6 = fnum (lS nj ti).1 (lS nj ti).2 ∧ DF nj ti → (∀ r_7 : Int32, r_7 = fden (lS nj ti).1 (lS nj ti).2 ∧ DF nj ti → (p_L_common N nj ti g (fun r_8 => (r_8 = (1 : Int64) → (Q (1 : Int32))) ∧ (¬ r_8 = (1 : Int64) → (Q (0 : Int32)))) ((r_6).toInt64) ((r_7).toInt64)))))))))))

def p_L_divides_347 (N : Nat) (nj : Nat) (ti : Nat → Int32) (g : Nat → Nat) (Q : Int32 → Prop) : Nat → Int32 → Int32 → Int32 → Int32 → Prop
  | 0 => fun _ _ _ _ => False
  | n + 1 => fun x1 x2 x4 x5 => ((3 : Int32) ≤ x5 → (p_L_divides_371 N nj ti g Q x1 x2 x4)) ∧ (¬ (3 : Int32) ≤ x5 → ((x2 = 0 → (p_L_divides_371 N nj ti g Q x1 x2 x4)) ∧ (¬ x2 = 0 → (p_L_isWithin N nj ti g (fun r_3 => ∀ x5_4 : Int32, x5_4 = x5 + (1 : Int32) → (p_L_divides_347 N nj ti g Q n x1 r_3 x4 x5_4)) x5 x1))))

def p_L_divides_43 (N : Nat) (nj : Nat) (ti : Nat → Int32) (g : Nat → Nat) (Q : Int32 → Prop) : Nat → Int32 → Int32 → Int32 → Int32 → Int32 → Prop
  | 0 => fun _ _ _ _ _ => False
  | n + 1 => fun x1 x2 x3 x4 x5 => ∀ r_1 : Int32, r_1 = nI nj → ((r_1 ≤ x5 → (p_L_divides_347 N nj ti g Q N x1 x2 x4 (0 : Int32))) ∧ (¬ r_1 ≤ x5 → ((x2 = 0 → (p_L_divides_347 N nj ti g Q N x1 x2 x4 (0 : Int32))) ∧ (¬ x2 = 0 → (p_L_divides_68 N nj ti g Q (fun x1 x2 x3 x4 x5 => p_L_divides_43 N nj ti g Q n x1 x2 x3 x4 x5) N x1 x2 x3 x4 x5 (0 : Int64) (1 : Int64) (0 : Int32) (0 : Int32))))))

def p_L_divides_26 (N : Nat) (nj : Nat) (ti : Nat → Int32) (g : Nat → Nat) (Q : Int32 → Prop) (x1 : Int32) (s0 : Int32) (s1 : Int32) : Prop :=
  (s0 = s1 → (p_L_divides_43 N nj ti g Q N x1 (1 : Int32) (0 : Int32) (0 : Int32) (0 : Int32))) ∧ (¬ s0 = s1 → (p_L_divides_43 N nj ti g Q N x1 (0 : Int32) (0 : Int32) (0 : Int32) (0 : Int32)))

def p_L_divides (N : Nat) (nj : Nat) (ti : Nat → Int32) (g : Nat → Nat) (Q : Int32 → Prop)  : Prop :=
  ∀ r_1 : Int32, r_1 = nI (tB nj ti) ∧ DF nj ti → (∀ r_2 : Int32, r_2 = nI nj → ((r_2 = 0 → ((r_1 = 0 → (p_L_divides_26 N nj ti g Q r_1 (1 : Int32) (1 : Int32))) ∧ (¬ r_1 = 0 → (p_L_divides_26 N nj ti g Q r_1 (1 : Int32) (0 : Int32))))) ∧ (¬ r_2 = 0 → ((r_1 = 0 → (p_L_divides_26 N nj ti g Q r_1 (0 : Int32) (1 : Int32))) ∧ (¬ r_1 = 0 → (p_L_divides_26 N nj ti g Q r_1 (0 : Int32) (0 : Int32)))))))

set_option maxHeartbeats 4000000 in
set_option maxRecDepth 100000 in
theorem k_L_divides_192 {N : Nat} {nj : Nat} {ti : Nat → Int32} {g : Nat → Nat} {Q : Int32 → Prop} {K68 : Int32 → Int32 → Int32 → Int32 → Int32 → Int64 → Int64 → Int32 → Int32 → Prop} (C0 : cxM cL_divides 17 (some .boolean) RL wsL_divides p s m args meth c dC dI cy A) :
    ∀ (x1 : Int32) (x2 : Int32) (x3 : Int32) (x4 : Int32) (x5 : Int32) (x6 : Int64) (x8 : Int64) (x11 : Int32) (x12 : Int64) (x14 : Int64) (s0 : Int32) (H : Heap) (locs : List Loc) (ls : Array Slot) (hm : p_L_divides_192 N nj ti g Q K68 x1 x2 x3 x4 x5 x6 x8 x11 x12 x14 s0) (hSt : stG dC dI cy ad A s nj ti g H locs) (hl : lv_has ls 17 [(0, .ref (ad 0)), (1, .int x1), (2, .int x2), (3, .int x3), (4, .int x4), (5, .int x5), (6, .long x6), (8, .long x8), (11, .int x11), (12, .long x12), (14, .long x14)]) (hret : ∀ (r : Int32) (H : Heap) (locs : List Loc) (ls : Array Slot) (pc : Nat), decode cL_divides pc = .ok (.ireturn, 1) → narrow .boolean (.int r) = .int r → stG dC dI cy ad A s nj ti g H locs → Q r → W p l e rmL_divides s m args below meth c H locs 0 0 Z (F0 m pc ls [.int r])) (hK68 : ∀ (x1 : Int32) (x2 : Int32) (x3 : Int32) (x4 : Int32) (x5 : Int32) (x6 : Int64) (x8 : Int64) (x10 : Int32) (x11 : Int32) (H : Heap) (locs : List Loc) (ls : Array Slot), K68 x1 x2 x3 x4 x5 x6 x8 x10 x11 → stG dC dI cy ad A s nj ti g H locs → lv_has ls 17 [(0, .ref (ad 0)), (1, .int x1), (2, .int x2), (3, .int x3), (4, .int x4), (5, .int x5), (6, .long x6), (8, .long x8), (10, .int x10), (11, .int x11)] → W p l e rmL_divides s m args below meth c H locs 0 0 Z (F0 m 68 ls [])), W p l e rmL_divides s m args below meth c H locs 0 0 Z (F0 m 192 ls [.int s0]) := by
  obtain ⟨hx, hb, hml, hr, hown, hts, hlocks, hK, hA, hN⟩ := id C0
  intro x1 x2 x3 x4 x5 x6 x8 x11 x12 x14 s0 H locs ls hm hSt hl hret hK68
  skip
  unfold p_L_divides_192 at hm
  refine lv_istore (lv' := [(10, .int s0), (0, .ref (ad 0)), (1, .int x1), (2, .int x2), (3, .int x3), (4, .int x4), (5, .int x5), (6, .long x6), (8, .long x8), (11, .int x11), (12, .long x12), (14, .long x14)]) hx hb dL_divides_192 hl (by decide) rfl (fun ls hl => ?_)
  refine lv_lload hx hb dL_divides_194 (lv_at hl 7 rfl) ?_
  refine lv_lload hx hb dL_divides_196 (lv_at hl 11 rfl) ?_
  refine lv_lmul hx hb dL_divides_198 ?_
  refine lv_lload hx hb dL_divides_199 (lv_at hl 10 rfl) ?_
  refine lv_lload hx hb dL_divides_201 (lv_at hl 8 rfl) ?_
  refine lv_lmul hx hb dL_divides_203 ?_
  refine lv_ladd hx hb dL_divides_204 ?_
  refine lv_topl (fun x6_1 ex6_1 => ?_)
  have hm := hm x6_1 ex6_1
  refine lv_lstore (lv' := [(6, .long x6_1), (10, .int s0), (0, .ref (ad 0)), (1, .int x1), (2, .int x2), (3, .int x3), (4, .int x4), (5, .int x5), (8, .long x8), (11, .int x11), (12, .long x12), (14, .long x14)]) hx hb dL_divides_205 hl (by decide) rfl (fun ls hl => ?_)
  refine lv_lload hx hb dL_divides_207 (lv_at hl 8 rfl) ?_
  refine lv_lload hx hb dL_divides_209 (lv_at hl 11 rfl) ?_
  refine lv_lmul hx hb dL_divides_211 ?_
  refine lv_topl (fun x8_2 ex8_2 => ?_)
  have hm := hm x8_2 ex8_2
  refine lv_lstore (lv' := [(8, .long x8_2), (6, .long x6_1), (10, .int s0), (0, .ref (ad 0)), (1, .int x1), (2, .int x2), (3, .int x3), (4, .int x4), (5, .int x5), (11, .int x11), (12, .long x12), (14, .long x14)]) hx hb dL_divides_212 hl (by decide) rfl (fun ls hl => ?_)
  obtain ⟨x11_3, ex11_3⟩ : ∃ y : Int32, y = x11 + (1 : Int32) := ⟨_, rfl⟩
  have hm := hm x11_3 ex11_3
  refine lv_iinc (v := x11_3) (lv' := [(11, .int x11_3), (8, .long x8_2), (6, .long x6_1), (10, .int s0), (0, .ref (ad 0)), (1, .int x1), (2, .int x2), (3, .int x3), (4, .int x4), (5, .int x5), (12, .long x12), (14, .long x14)]) hx hb dL_divides_214 hl (k := 9) rfl (by rw [ex11_3]; rfl) (by decide) rfl (fun ls hl => ?_)
  refine lv_goto (tgt := 68) hx hb dL_divides_217 (by decide) ?_
  exact hK68 x1 x2 x3 x4 x5 x6_1 x8_2 s0 x11_3 H locs ls hm hSt (lv_sub hl [4, 5, 6, 7, 8, 9, 2, 1, 3, 0] rfl)

set_option maxHeartbeats 4000000 in
set_option maxRecDepth 100000 in
theorem k_L_divides_167 {N : Nat} {nj : Nat} {ti : Nat → Int32} {g : Nat → Nat} {Q : Int32 → Prop} {K68 : Int32 → Int32 → Int32 → Int32 → Int32 → Int64 → Int64 → Int32 → Int32 → Prop} (C0 : cxM cL_divides 17 (some .boolean) RL wsL_divides p s m args meth c dC dI cy A) :
    ∀ (x1 : Int32) (x3 : Int32) (x4 : Int32) (x5 : Int32) (x6 : Int64) (x8 : Int64) (x10 : Int32) (x11 : Int32) (x12 : Int64) (x14 : Int64) (s0 : Int32) (H : Heap) (locs : List Loc) (ls : Array Slot) (hm : p_L_divides_167 N nj ti g Q K68 x1 x3 x4 x5 x6 x8 x10 x11 x12 x14 s0) (hSt : stG dC dI cy ad A s nj ti g H locs) (hl : lv_has ls 17 [(0, .ref (ad 0)), (1, .int x1), (3, .int x3), (4, .int x4), (5, .int x5), (6, .long x6), (8, .long x8), (10, .int x10), (11, .int x11), (12, .long x12), (14, .long x14)]) (hret : ∀ (r : Int32) (H : Heap) (locs : List Loc) (ls : Array Slot) (pc : Nat), decode cL_divides pc = .ok (.ireturn, 1) → narrow .boolean (.int r) = .int r → stG dC dI cy ad A s nj ti g H locs → Q r → W p l e rmL_divides s m args below meth c H locs 0 0 Z (F0 m pc ls [.int r])) (hK68 : ∀ (x1 : Int32) (x2 : Int32) (x3 : Int32) (x4 : Int32) (x5 : Int32) (x6 : Int64) (x8 : Int64) (x10 : Int32) (x11 : Int32) (H : Heap) (locs : List Loc) (ls : Array Slot), K68 x1 x2 x3 x4 x5 x6 x8 x10 x11 → stG dC dI cy ad A s nj ti g H locs → lv_has ls 17 [(0, .ref (ad 0)), (1, .int x1), (2, .int x2), (3, .int x3), (4, .int x4), (5, .int x5), (6, .long x6), (8, .long x8), (10, .int x10), (11, .int x11)] → W p l e rmL_divides s m args below meth c H locs 0 0 Z (F0 m 68 ls [])), W p l e rmL_divides s m args below meth c H locs 0 0 Z (F0 m 167 ls [.int s0]) := by
  obtain ⟨hx, hb, hml, hr, hown, hts, hlocks, hK, hA, hN⟩ := id C0
  intro x1 x3 x4 x5 x6 x8 x10 x11 x12 x14 s0 H locs ls hm hSt hl hret hK68
  skip
  unfold p_L_divides_167 at hm
  refine lv_istore_n (lv' := [(2, .int s0), (0, .ref (ad 0)), (1, .int x1), (3, .int x3), (4, .int x4), (5, .int x5), (6, .long x6), (8, .long x8), (10, .int x10), (11, .int x11), (12, .long x12), (14, .long x14)]) hx hb dL_divides_167 rfl hl (by decide) rfl (fun ls hl => ?_)
  refine lv_iload hx hb dL_divides_168 (lv_at hl 8 rfl) ?_
  refine lv_if_ne (tgt := 187) hx hb dL_divides_170 (by decide) (fun c_1 => ?_) (fun c_1 => ?_)
  · have hm := hm.2 c_1
    refine lv_iconst (v := 1) hx hb dL_divides_187 (by decide) ?_
    refine lv_goto (tgt := 192) hx hb dL_divides_188 (by decide) ?_
    exact k_L_divides_192 C0 x1 s0 x3 x4 x5 x6 x8 x11 x12 x14 (1 : Int32) H locs ls hm hSt (lv_sub hl [1, 2, 0, 3, 4, 5, 6, 7, 9, 10, 11] rfl) hret hK68
  · have hm := hm.1 c_1
    refine lv_lload hx hb dL_divides_173 (lv_at hl 10 rfl) ?_
    refine lv_lconst (v := 1) hx hb dL_divides_175 (by decide) ?_
    refine lq_ne (tgt := 191) hx hb dL_divides_176 dL_divides_177 (by decide) (fun c_2 => ?_) (fun c_2 => ?_)
    · have hm := hm.2 c_2
      refine lv_iconst (v := 0) hx hb dL_divides_191 (by decide) ?_
      exact k_L_divides_192 C0 x1 s0 x3 x4 x5 x6 x8 x11 x12 x14 (0 : Int32) H locs ls hm hSt (lv_sub hl [1, 2, 0, 3, 4, 5, 6, 7, 9, 10, 11] rfl) hret hK68
    · have hm := hm.1 c_2
      refine lv_lload hx hb dL_divides_180 (lv_at hl 11 rfl) ?_
      refine lv_lconst (v := 1) hx hb dL_divides_182 (by decide) ?_
      refine lq_ne (tgt := 191) hx hb dL_divides_183 dL_divides_184 (by decide) (fun c_3 => ?_) (fun c_3 => ?_)
      · have hm := hm.2 c_3
        refine lv_iconst (v := 0) hx hb dL_divides_191 (by decide) ?_
        exact k_L_divides_192 C0 x1 s0 x3 x4 x5 x6 x8 x11 x12 x14 (0 : Int32) H locs ls hm hSt (lv_sub hl [1, 2, 0, 3, 4, 5, 6, 7, 9, 10, 11] rfl) hret hK68
      · have hm := hm.1 c_3
        refine lv_iconst (v := 1) hx hb dL_divides_187 (by decide) ?_
        refine lv_goto (tgt := 192) hx hb dL_divides_188 (by decide) ?_
        exact k_L_divides_192 C0 x1 s0 x3 x4 x5 x6 x8 x11 x12 x14 (1 : Int32) H locs ls hm hSt (lv_sub hl [1, 2, 0, 3, 4, 5, 6, 7, 9, 10, 11] rfl) hret hK68

set_option maxHeartbeats 4000000 in
set_option maxRecDepth 100000 in
theorem k_L_divides_254 {N : Nat} {nj : Nat} {ti : Nat → Int32} {g : Nat → Nat} {Q : Int32 → Prop} {K303 : Int32 → Int32 → Int32 → Int32 → Int32 → Int32 → Int32 → Prop} (C0 : cxM cL_divides 17 (some .boolean) RL wsL_divides p s m args meth c dC dI cy A) :
    ∀ (x1 : Int32) (x3 : Int32) (x4 : Int32) (x5 : Int32) (x10 : Int32) (x11 : Int32) (s0 : Int32) (H : Heap) (locs : List Loc) (ls : Array Slot) (hm : p_L_divides_254 N nj ti g Q K303 x1 x3 x4 x5 x10 x11 s0) (hSt : stG dC dI cy ad A s nj ti g H locs) (hl : lv_has ls 17 [(0, .ref (ad 0)), (1, .int x1), (3, .int x3), (4, .int x4), (5, .int x5), (10, .int x10), (11, .int x11)]) (hret : ∀ (r : Int32) (H : Heap) (locs : List Loc) (ls : Array Slot) (pc : Nat), decode cL_divides pc = .ok (.ireturn, 1) → narrow .boolean (.int r) = .int r → stG dC dI cy ad A s nj ti g H locs → Q r → W p l e rmL_divides s m args below meth c H locs 0 0 Z (F0 m pc ls [.int r])) (hK303 : ∀ (x1 : Int32) (x3 : Int32) (x4 : Int32) (x5 : Int32) (x10 : Int32) (x11 : Int32) (s0 : Int32) (H : Heap) (locs : List Loc) (ls : Array Slot), K303 x1 x3 x4 x5 x10 x11 s0 → stG dC dI cy ad A s nj ti g H locs → lv_has ls 17 [(0, .ref (ad 0)), (1, .int x1), (3, .int x3), (4, .int x4), (5, .int x5), (10, .int x10), (11, .int x11)] → W p l e rmL_divides s m args below meth c H locs 0 0 Z (F0 m 303 ls [.int s0])), W p l e rmL_divides s m args below meth c H locs 0 0 Z (F0 m 254 ls [.int s0]) := by
  obtain ⟨hx, hb, hml, hr, hown, hts, hlocks, hK, hA, hN⟩ := id C0
  intro x1 x3 x4 x5 x10 x11 s0 H locs ls hm hSt hl hret hK303
  skip
  unfold p_L_divides_254 at hm
  refine lv_iload hx hb dL_divides_254 (lv_at hl 5 rfl) ?_
  refine lv_icmp_ne (tgt := 302) hx hb dL_divides_256 (by decide) (fun c_1 => ?_) (fun c_1 => ?_)
  · have hm := hm.2 c_1
    refine lv_iconst (v := 0) hx hb dL_divides_302 (by decide) ?_
    exact hK303 x1 x3 x4 x5 x10 x11 (0 : Int32) H locs ls hm hSt (lv_sub hl [0, 1, 2, 3, 4, 5, 6] rfl)
  · have hm := hm.1 c_1
    refine lv_iload hx hb dL_divides_259 (lv_at hl 6 rfl) ?_
    refine lv_if_lt (tgt := 302) hx hb dL_divides_261 (by decide) (fun c_2 => ?_) (fun c_2 => ?_)
    · have hm := hm.1 c_2
      refine lv_iconst (v := 0) hx hb dL_divides_302 (by decide) ?_
      exact hK303 x1 x3 x4 x5 x10 x11 (0 : Int32) H locs ls hm hSt (lv_sub hl [0, 1, 2, 3, 4, 5, 6] rfl)
    · have hm := hm.2 c_2
      refine lv_iload hx hb dL_divides_264 (lv_at hl 6 rfl) ?_
      refine lv_iconst (v := 3) hx hb dL_divides_266 (by decide) ?_
      refine lv_icmp_ge (tgt := 302) hx hb dL_divides_267 (by decide) (fun c_3 => ?_) (fun c_3 => ?_)
      · have hm := hm.1 c_3
        refine lv_iconst (v := 0) hx hb dL_divides_302 (by decide) ?_
        exact hK303 x1 x3 x4 x5 x10 x11 (0 : Int32) H locs ls hm hSt (lv_sub hl [0, 1, 2, 3, 4, 5, 6] rfl)
      · have hm := hm.2 c_3
        refine lv_aload_n hx hb dL_divides_270 rfl (lv_at hl 0 rfl) ?_
        refine lv_iload hx hb dL_divides_271 (lv_at hl 4 rfl) ?_
        refine lv_iload hx hb dL_divides_273 (lv_at hl 6 rfl) ?_
        have ha0 := hm.1
        have hm := hm.2
        have ha1 := hm.1
        have hm := hm.2
        obtain ⟨w0, ⟨hP, hD, hS⟩, hW0⟩ := hSt
        have hFc := va_freeSame hD hS hA
        refine va_calli (vx_runSW (As := [.ref (ad 0), .int x5, .int x11]) (rest := []) ⟨hx, hb, hml, hown, hts⟩ (q_L_numerator l dC dI cy ad H.size w0 nj ti g x5 x11 hW0 ha0 ha1) (vx_cwSW 3 hts gL_divides_L_numerator rfl rfl rfl (by decide +kernel) ⟨Nat.le_of_ble_eq_true rfl, Nat.le_of_ble_eq_true rfl⟩) ⟨cPre_blind, fun U hU hW => ⟨rfl, cPre_at hP hK hD hN hU hW⟩⟩ rfl rfl hl.1 rfl (lv_room (Nat.le_of_ble_eq_true rfl)) dL_divides_275 ⟨Nat.zero_le _, Nat.zero_le _⟩) hS (fun q _ h => hFc q h) hFc (fun r_4 u t H locs ht hvm hw hB hz1 hk1 hS => ?_)
        obtain ⟨hr, hWu⟩ := hw
        have hm := hm r_4 hr
        have hSt : stG dC dI cy ad A s nj ti g H locs := ⟨u, ⟨cPost_P ht hB, cPost_D hFc hB, hS⟩, hWu⟩
        refine lv_if_le (tgt := 302) hx hb dL_divides_278 (by decide) (fun c_5 => ?_) (fun c_5 => ?_)
        · have hm := hm.1 c_5
          refine lv_iconst (v := 0) hx hb dL_divides_302 (by decide) ?_
          exact hK303 x1 x3 x4 x5 x10 x11 (0 : Int32) H locs ls hm hSt (lv_sub hl [0, 1, 2, 3, 4, 5, 6] rfl)
        · have hm := hm.2 c_5
          refine lv_iload hx hb dL_divides_281 (lv_at hl 5 rfl) ?_
          refine lv_if_eq (tgt := 298) hx hb dL_divides_283 (by decide) (fun c_6 => ?_) (fun c_6 => ?_)
          · have hm := hm.1 c_6
            refine lv_iconst (v := 1) hx hb dL_divides_298 (by decide) ?_
            refine lv_goto (tgt := 303) hx hb dL_divides_299 (by decide) ?_
            exact hK303 x1 x3 x4 x5 x10 x11 (1 : Int32) H locs ls hm hSt (lv_sub hl [0, 1, 2, 3, 4, 5, 6] rfl)
          · have hm := hm.2 c_6
            refine lv_aload_n hx hb dL_divides_286 rfl (lv_at hl 0 rfl) ?_
            refine lv_iload hx hb dL_divides_287 (lv_at hl 4 rfl) ?_
            refine lv_iload hx hb dL_divides_289 (lv_at hl 6 rfl) ?_
            have ha0 := hm.1
            have hm := hm.2
            have ha1 := hm.1
            have hm := hm.2
            obtain ⟨w0, ⟨hP, hD, hS⟩, hW0⟩ := hSt
            have hFc := va_freeSame hD hS hA
            refine va_calli (vx_runSW (As := [.ref (ad 0), .int x5, .int x11]) (rest := []) ⟨hx, hb, hml, hown, hts⟩ (q_L_denominator l dC dI cy ad H.size w0 nj ti g x5 x11 hW0 ha0 ha1) (vx_cwSW 3 hts gL_divides_L_denominator rfl rfl rfl (by decide +kernel) ⟨Nat.le_of_ble_eq_true rfl, Nat.le_of_ble_eq_true rfl⟩) ⟨cPre_blind, fun U hU hW => ⟨rfl, cPre_at hP hK hD hN hU hW⟩⟩ rfl rfl hl.1 rfl (lv_room (Nat.le_of_ble_eq_true rfl)) dL_divides_291 ⟨Nat.zero_le _, Nat.zero_le _⟩) hS (fun q _ h => hFc q h) hFc (fun r_7 u t H locs ht hvm hw hB hz1 hk1 hS => ?_)
            obtain ⟨hr, hWu⟩ := hw
            have hm := hm r_7 hr
            have hSt : stG dC dI cy ad A s nj ti g H locs := ⟨u, ⟨cPost_P ht hB, cPost_D hFc hB, hS⟩, hWu⟩
            refine lv_iconst (v := 1) hx hb dL_divides_294 (by decide) ?_
            refine lv_icmp_ne (tgt := 302) hx hb dL_divides_295 (by decide) (fun c_8 => ?_) (fun c_8 => ?_)
            · have hm := hm.2 c_8
              refine lv_iconst (v := 0) hx hb dL_divides_302 (by decide) ?_
              exact hK303 x1 x3 x4 x5 x10 x11 (0 : Int32) H locs ls hm hSt (lv_sub hl [0, 1, 2, 3, 4, 5, 6] rfl)
            · have hm := hm.1 c_8
              refine lv_iconst (v := 1) hx hb dL_divides_298 (by decide) ?_
              refine lv_goto (tgt := 303) hx hb dL_divides_299 (by decide) ?_
              exact hK303 x1 x3 x4 x5 x10 x11 (1 : Int32) H locs ls hm hSt (lv_sub hl [0, 1, 2, 3, 4, 5, 6] rfl)

set_option maxHeartbeats 4000000 in
set_option maxRecDepth 100000 in
theorem k_L_divides_303 {N : Nat} {nj : Nat} {ti : Nat → Int32} {g : Nat → Nat} {Q : Int32 → Prop} {K43 : Int32 → Int32 → Int32 → Int32 → Int32 → Prop} (C0 : cxM cL_divides 17 (some .boolean) RL wsL_divides p s m args meth c dC dI cy A) :
    ∀ (x1 : Int32) (x3 : Int32) (x4 : Int32) (x5 : Int32) (x10 : Int32) (x11 : Int32) (s0 : Int32) (H : Heap) (locs : List Loc) (ls : Array Slot) (hm : p_L_divides_303 N nj ti g Q K43 x1 x3 x4 x5 x10 x11 s0) (hSt : stG dC dI cy ad A s nj ti g H locs) (hl : lv_has ls 17 [(0, .ref (ad 0)), (1, .int x1), (3, .int x3), (4, .int x4), (5, .int x5), (10, .int x10), (11, .int x11)]) (hret : ∀ (r : Int32) (H : Heap) (locs : List Loc) (ls : Array Slot) (pc : Nat), decode cL_divides pc = .ok (.ireturn, 1) → narrow .boolean (.int r) = .int r → stG dC dI cy ad A s nj ti g H locs → Q r → W p l e rmL_divides s m args below meth c H locs 0 0 Z (F0 m pc ls [.int r])) (hK43 : ∀ (x1 : Int32) (x2 : Int32) (x3 : Int32) (x4 : Int32) (x5 : Int32) (H : Heap) (locs : List Loc) (ls : Array Slot), K43 x1 x2 x3 x4 x5 → stG dC dI cy ad A s nj ti g H locs → lv_has ls 17 [(0, .ref (ad 0)), (1, .int x1), (2, .int x2), (3, .int x3), (4, .int x4), (5, .int x5)] → W p l e rmL_divides s m args below meth c H locs 0 0 Z (F0 m 43 ls [])), W p l e rmL_divides s m args below meth c H locs 0 0 Z (F0 m 303 ls [.int s0]) := by
  obtain ⟨hx, hb, hml, hr, hown, hts, hlocks, hK, hA, hN⟩ := id C0
  intro x1 x3 x4 x5 x10 x11 s0 H locs ls hm hSt hl hret hK43
  skip
  unfold p_L_divides_303 at hm
  refine lv_istore_n (lv' := [(2, .int s0), (0, .ref (ad 0)), (1, .int x1), (3, .int x3), (4, .int x4), (5, .int x5), (10, .int x10), (11, .int x11)]) hx hb dL_divides_303 rfl hl (by decide) rfl (fun ls hl => ?_)
  refine lv_iload_n hx hb dL_divides_304 rfl (lv_at hl 0 rfl) ?_
  refine lv_if_eq (tgt := 338) hx hb dL_divides_305 (by decide) (fun c_1 => ?_) (fun c_1 => ?_)
  · have hm := hm.1 c_1
    obtain ⟨x5_2, ex5_2⟩ : ∃ y : Int32, y = x5 + (1 : Int32) := ⟨_, rfl⟩
    have hm := hm x5_2 ex5_2
    refine lv_iinc (v := x5_2) (lv' := [(5, .int x5_2), (2, .int s0), (0, .ref (ad 0)), (1, .int x1), (3, .int x3), (4, .int x4), (10, .int x10), (11, .int x11)]) hx hb dL_divides_338 hl (k := 5) rfl (by rw [ex5_2]; rfl) (by decide) rfl (fun ls hl => ?_)
    refine lv_goto (tgt := 43) hx hb dL_divides_341 (by decide) ?_
    exact hK43 x1 s0 x3 x4 x5_2 H locs ls hm hSt (lv_sub hl [2, 3, 1, 4, 5, 0] rfl)
  · have hm := hm.2 c_1
    refine lv_iload hx hb dL_divides_308 (lv_at hl 6 rfl) ?_
    refine lv_if_ne (tgt := 338) hx hb dL_divides_310 (by decide) (fun c_3 => ?_) (fun c_3 => ?_)
    · have hm := hm.2 c_3
      obtain ⟨x5_4, ex5_4⟩ : ∃ y : Int32, y = x5 + (1 : Int32) := ⟨_, rfl⟩
      have hm := hm x5_4 ex5_4
      refine lv_iinc (v := x5_4) (lv' := [(5, .int x5_4), (2, .int s0), (0, .ref (ad 0)), (1, .int x1), (3, .int x3), (4, .int x4), (10, .int x10), (11, .int x11)]) hx hb dL_divides_338 hl (k := 5) rfl (by rw [ex5_4]; rfl) (by decide) rfl (fun ls hl => ?_)
      refine lv_goto (tgt := 43) hx hb dL_divides_341 (by decide) ?_
      exact hK43 x1 s0 x3 x4 x5_4 H locs ls hm hSt (lv_sub hl [2, 3, 1, 4, 5, 0] rfl)
    · have hm := hm.1 c_3
      refine lv_iload_n hx hb dL_divides_313 rfl (lv_at hl 3 rfl) ?_
      refine lv_iload hx hb dL_divides_314 (lv_at hl 7 rfl) ?_
      refine lv_ishr hx hb dL_divides_316 ?_
      refine lv_iconst (v := 1) hx hb dL_divides_317 (by decide) ?_
      refine lv_iand hx hb dL_divides_318 ?_
      refine lv_if_ne (tgt := 326) hx hb dL_divides_319 (by decide) (fun c_5 => ?_) (fun c_5 => ?_)
      · have hm := hm.2 c_5
        refine lv_iconst (v := 0) hx hb dL_divides_326 (by decide) ?_
        refine lv_istore_n (lv' := [(2, .int (0 : Int32)), (0, .ref (ad 0)), (1, .int x1), (3, .int x3), (4, .int x4), (5, .int x5), (10, .int x10), (11, .int x11)]) hx hb dL_divides_327 rfl hl (by decide) rfl (fun ls hl => ?_)
        refine lv_iload_n hx hb dL_divides_328 rfl (lv_at hl 3 rfl) ?_
        refine lv_iconst (v := 1) hx hb dL_divides_329 (by decide) ?_
        refine lv_iload hx hb dL_divides_330 (lv_at hl 7 rfl) ?_
        refine lv_ishl hx hb dL_divides_332 ?_
        refine lv_ior hx hb dL_divides_333 ?_
        refine lv_topi (fun x3_6 ex3_6 => ?_)
        have hm := hm x3_6 ex3_6
        refine lv_istore_n (lv' := [(3, .int x3_6), (2, .int (0 : Int32)), (0, .ref (ad 0)), (1, .int x1), (4, .int x4), (5, .int x5), (10, .int x10), (11, .int x11)]) hx hb dL_divides_334 rfl hl (by decide) rfl (fun ls hl => ?_)
        obtain ⟨x4_7, ex4_7⟩ : ∃ y : Int32, y = x4 + (1 : Int32) := ⟨_, rfl⟩
        have hm := hm x4_7 ex4_7
        refine lv_iinc (v := x4_7) (lv' := [(4, .int x4_7), (3, .int x3_6), (2, .int (0 : Int32)), (0, .ref (ad 0)), (1, .int x1), (5, .int x5), (10, .int x10), (11, .int x11)]) hx hb dL_divides_335 hl (k := 4) rfl (by rw [ex4_7]; rfl) (by decide) rfl (fun ls hl => ?_)
        obtain ⟨x5_8, ex5_8⟩ : ∃ y : Int32, y = x5 + (1 : Int32) := ⟨_, rfl⟩
        have hm := hm x5_8 ex5_8
        refine lv_iinc (v := x5_8) (lv' := [(5, .int x5_8), (4, .int x4_7), (3, .int x3_6), (2, .int (0 : Int32)), (0, .ref (ad 0)), (1, .int x1), (10, .int x10), (11, .int x11)]) hx hb dL_divides_338 hl (k := 5) rfl (by rw [ex5_8]; rfl) (by decide) rfl (fun ls hl => ?_)
        refine lv_goto (tgt := 43) hx hb dL_divides_341 (by decide) ?_
        exact hK43 x1 (0 : Int32) x3_6 x4_7 x5_8 H locs ls hm hSt (lv_sub hl [4, 5, 3, 2, 1, 0] rfl)
      · have hm := hm.1 c_5
        refine lv_iconst (v := 1) hx hb dL_divides_322 (by decide) ?_
        refine lv_goto (tgt := 327) hx hb dL_divides_323 (by decide) ?_
        refine lv_istore_n (lv' := [(2, .int (1 : Int32)), (0, .ref (ad 0)), (1, .int x1), (3, .int x3), (4, .int x4), (5, .int x5), (10, .int x10), (11, .int x11)]) hx hb dL_divides_327 rfl hl (by decide) rfl (fun ls hl => ?_)
        refine lv_iload_n hx hb dL_divides_328 rfl (lv_at hl 3 rfl) ?_
        refine lv_iconst (v := 1) hx hb dL_divides_329 (by decide) ?_
        refine lv_iload hx hb dL_divides_330 (lv_at hl 7 rfl) ?_
        refine lv_ishl hx hb dL_divides_332 ?_
        refine lv_ior hx hb dL_divides_333 ?_
        refine lv_topi (fun x3_9 ex3_9 => ?_)
        have hm := hm x3_9 ex3_9
        refine lv_istore_n (lv' := [(3, .int x3_9), (2, .int (1 : Int32)), (0, .ref (ad 0)), (1, .int x1), (4, .int x4), (5, .int x5), (10, .int x10), (11, .int x11)]) hx hb dL_divides_334 rfl hl (by decide) rfl (fun ls hl => ?_)
        obtain ⟨x4_10, ex4_10⟩ : ∃ y : Int32, y = x4 + (1 : Int32) := ⟨_, rfl⟩
        have hm := hm x4_10 ex4_10
        refine lv_iinc (v := x4_10) (lv' := [(4, .int x4_10), (3, .int x3_9), (2, .int (1 : Int32)), (0, .ref (ad 0)), (1, .int x1), (5, .int x5), (10, .int x10), (11, .int x11)]) hx hb dL_divides_335 hl (k := 4) rfl (by rw [ex4_10]; rfl) (by decide) rfl (fun ls hl => ?_)
        obtain ⟨x5_11, ex5_11⟩ : ∃ y : Int32, y = x5 + (1 : Int32) := ⟨_, rfl⟩
        have hm := hm x5_11 ex5_11
        refine lv_iinc (v := x5_11) (lv' := [(5, .int x5_11), (4, .int x4_10), (3, .int x3_9), (2, .int (1 : Int32)), (0, .ref (ad 0)), (1, .int x1), (10, .int x10), (11, .int x11)]) hx hb dL_divides_338 hl (k := 5) rfl (by rw [ex5_11]; rfl) (by decide) rfl (fun ls hl => ?_)
        refine lv_goto (tgt := 43) hx hb dL_divides_341 (by decide) ?_
        exact hK43 x1 (1 : Int32) x3_9 x4_10 x5_11 H locs ls hm hSt (lv_sub hl [4, 5, 3, 2, 1, 0] rfl)

set_option maxHeartbeats 4000000 in
set_option maxRecDepth 100000 in
theorem k_L_divides_68 {N : Nat} {nj : Nat} {ti : Nat → Int32} {g : Nat → Nat} {Q : Int32 → Prop} {K43 : Int32 → Int32 → Int32 → Int32 → Int32 → Prop} (C0 : cxM cL_divides 17 (some .boolean) RL wsL_divides p s m args meth c dC dI cy A) :
    ∀ (n : Nat) (x1 : Int32) (x2 : Int32) (x3 : Int32) (x4 : Int32) (x5 : Int32) (x6 : Int64) (x8 : Int64) (x10 : Int32) (x11 : Int32) (H : Heap) (locs : List Loc) (ls : Array Slot) (hm : p_L_divides_68 N nj ti g Q K43 n x1 x2 x3 x4 x5 x6 x8 x10 x11) (hSt : stG dC dI cy ad A s nj ti g H locs) (hl : lv_has ls 17 [(0, .ref (ad 0)), (1, .int x1), (2, .int x2), (3, .int x3), (4, .int x4), (5, .int x5), (6, .long x6), (8, .long x8), (10, .int x10), (11, .int x11)]) (hret : ∀ (r : Int32) (H : Heap) (locs : List Loc) (ls : Array Slot) (pc : Nat), decode cL_divides pc = .ok (.ireturn, 1) → narrow .boolean (.int r) = .int r → stG dC dI cy ad A s nj ti g H locs → Q r → W p l e rmL_divides s m args below meth c H locs 0 0 Z (F0 m pc ls [.int r])) (hK43 : ∀ (x1 : Int32) (x2 : Int32) (x3 : Int32) (x4 : Int32) (x5 : Int32) (H : Heap) (locs : List Loc) (ls : Array Slot), K43 x1 x2 x3 x4 x5 → stG dC dI cy ad A s nj ti g H locs → lv_has ls 17 [(0, .ref (ad 0)), (1, .int x1), (2, .int x2), (3, .int x3), (4, .int x4), (5, .int x5)] → W p l e rmL_divides s m args below meth c H locs 0 0 Z (F0 m 43 ls [])), W p l e rmL_divides s m args below meth c H locs 0 0 Z (F0 m 68 ls []) := by
  obtain ⟨hx, hb, hml, hr, hown, hts, hlocks, hK, hA, hN⟩ := id C0
  intro n
  induction n with
  | zero => intro x1 x2 x3 x4 x5 x6 x8 x10 x11 H locs ls hm; exact False.elim hm
  | succ n ih =>
    intro x1 x2 x3 x4 x5 x6 x8 x10 x11 H locs ls hm hSt hl hret hK43
    skip
    unfold p_L_divides_68 at hm
    refine lv_iload hx hb dL_divides_68 (lv_at hl 9 rfl) ?_
    refine lv_iconst (v := 3) hx hb dL_divides_70 (by decide) ?_
    refine lv_icmp_ge (tgt := 220) hx hb dL_divides_71 (by decide) (fun c_1 => ?_) (fun c_1 => ?_)
    · have hm := hm.1 c_1
      refine lv_aload_n hx hb dL_divides_220 rfl (lv_at hl 0 rfl) ?_
      refine lv_iload hx hb dL_divides_221 (lv_at hl 5 rfl) ?_
      have ha0 := hm.1
      have hm := hm.2
      obtain ⟨w0, ⟨hP, hD, hS⟩, hW0⟩ := hSt
      have hFc := va_freeSame hD hS hA
      refine va_calli (vx_runSW (As := [.ref (ad 0), .int x5]) (rest := []) ⟨hx, hb, hml, hown, hts⟩ (q_L_roundedOn l dC dI cy ad H.size w0 nj ti g x5 hW0 ha0) (vx_cwSW 2 hts gL_divides_L_roundedOn rfl rfl rfl (by decide +kernel) ⟨Nat.le_of_ble_eq_true rfl, Nat.le_of_ble_eq_true rfl⟩) ⟨cPre_blind, fun U hU hW => ⟨rfl, cPre_at hP hK hD hN hU hW⟩⟩ rfl rfl hl.1 rfl (lv_room (Nat.le_of_ble_eq_true rfl)) dL_divides_223 ⟨Nat.zero_le _, Nat.zero_le _⟩) hS (fun q _ h => hFc q h) hFc (fun r_2 u t H locs ht hvm hw hB hz1 hk1 hS => ?_)
      obtain ⟨hr, hWu⟩ := hw
      have hm := hm r_2 hr
      have hSt : stG dC dI cy ad A s nj ti g H locs := ⟨u, ⟨cPost_P ht hB, cPost_D hFc hB, hS⟩, hWu⟩
      refine lv_istore (lv' := [(11, .int r_2), (0, .ref (ad 0)), (1, .int x1), (2, .int x2), (3, .int x3), (4, .int x4), (5, .int x5), (6, .long x6), (8, .long x8), (10, .int x10)]) hx hb dL_divides_226 hl (by decide) rfl (fun ls hl => ?_)
      refine lv_iload_n hx hb dL_divides_228 rfl (lv_at hl 3 rfl) ?_
      refine lv_if_eq (tgt := 302) hx hb dL_divides_229 (by decide) (fun c_3 => ?_) (fun c_3 => ?_)
      · have hm := hm.1 c_3
        refine lv_iconst (v := 0) hx hb dL_divides_302 (by decide) ?_
        exact k_L_divides_303 C0 x1 x3 x4 x5 x10 r_2 (0 : Int32) H locs ls hm hSt (lv_sub hl [1, 2, 4, 5, 6, 9, 0] rfl) hret hK43
      · have hm := hm.2 c_3
        refine lv_lload hx hb dL_divides_232 (lv_at hl 7 rfl) ?_
        refine lv_lload hx hb dL_divides_234 (lv_at hl 8 rfl) ?_
        refine lq_ne (tgt := 302) hx hb dL_divides_236 dL_divides_237 (by decide) (fun c_4 => ?_) (fun c_4 => ?_)
        · have hm := hm.2 c_4
          refine lv_iconst (v := 0) hx hb dL_divides_302 (by decide) ?_
          exact k_L_divides_303 C0 x1 x3 x4 x5 x10 r_2 (0 : Int32) H locs ls hm hSt (lv_sub hl [1, 2, 4, 5, 6, 9, 0] rfl) hret hK43
        · have hm := hm.1 c_4
          refine lv_aload_n hx hb dL_divides_240 rfl (lv_at hl 1 rfl) ?_
          refine lv_iload hx hb dL_divides_241 (lv_at hl 6 rfl) ?_
          have ha0 := hm.1
          have hm := hm.2
          obtain ⟨w0, ⟨hP, hD, hS⟩, hW0⟩ := hSt
          have hFc := va_freeSame hD hS hA
          refine va_calli (vx_runSW (As := [.ref (ad 0), .int x5]) (rest := []) ⟨hx, hb, hml, hown, hts⟩ (q_L_divided l dC dI cy ad H.size w0 nj ti g x5 hW0 ha0) (vx_cwSW 2 hts gL_divides_L_divided rfl rfl rfl (by decide +kernel) ⟨Nat.le_of_ble_eq_true rfl, Nat.le_of_ble_eq_true rfl⟩) ⟨cPre_blind, fun U hU hW => ⟨rfl, cPre_at hP hK hD hN hU hW⟩⟩ rfl rfl hl.1 rfl (lv_room (Nat.le_of_ble_eq_true rfl)) dL_divides_243 ⟨Nat.zero_le _, Nat.zero_le _⟩) hS (fun q _ h => hFc q h) hFc (fun r_5 u t H locs ht hvm hw hB hz1 hk1 hS => ?_)
          obtain ⟨hr, hWu⟩ := hw
          have hm := hm r_5 hr
          have hSt : stG dC dI cy ad A s nj ti g H locs := ⟨u, ⟨cPost_P ht hB, cPost_D hFc hB, hS⟩, hWu⟩
          refine lv_if_ne (tgt := 253) hx hb dL_divides_246 (by decide) (fun c_6 => ?_) (fun c_6 => ?_)
          · have hm := hm.2 c_6
            refine lv_iconst (v := 0) hx hb dL_divides_253 (by decide) ?_
            refine k_L_divides_254 C0 x1 x3 x4 x5 x10 r_2 (0 : Int32) H locs ls hm hSt (lv_sub hl [1, 2, 4, 5, 6, 9, 0] rfl) hret (fun x1 x3 x4 x5 x10 x11 s0 H locs ls hm hSt hl => ?_)
            · skip
              exact k_L_divides_303 C0 x1 x3 x4 x5 x10 x11 s0 H locs ls hm hSt hl hret hK43
          · have hm := hm.1 c_6
            refine lv_iconst (v := 1) hx hb dL_divides_249 (by decide) ?_
            refine lv_goto (tgt := 254) hx hb dL_divides_250 (by decide) ?_
            refine k_L_divides_254 C0 x1 x3 x4 x5 x10 r_2 (1 : Int32) H locs ls hm hSt (lv_sub hl [1, 2, 4, 5, 6, 9, 0] rfl) hret (fun x1 x3 x4 x5 x10 x11 s0 H locs ls hm hSt hl => ?_)
            · skip
              exact k_L_divides_303 C0 x1 x3 x4 x5 x10 x11 s0 H locs ls hm hSt hl hret hK43
    · have hm := hm.2 c_1
      refine lv_iload_n hx hb dL_divides_74 rfl (lv_at hl 2 rfl) ?_
      refine lv_if_eq (tgt := 220) hx hb dL_divides_75 (by decide) (fun c_7 => ?_) (fun c_7 => ?_)
      · have hm := hm.1 c_7
        refine lv_aload_n hx hb dL_divides_220 rfl (lv_at hl 0 rfl) ?_
        refine lv_iload hx hb dL_divides_221 (lv_at hl 5 rfl) ?_
        have ha0 := hm.1
        have hm := hm.2
        obtain ⟨w0, ⟨hP, hD, hS⟩, hW0⟩ := hSt
        have hFc := va_freeSame hD hS hA
        refine va_calli (vx_runSW (As := [.ref (ad 0), .int x5]) (rest := []) ⟨hx, hb, hml, hown, hts⟩ (q_L_roundedOn l dC dI cy ad H.size w0 nj ti g x5 hW0 ha0) (vx_cwSW 2 hts gL_divides_L_roundedOn rfl rfl rfl (by decide +kernel) ⟨Nat.le_of_ble_eq_true rfl, Nat.le_of_ble_eq_true rfl⟩) ⟨cPre_blind, fun U hU hW => ⟨rfl, cPre_at hP hK hD hN hU hW⟩⟩ rfl rfl hl.1 rfl (lv_room (Nat.le_of_ble_eq_true rfl)) dL_divides_223 ⟨Nat.zero_le _, Nat.zero_le _⟩) hS (fun q _ h => hFc q h) hFc (fun r_8 u t H locs ht hvm hw hB hz1 hk1 hS => ?_)
        obtain ⟨hr, hWu⟩ := hw
        have hm := hm r_8 hr
        have hSt : stG dC dI cy ad A s nj ti g H locs := ⟨u, ⟨cPost_P ht hB, cPost_D hFc hB, hS⟩, hWu⟩
        refine lv_istore (lv' := [(11, .int r_8), (0, .ref (ad 0)), (1, .int x1), (2, .int x2), (3, .int x3), (4, .int x4), (5, .int x5), (6, .long x6), (8, .long x8), (10, .int x10)]) hx hb dL_divides_226 hl (by decide) rfl (fun ls hl => ?_)
        refine lv_iload_n hx hb dL_divides_228 rfl (lv_at hl 3 rfl) ?_
        refine lv_if_eq (tgt := 302) hx hb dL_divides_229 (by decide) (fun c_9 => ?_) (fun c_9 => ?_)
        · have hm := hm.1 c_9
          refine lv_iconst (v := 0) hx hb dL_divides_302 (by decide) ?_
          exact k_L_divides_303 C0 x1 x3 x4 x5 x10 r_8 (0 : Int32) H locs ls hm hSt (lv_sub hl [1, 2, 4, 5, 6, 9, 0] rfl) hret hK43
        · have hm := hm.2 c_9
          refine lv_lload hx hb dL_divides_232 (lv_at hl 7 rfl) ?_
          refine lv_lload hx hb dL_divides_234 (lv_at hl 8 rfl) ?_
          refine lq_ne (tgt := 302) hx hb dL_divides_236 dL_divides_237 (by decide) (fun c_10 => ?_) (fun c_10 => ?_)
          · have hm := hm.2 c_10
            refine lv_iconst (v := 0) hx hb dL_divides_302 (by decide) ?_
            exact k_L_divides_303 C0 x1 x3 x4 x5 x10 r_8 (0 : Int32) H locs ls hm hSt (lv_sub hl [1, 2, 4, 5, 6, 9, 0] rfl) hret hK43
          · have hm := hm.1 c_10
            refine lv_aload_n hx hb dL_divides_240 rfl (lv_at hl 1 rfl) ?_
            refine lv_iload hx hb dL_divides_241 (lv_at hl 6 rfl) ?_
            have ha0 := hm.1
            have hm := hm.2
            obtain ⟨w0, ⟨hP, hD, hS⟩, hW0⟩ := hSt
            have hFc := va_freeSame hD hS hA
            refine va_calli (vx_runSW (As := [.ref (ad 0), .int x5]) (rest := []) ⟨hx, hb, hml, hown, hts⟩ (q_L_divided l dC dI cy ad H.size w0 nj ti g x5 hW0 ha0) (vx_cwSW 2 hts gL_divides_L_divided rfl rfl rfl (by decide +kernel) ⟨Nat.le_of_ble_eq_true rfl, Nat.le_of_ble_eq_true rfl⟩) ⟨cPre_blind, fun U hU hW => ⟨rfl, cPre_at hP hK hD hN hU hW⟩⟩ rfl rfl hl.1 rfl (lv_room (Nat.le_of_ble_eq_true rfl)) dL_divides_243 ⟨Nat.zero_le _, Nat.zero_le _⟩) hS (fun q _ h => hFc q h) hFc (fun r_11 u t H locs ht hvm hw hB hz1 hk1 hS => ?_)
            obtain ⟨hr, hWu⟩ := hw
            have hm := hm r_11 hr
            have hSt : stG dC dI cy ad A s nj ti g H locs := ⟨u, ⟨cPost_P ht hB, cPost_D hFc hB, hS⟩, hWu⟩
            refine lv_if_ne (tgt := 253) hx hb dL_divides_246 (by decide) (fun c_12 => ?_) (fun c_12 => ?_)
            · have hm := hm.2 c_12
              refine lv_iconst (v := 0) hx hb dL_divides_253 (by decide) ?_
              refine k_L_divides_254 C0 x1 x3 x4 x5 x10 r_8 (0 : Int32) H locs ls hm hSt (lv_sub hl [1, 2, 4, 5, 6, 9, 0] rfl) hret (fun x1 x3 x4 x5 x10 x11 s0 H locs ls hm hSt hl => ?_)
              · skip
                exact k_L_divides_303 C0 x1 x3 x4 x5 x10 x11 s0 H locs ls hm hSt hl hret hK43
            · have hm := hm.1 c_12
              refine lv_iconst (v := 1) hx hb dL_divides_249 (by decide) ?_
              refine lv_goto (tgt := 254) hx hb dL_divides_250 (by decide) ?_
              refine k_L_divides_254 C0 x1 x3 x4 x5 x10 r_8 (1 : Int32) H locs ls hm hSt (lv_sub hl [1, 2, 4, 5, 6, 9, 0] rfl) hret (fun x1 x3 x4 x5 x10 x11 s0 H locs ls hm hSt hl => ?_)
              · skip
                exact k_L_divides_303 C0 x1 x3 x4 x5 x10 x11 s0 H locs ls hm hSt hl hret hK43
      · have hm := hm.2 c_7
        refine lv_aload_n hx hb dL_divides_78 rfl (lv_at hl 0 rfl) ?_
        refine lv_iload hx hb dL_divides_79 (lv_at hl 5 rfl) ?_
        refine lv_iload hx hb dL_divides_81 (lv_at hl 9 rfl) ?_
        have ha0 := hm.1
        have hm := hm.2
        have ha1 := hm.1
        have hm := hm.2
        obtain ⟨w0, ⟨hP, hD, hS⟩, hW0⟩ := hSt
        have hFc := va_freeSame hD hS hA
        refine va_calli (vx_runSW (As := [.ref (ad 0), .int x5, .int x11]) (rest := []) ⟨hx, hb, hml, hown, hts⟩ (q_L_numerator l dC dI cy ad H.size w0 nj ti g x5 x11 hW0 ha0 ha1) (vx_cwSW 3 hts gL_divides_L_numerator rfl rfl rfl (by decide +kernel) ⟨Nat.le_of_ble_eq_true rfl, Nat.le_of_ble_eq_true rfl⟩) ⟨cPre_blind, fun U hU hW => ⟨rfl, cPre_at hP hK hD hN hU hW⟩⟩ rfl rfl hl.1 rfl (lv_room (Nat.le_of_ble_eq_true rfl)) dL_divides_83 ⟨Nat.zero_le _, Nat.zero_le _⟩) hS (fun q _ h => hFc q h) hFc (fun r_13 u t H locs ht hvm hw hB hz1 hk1 hS => ?_)
        obtain ⟨hr, hWu⟩ := hw
        have hm := hm r_13 hr
        have hSt : stG dC dI cy ad A s nj ti g H locs := ⟨u, ⟨cPost_P ht hB, cPost_D hFc hB, hS⟩, hWu⟩
        refine lv_i2l (v := (r_13).toInt64) hx hb dL_divides_86 rfl ?_
        refine lv_topl (fun x12_14 ex12_14 => ?_)
        have hm := hm x12_14 ex12_14
        refine lv_lstore (lv' := [(12, .long x12_14), (0, .ref (ad 0)), (1, .int x1), (2, .int x2), (3, .int x3), (4, .int x4), (5, .int x5), (6, .long x6), (8, .long x8), (10, .int x10), (11, .int x11)]) hx hb dL_divides_87 hl (by decide) rfl (fun ls hl => ?_)
        refine lv_aload_n hx hb dL_divides_89 rfl (lv_at hl 1 rfl) ?_
        refine lv_iload hx hb dL_divides_90 (lv_at hl 6 rfl) ?_
        refine lv_iload hx hb dL_divides_92 (lv_at hl 10 rfl) ?_
        have ha0 := hm.1
        have hm := hm.2
        have ha1 := hm.1
        have hm := hm.2
        obtain ⟨w0, ⟨hP, hD, hS⟩, hW0⟩ := hSt
        have hFc := va_freeSame hD hS hA
        refine va_calli (vx_runSW (As := [.ref (ad 0), .int x5, .int x11]) (rest := []) ⟨hx, hb, hml, hown, hts⟩ (q_L_denominator l dC dI cy ad H.size w0 nj ti g x5 x11 hW0 ha0 ha1) (vx_cwSW 3 hts gL_divides_L_denominator rfl rfl rfl (by decide +kernel) ⟨Nat.le_of_ble_eq_true rfl, Nat.le_of_ble_eq_true rfl⟩) ⟨cPre_blind, fun U hU hW => ⟨rfl, cPre_at hP hK hD hN hU hW⟩⟩ rfl rfl hl.1 rfl (lv_room (Nat.le_of_ble_eq_true rfl)) dL_divides_94 ⟨Nat.zero_le _, Nat.zero_le _⟩) hS (fun q _ h => hFc q h) hFc (fun r_15 u t H locs ht hvm hw hB hz1 hk1 hS => ?_)
        obtain ⟨hr, hWu⟩ := hw
        have hm := hm r_15 hr
        have hSt : stG dC dI cy ad A s nj ti g H locs := ⟨u, ⟨cPost_P ht hB, cPost_D hFc hB, hS⟩, hWu⟩
        refine lv_i2l (v := (r_15).toInt64) hx hb dL_divides_97 rfl ?_
        refine lv_topl (fun x14_16 ex14_16 => ?_)
        have hm := hm x14_16 ex14_16
        refine lv_lstore (lv' := [(14, .long x14_16), (12, .long x12_14), (0, .ref (ad 0)), (1, .int x1), (2, .int x2), (3, .int x3), (4, .int x4), (5, .int x5), (6, .long x6), (8, .long x8), (10, .int x10), (11, .int x11)]) hx hb dL_divides_98 hl (by decide) rfl (fun ls hl => ?_)
        refine lv_aload_n hx hb dL_divides_100 rfl (lv_at hl 2 rfl) ?_
        refine lv_iload hx hb dL_divides_101 (lv_at hl 7 rfl) ?_
        refine lv_iload hx hb dL_divides_103 (lv_at hl 11 rfl) ?_
        have ha0 := hm.1
        have hm := hm.2
        have ha1 := hm.1
        have hm := hm.2
        obtain ⟨w0, ⟨hP, hD, hS⟩, hW0⟩ := hSt
        have hFc := va_freeSame hD hS hA
        refine va_calli (vx_runSW (As := [.ref (ad 0), .int x5, .int x11]) (rest := []) ⟨hx, hb, hml, hown, hts⟩ (q_L_time l dC dI cy ad H.size w0 nj ti g x5 x11 hW0 ha0 ha1) (vx_cwSW 3 hts gL_divides_L_time rfl rfl rfl (by decide +kernel) ⟨Nat.le_of_ble_eq_true rfl, Nat.le_of_ble_eq_true rfl⟩) ⟨cPre_blind, fun U hU hW => ⟨rfl, cPre_at hP hK hD hN hU hW⟩⟩ rfl rfl hl.1 rfl (lv_room (Nat.le_of_ble_eq_true rfl)) dL_divides_105 ⟨Nat.zero_le _, Nat.zero_le _⟩) hS (fun q _ h => hFc q h) hFc (fun r_17 u t H locs ht hvm hw hB hz1 hk1 hS => ?_)
        obtain ⟨hr, hWu⟩ := hw
        have hm := hm r_17 hr
        have hSt : stG dC dI cy ad A s nj ti g H locs := ⟨u, ⟨cPost_P ht hB, cPost_D hFc hB, hS⟩, hWu⟩
        refine lv_istore (lv' := [(16, .int r_17), (14, .long x14_16), (12, .long x12_14), (0, .ref (ad 0)), (1, .int x1), (2, .int x2), (3, .int x3), (4, .int x4), (5, .int x5), (6, .long x6), (8, .long x8), (10, .int x10), (11, .int x11)]) hx hb dL_divides_108 hl (by decide) rfl (fun ls hl => ?_)
        refine lv_lload hx hb dL_divides_110 (lv_at hl 2 rfl) ?_
        refine lv_lconst (v := 0) hx hb dL_divides_112 (by decide) ?_
        refine lq_lt (tgt := 166) hx hb dL_divides_113 dL_divides_114 (by decide) (fun c_18 => ?_) (fun c_18 => ?_)
        · have hm := hm.1 c_18
          refine lv_iconst (v := 0) hx hb dL_divides_166 (by decide) ?_
          refine k_L_divides_167 C0 x1 x3 x4 x5 x6 x8 x10 x11 x12_14 x14_16 (0 : Int32) H locs ls hm hSt (lv_sub hl [3, 4, 6, 7, 8, 9, 10, 11, 12, 2, 1] rfl) hret (fun x1 x2 x3 x4 x5 x6 x8 x10 x11 H locs ls hm hSt hl => ?_)
          · skip
            exact ih x1 x2 x3 x4 x5 x6 x8 x10 x11 H locs ls hm hSt hl hret hK43
        · have hm := hm.2 c_18
          refine lv_lload hx hb dL_divides_117 (lv_at hl 1 rfl) ?_
          refine lv_lconst (v := 1) hx hb dL_divides_119 (by decide) ?_
          refine lq_lt (tgt := 166) hx hb dL_divides_120 dL_divides_121 (by decide) (fun c_19 => ?_) (fun c_19 => ?_)
          · have hm := hm.1 c_19
            refine lv_iconst (v := 0) hx hb dL_divides_166 (by decide) ?_
            refine k_L_divides_167 C0 x1 x3 x4 x5 x6 x8 x10 x11 x12_14 x14_16 (0 : Int32) H locs ls hm hSt (lv_sub hl [3, 4, 6, 7, 8, 9, 10, 11, 12, 2, 1] rfl) hret (fun x1 x2 x3 x4 x5 x6 x8 x10 x11 H locs ls hm hSt hl => ?_)
            · skip
              exact ih x1 x2 x3 x4 x5 x6 x8 x10 x11 H locs ls hm hSt hl hret hK43
          · have hm := hm.2 c_19
            refine lv_lload hx hb dL_divides_124 (lv_at hl 2 rfl) ?_
            refine lv_lload hx hb dL_divides_126 (lv_at hl 1 rfl) ?_
            refine lq_gt (tgt := 166) hx hb dL_divides_128 dL_divides_129 (by decide) (fun c_20 => ?_) (fun c_20 => ?_)
            · have hm := hm.1 c_20
              refine lv_iconst (v := 0) hx hb dL_divides_166 (by decide) ?_
              refine k_L_divides_167 C0 x1 x3 x4 x5 x6 x8 x10 x11 x12_14 x14_16 (0 : Int32) H locs ls hm hSt (lv_sub hl [3, 4, 6, 7, 8, 9, 10, 11, 12, 2, 1] rfl) hret (fun x1 x2 x3 x4 x5 x6 x8 x10 x11 H locs ls hm hSt hl => ?_)
              · skip
                exact ih x1 x2 x3 x4 x5 x6 x8 x10 x11 H locs ls hm hSt hl hret hK43
            · have hm := hm.2 c_20
              refine lv_lload hx hb dL_divides_132 (lv_at hl 2 rfl) ?_
              refine lv_lload hx hb dL_divides_134 (lv_at hl 1 rfl) ?_
              obtain ⟨w0, ⟨hP, hD, hS⟩, hW0⟩ := hSt
              have hFc := va_freeSame hD hS hA
              refine va_calll (va_runS (As := [.long x12_14, .long x14_16]) (rest := []) ⟨hx, hb, hml, hown, hts⟩ (c_L_common l dC dI cy ad H.size w0 nj ti g x12_14 x14_16 hW0 _ _ hm) (cwS 2 hts gL_divides_L_common rfl rfl rfl (by decide +kernel) ⟨Nat.le_of_ble_eq_true rfl, Nat.le_of_ble_eq_true rfl⟩) ⟨cPre_blind, fun U hU hW => ⟨rfl, cPre_at hP hK hD hN hU hW⟩⟩ rfl rfl hl.1 rfl (lv_room (Nat.le_of_ble_eq_true rfl)) dL_divides_136 ⟨Nat.zero_le _, Nat.zero_le _⟩) hS (fun q _ h => hFc q h) hFc (fun r_21 u t H locs ht hvm hw hB hz1 hk1 hS => ?_)
              obtain ⟨hm, hWu⟩ := hw
              have hSt : stG dC dI cy ad A s nj ti g H locs := ⟨u, ⟨cPost_P ht hB, cPost_D hFc hB, hS⟩, hWu⟩
              refine lv_lconst (v := 1) hx hb dL_divides_139 (by decide) ?_
              refine lq_ne (tgt := 166) hx hb dL_divides_140 dL_divides_141 (by decide) (fun c_22 => ?_) (fun c_22 => ?_)
              · have hm := hm.2 c_22
                refine lv_iconst (v := 0) hx hb dL_divides_166 (by decide) ?_
                refine k_L_divides_167 C0 x1 x3 x4 x5 x6 x8 x10 x11 x12_14 x14_16 (0 : Int32) H locs ls hm hSt (lv_sub hl [3, 4, 6, 7, 8, 9, 10, 11, 12, 2, 1] rfl) hret (fun x1 x2 x3 x4 x5 x6 x8 x10 x11 H locs ls hm hSt hl => ?_)
                · skip
                  exact ih x1 x2 x3 x4 x5 x6 x8 x10 x11 H locs ls hm hSt hl hret hK43
              · have hm := hm.1 c_22
                refine lv_lload hx hb dL_divides_144 (lv_at hl 2 rfl) ?_
                refine lv_lconst (v := 0) hx hb dL_divides_146 (by decide) ?_
                refine lq_eq (tgt := 162) hx hb dL_divides_147 dL_divides_148 (by decide) (fun c_23 => ?_) (fun c_23 => ?_)
                · have hm := hm.1 c_23
                  refine lv_iconst (v := 1) hx hb dL_divides_162 (by decide) ?_
                  refine lv_goto (tgt := 167) hx hb dL_divides_163 (by decide) ?_
                  refine k_L_divides_167 C0 x1 x3 x4 x5 x6 x8 x10 x11 x12_14 x14_16 (1 : Int32) H locs ls hm hSt (lv_sub hl [3, 4, 6, 7, 8, 9, 10, 11, 12, 2, 1] rfl) hret (fun x1 x2 x3 x4 x5 x6 x8 x10 x11 H locs ls hm hSt hl => ?_)
                  · skip
                    exact ih x1 x2 x3 x4 x5 x6 x8 x10 x11 H locs ls hm hSt hl hret hK43
                · have hm := hm.2 c_23
                  refine lv_iload hx hb dL_divides_151 (lv_at hl 0 rfl) ?_
                  refine lv_if_le (tgt := 166) hx hb dL_divides_153 (by decide) (fun c_24 => ?_) (fun c_24 => ?_)
                  · have hm := hm.1 c_24
                    refine lv_iconst (v := 0) hx hb dL_divides_166 (by decide) ?_
                    refine k_L_divides_167 C0 x1 x3 x4 x5 x6 x8 x10 x11 x12_14 x14_16 (0 : Int32) H locs ls hm hSt (lv_sub hl [3, 4, 6, 7, 8, 9, 10, 11, 12, 2, 1] rfl) hret (fun x1 x2 x3 x4 x5 x6 x8 x10 x11 H locs ls hm hSt hl => ?_)
                    · skip
                      exact ih x1 x2 x3 x4 x5 x6 x8 x10 x11 H locs ls hm hSt hl hret hK43
                  · have hm := hm.2 c_24
                    refine lv_iload hx hb dL_divides_156 (lv_at hl 0 rfl) ?_
                    refine lv_iload_n hx hb dL_divides_158 rfl (lv_at hl 4 rfl) ?_
                    refine lv_icmp_gt (tgt := 166) hx hb dL_divides_159 (by decide) (fun c_25 => ?_) (fun c_25 => ?_)
                    · have hm := hm.1 c_25
                      refine lv_iconst (v := 0) hx hb dL_divides_166 (by decide) ?_
                      refine k_L_divides_167 C0 x1 x3 x4 x5 x6 x8 x10 x11 x12_14 x14_16 (0 : Int32) H locs ls hm hSt (lv_sub hl [3, 4, 6, 7, 8, 9, 10, 11, 12, 2, 1] rfl) hret (fun x1 x2 x3 x4 x5 x6 x8 x10 x11 H locs ls hm hSt hl => ?_)
                      · skip
                        exact ih x1 x2 x3 x4 x5 x6 x8 x10 x11 H locs ls hm hSt hl hret hK43
                    · have hm := hm.2 c_25
                      refine lv_iconst (v := 1) hx hb dL_divides_162 (by decide) ?_
                      refine lv_goto (tgt := 167) hx hb dL_divides_163 (by decide) ?_
                      refine k_L_divides_167 C0 x1 x3 x4 x5 x6 x8 x10 x11 x12_14 x14_16 (1 : Int32) H locs ls hm hSt (lv_sub hl [3, 4, 6, 7, 8, 9, 10, 11, 12, 2, 1] rfl) hret (fun x1 x2 x3 x4 x5 x6 x8 x10 x11 H locs ls hm hSt hl => ?_)
                      · skip
                        exact ih x1 x2 x3 x4 x5 x6 x8 x10 x11 H locs ls hm hSt hl hret hK43

set_option maxHeartbeats 4000000 in
set_option maxRecDepth 100000 in
theorem k_L_divides_371 {N : Nat} {nj : Nat} {ti : Nat → Int32} {g : Nat → Nat} {Q : Int32 → Prop} (C0 : cxM cL_divides 17 (some .boolean) RL wsL_divides p s m args meth c dC dI cy A) :
    ∀ (x1 : Int32) (x2 : Int32) (x4 : Int32) (H : Heap) (locs : List Loc) (ls : Array Slot) (hm : p_L_divides_371 N nj ti g Q x1 x2 x4) (hSt : stG dC dI cy ad A s nj ti g H locs) (hl : lv_has ls 17 [(0, .ref (ad 0)), (1, .int x1), (2, .int x2), (4, .int x4)]) (hret : ∀ (r : Int32) (H : Heap) (locs : List Loc) (ls : Array Slot) (pc : Nat), decode cL_divides pc = .ok (.ireturn, 1) → narrow .boolean (.int r) = .int r → stG dC dI cy ad A s nj ti g H locs → Q r → W p l e rmL_divides s m args below meth c H locs 0 0 Z (F0 m pc ls [.int r])), W p l e rmL_divides s m args below meth c H locs 0 0 Z (F0 m 371 ls []) := by
  obtain ⟨hx, hb, hml, hr, hown, hts, hlocks, hK, hA, hN⟩ := id C0
  intro x1 x2 x4 H locs ls hm hSt hl hret
  skip
  unfold p_L_divides_371 at hm
  refine lv_iload_n hx hb dL_divides_371 rfl (lv_at hl 2 rfl) ?_
  refine lv_if_eq (tgt := 420) hx hb dL_divides_372 (by decide) (fun c_1 => ?_) (fun c_1 => ?_)
  · have hm := hm.1 c_1
    refine lv_iconst (v := 0) hx hb dL_divides_420 (by decide) ?_
    exact hret (0 : Int32) H locs ls 421 dL_divides_421 rfl hSt hm
  · have hm := hm.2 c_1
    refine lv_iload hx hb dL_divides_375 (lv_at hl 3 rfl) ?_
    refine lv_iconst (v := 3) hx hb dL_divides_377 (by decide) ?_
    refine lv_icmp_gt (tgt := 420) hx hb dL_divides_378 (by decide) (fun c_2 => ?_) (fun c_2 => ?_)
    · have hm := hm.1 c_2
      refine lv_iconst (v := 0) hx hb dL_divides_420 (by decide) ?_
      exact hret (0 : Int32) H locs ls 421 dL_divides_421 rfl hSt hm
    · have hm := hm.2 c_2
      refine lv_aload_n hx hb dL_divides_381 rfl (lv_at hl 0 rfl) ?_
      obtain ⟨w0, ⟨hP, hD, hS⟩, hW0⟩ := hSt
      have hFc := va_freeSame hD hS hA
      refine va_calli (va_runV (As := []) (rest := []) ⟨hx, hb, hml, hown, hts⟩ (q_X6_leastNumerator l dC dI cy ad H.size w0 nj ti g hW0 ) (cwV 0 hts gL_divides_X6_leastNumerator rfl rfl rfl (by decide +kernel) ⟨Nat.le_of_ble_eq_true rfl, Nat.le_of_ble_eq_true rfl⟩) ⟨cPre_blind, va_recv hK hP (ci := 6) (q0 := 0) rfl hW0.recv.choose_spec, fun U hU hW => ⟨rfl, cPre_at hP hK hD hN hU hW⟩⟩ rfl rfl hl.1 rfl (lv_room (Nat.le_of_ble_eq_true rfl)) dL_divides_382 ⟨Nat.zero_le _, Nat.zero_le _⟩) hS (fun q _ h => hFc q h) hFc (fun r_3 u t H locs ht hvm hw hB hz1 hk1 hS => ?_)
      obtain ⟨hr, hWu⟩ := hw
      have hm := hm r_3 hr
      have hSt : stG dC dI cy ad A s nj ti g H locs := ⟨u, ⟨cPost_P ht hB, cPost_D hFc hB, hS⟩, hWu⟩
      refine lv_i2l (v := (r_3).toInt64) hx hb dL_divides_385 rfl ?_
      refine lv_iload_n hx hb dL_divides_386 rfl (lv_at hl 1 rfl) ?_
      refine lv_i2l (v := (x1).toInt64) hx hb dL_divides_387 rfl ?_
      refine lv_aload_n hx hb dL_divides_388 rfl (lv_at hl 0 rfl) ?_
      obtain ⟨w0, ⟨hP, hD, hS⟩, hW0⟩ := hSt
      have hFc := va_freeSame hD hS hA
      refine va_calli (va_runV (As := []) (rest := [.long ((x1).toInt64), .long ((r_3).toInt64)]) ⟨hx, hb, hml, hown, hts⟩ (q_X6_leastDenominator l dC dI cy ad H.size w0 nj ti g hW0 ) (cwV 0 hts gL_divides_X6_leastDenominator rfl rfl rfl (by decide +kernel) ⟨Nat.le_of_ble_eq_true rfl, Nat.le_of_ble_eq_true rfl⟩) ⟨cPre_blind, va_recv hK hP (ci := 6) (q0 := 0) rfl hW0.recv.choose_spec, fun U hU hW => ⟨rfl, cPre_at hP hK hD hN hU hW⟩⟩ rfl rfl hl.1 rfl (lv_room (Nat.le_of_ble_eq_true rfl)) dL_divides_389 ⟨Nat.zero_le _, Nat.zero_le _⟩) hS (fun q _ h => hFc q h) hFc (fun r_4 u t H locs ht hvm hw hB hz1 hk1 hS => ?_)
      obtain ⟨hr, hWu⟩ := hw
      have hm := hm r_4 hr
      have hSt : stG dC dI cy ad A s nj ti g H locs := ⟨u, ⟨cPost_P ht hB, cPost_D hFc hB, hS⟩, hWu⟩
      refine lv_i2l (v := (r_4).toInt64) hx hb dL_divides_392 rfl ?_
      refine lv_lmul hx hb dL_divides_393 ?_
      refine lq_gt (tgt := 420) hx hb dL_divides_394 dL_divides_395 (by decide) (fun c_5 => ?_) (fun c_5 => ?_)
      · have hm := hm.1 c_5
        refine lv_iconst (v := 0) hx hb dL_divides_420 (by decide) ?_
        exact hret (0 : Int32) H locs ls 421 dL_divides_421 rfl hSt hm
      · have hm := hm.2 c_5
        refine lv_aload_n hx hb dL_divides_398 rfl (lv_at hl 0 rfl) ?_
        obtain ⟨w0, ⟨hP, hD, hS⟩, hW0⟩ := hSt
        have hFc := va_freeSame hD hS hA
        refine va_calli (va_runV (As := []) (rest := []) ⟨hx, hb, hml, hown, hts⟩ (q_X6_leastNumerator l dC dI cy ad H.size w0 nj ti g hW0 ) (cwV 0 hts gL_divides_X6_leastNumerator rfl rfl rfl (by decide +kernel) ⟨Nat.le_of_ble_eq_true rfl, Nat.le_of_ble_eq_true rfl⟩) ⟨cPre_blind, va_recv hK hP (ci := 6) (q0 := 0) rfl hW0.recv.choose_spec, fun U hU hW => ⟨rfl, cPre_at hP hK hD hN hU hW⟩⟩ rfl rfl hl.1 rfl (lv_room (Nat.le_of_ble_eq_true rfl)) dL_divides_399 ⟨Nat.zero_le _, Nat.zero_le _⟩) hS (fun q _ h => hFc q h) hFc (fun r_6 u t H locs ht hvm hw hB hz1 hk1 hS => ?_)
        obtain ⟨hr, hWu⟩ := hw
        have hm := hm r_6 hr
        have hSt : stG dC dI cy ad A s nj ti g H locs := ⟨u, ⟨cPost_P ht hB, cPost_D hFc hB, hS⟩, hWu⟩
        refine lv_i2l (v := (r_6).toInt64) hx hb dL_divides_402 rfl ?_
        refine lv_aload_n hx hb dL_divides_403 rfl (lv_at hl 0 rfl) ?_
        obtain ⟨w0, ⟨hP, hD, hS⟩, hW0⟩ := hSt
        have hFc := va_freeSame hD hS hA
        refine va_calli (va_runV (As := []) (rest := [.long ((r_6).toInt64)]) ⟨hx, hb, hml, hown, hts⟩ (q_X6_leastDenominator l dC dI cy ad H.size w0 nj ti g hW0 ) (cwV 0 hts gL_divides_X6_leastDenominator rfl rfl rfl (by decide +kernel) ⟨Nat.le_of_ble_eq_true rfl, Nat.le_of_ble_eq_true rfl⟩) ⟨cPre_blind, va_recv hK hP (ci := 6) (q0 := 0) rfl hW0.recv.choose_spec, fun U hU hW => ⟨rfl, cPre_at hP hK hD hN hU hW⟩⟩ rfl rfl hl.1 rfl (lv_room (Nat.le_of_ble_eq_true rfl)) dL_divides_404 ⟨Nat.zero_le _, Nat.zero_le _⟩) hS (fun q _ h => hFc q h) hFc (fun r_7 u t H locs ht hvm hw hB hz1 hk1 hS => ?_)
        obtain ⟨hr, hWu⟩ := hw
        have hm := hm r_7 hr
        have hSt : stG dC dI cy ad A s nj ti g H locs := ⟨u, ⟨cPost_P ht hB, cPost_D hFc hB, hS⟩, hWu⟩
        refine lv_i2l (v := (r_7).toInt64) hx hb dL_divides_407 rfl ?_
        obtain ⟨w0, ⟨hP, hD, hS⟩, hW0⟩ := hSt
        have hFc := va_freeSame hD hS hA
        refine va_calll (va_runS (As := [.long ((r_6).toInt64), .long ((r_7).toInt64)]) (rest := []) ⟨hx, hb, hml, hown, hts⟩ (c_L_common l dC dI cy ad H.size w0 nj ti g ((r_6).toInt64) ((r_7).toInt64) hW0 _ _ hm) (cwS 2 hts gL_divides_L_common rfl rfl rfl (by decide +kernel) ⟨Nat.le_of_ble_eq_true rfl, Nat.le_of_ble_eq_true rfl⟩) ⟨cPre_blind, fun U hU hW => ⟨rfl, cPre_at hP hK hD hN hU hW⟩⟩ rfl rfl hl.1 rfl (lv_room (Nat.le_of_ble_eq_true rfl)) dL_divides_408 ⟨Nat.zero_le _, Nat.zero_le _⟩) hS (fun q _ h => hFc q h) hFc (fun r_8 u t H locs ht hvm hw hB hz1 hk1 hS => ?_)
        obtain ⟨hm, hWu⟩ := hw
        have hSt : stG dC dI cy ad A s nj ti g H locs := ⟨u, ⟨cPost_P ht hB, cPost_D hFc hB, hS⟩, hWu⟩
        refine lv_lconst (v := 1) hx hb dL_divides_411 (by decide) ?_
        refine lq_ne (tgt := 420) hx hb dL_divides_412 dL_divides_413 (by decide) (fun c_9 => ?_) (fun c_9 => ?_)
        · have hm := hm.2 c_9
          refine lv_iconst (v := 0) hx hb dL_divides_420 (by decide) ?_
          exact hret (0 : Int32) H locs ls 421 dL_divides_421 rfl hSt hm
        · have hm := hm.1 c_9
          refine lv_iconst (v := 1) hx hb dL_divides_416 (by decide) ?_
          refine lv_goto (tgt := 421) hx hb dL_divides_417 (by decide) ?_
          exact hret (1 : Int32) H locs ls 421 dL_divides_421 rfl hSt hm

set_option maxHeartbeats 4000000 in
set_option maxRecDepth 100000 in
theorem k_L_divides_347 {N : Nat} {nj : Nat} {ti : Nat → Int32} {g : Nat → Nat} {Q : Int32 → Prop} (C0 : cxM cL_divides 17 (some .boolean) RL wsL_divides p s m args meth c dC dI cy A) :
    ∀ (n : Nat) (x1 : Int32) (x2 : Int32) (x4 : Int32) (x5 : Int32) (H : Heap) (locs : List Loc) (ls : Array Slot) (hm : p_L_divides_347 N nj ti g Q n x1 x2 x4 x5) (hSt : stG dC dI cy ad A s nj ti g H locs) (hl : lv_has ls 17 [(0, .ref (ad 0)), (1, .int x1), (2, .int x2), (4, .int x4), (5, .int x5)]) (hret : ∀ (r : Int32) (H : Heap) (locs : List Loc) (ls : Array Slot) (pc : Nat), decode cL_divides pc = .ok (.ireturn, 1) → narrow .boolean (.int r) = .int r → stG dC dI cy ad A s nj ti g H locs → Q r → W p l e rmL_divides s m args below meth c H locs 0 0 Z (F0 m pc ls [.int r])), W p l e rmL_divides s m args below meth c H locs 0 0 Z (F0 m 347 ls []) := by
  obtain ⟨hx, hb, hml, hr, hown, hts, hlocks, hK, hA, hN⟩ := id C0
  intro n
  induction n with
  | zero => intro x1 x2 x4 x5 H locs ls hm; exact False.elim hm
  | succ n ih =>
    intro x1 x2 x4 x5 H locs ls hm hSt hl hret
    skip
    unfold p_L_divides_347 at hm
    refine lv_iload hx hb dL_divides_347 (lv_at hl 4 rfl) ?_
    refine lv_iconst (v := 3) hx hb dL_divides_349 (by decide) ?_
    refine lv_icmp_ge (tgt := 371) hx hb dL_divides_350 (by decide) (fun c_1 => ?_) (fun c_1 => ?_)
    · have hm := hm.1 c_1
      exact k_L_divides_371 C0 x1 x2 x4 H locs ls hm hSt (lv_sub hl [0, 1, 2, 3] rfl) hret
    · have hm := hm.2 c_1
      refine lv_iload_n hx hb dL_divides_353 rfl (lv_at hl 2 rfl) ?_
      refine lv_if_eq (tgt := 371) hx hb dL_divides_354 (by decide) (fun c_2 => ?_) (fun c_2 => ?_)
      · have hm := hm.1 c_2
        exact k_L_divides_371 C0 x1 x2 x4 H locs ls hm hSt (lv_sub hl [0, 1, 2, 3] rfl) hret
      · have hm := hm.2 c_2
        refine lv_aload_n hx hb dL_divides_357 rfl (lv_at hl 0 rfl) ?_
        refine lv_iload hx hb dL_divides_358 (lv_at hl 4 rfl) ?_
        refine lv_iload_n hx hb dL_divides_360 rfl (lv_at hl 1 rfl) ?_
        obtain ⟨w0, ⟨hP, hD, hS⟩, hW0⟩ := hSt
        have hFc := va_freeSame hD hS hA
        refine va_calli (va_runS (As := [.ref (ad 0), .int x5, .int x1]) (rest := []) ⟨hx, hb, hml, hown, hts⟩ (c_L_isWithin l dC dI cy ad H.size w0 nj ti g x5 x1 hW0 _ _ hm) (cwS 3 hts gL_divides_L_isWithin rfl rfl rfl (by decide +kernel) ⟨Nat.le_of_ble_eq_true rfl, Nat.le_of_ble_eq_true rfl⟩) ⟨cPre_blind, fun U hU hW => ⟨rfl, cPre_at hP hK hD hN hU hW⟩⟩ rfl rfl hl.1 rfl (lv_room (Nat.le_of_ble_eq_true rfl)) dL_divides_361 ⟨Nat.zero_le _, Nat.zero_le _⟩) hS (fun q _ h => hFc q h) hFc (fun r_3 u t H locs ht hvm hw hB hz1 hk1 hS => ?_)
        obtain ⟨hm, hWu⟩ := hw
        obtain ⟨hm, nar_r_3⟩ := hm
        have hSt : stG dC dI cy ad A s nj ti g H locs := ⟨u, ⟨cPost_P ht hB, cPost_D hFc hB, hS⟩, hWu⟩
        refine lv_istore_n (lv' := [(2, .int r_3), (0, .ref (ad 0)), (1, .int x1), (4, .int x4), (5, .int x5)]) hx hb dL_divides_364 rfl hl (by decide) rfl (fun ls hl => ?_)
        obtain ⟨x5_4, ex5_4⟩ : ∃ y : Int32, y = x5 + (1 : Int32) := ⟨_, rfl⟩
        have hm := hm x5_4 ex5_4
        refine lv_iinc (v := x5_4) (lv' := [(5, .int x5_4), (2, .int r_3), (0, .ref (ad 0)), (1, .int x1), (4, .int x4)]) hx hb dL_divides_365 hl (k := 4) rfl (by rw [ex5_4]; rfl) (by decide) rfl (fun ls hl => ?_)
        refine lv_goto (tgt := 347) hx hb dL_divides_368 (by decide) ?_
        exact ih x1 r_3 x4 x5_4 H locs ls hm hSt (lv_sub hl [2, 3, 1, 4, 0] rfl) hret

set_option maxHeartbeats 4000000 in
set_option maxRecDepth 100000 in
theorem k_L_divides_43 {N : Nat} {nj : Nat} {ti : Nat → Int32} {g : Nat → Nat} {Q : Int32 → Prop} (C0 : cxM cL_divides 17 (some .boolean) RL wsL_divides p s m args meth c dC dI cy A) :
    ∀ (n : Nat) (x1 : Int32) (x2 : Int32) (x3 : Int32) (x4 : Int32) (x5 : Int32) (H : Heap) (locs : List Loc) (ls : Array Slot) (hm : p_L_divides_43 N nj ti g Q n x1 x2 x3 x4 x5) (hSt : stG dC dI cy ad A s nj ti g H locs) (hl : lv_has ls 17 [(0, .ref (ad 0)), (1, .int x1), (2, .int x2), (3, .int x3), (4, .int x4), (5, .int x5)]) (hret : ∀ (r : Int32) (H : Heap) (locs : List Loc) (ls : Array Slot) (pc : Nat), decode cL_divides pc = .ok (.ireturn, 1) → narrow .boolean (.int r) = .int r → stG dC dI cy ad A s nj ti g H locs → Q r → W p l e rmL_divides s m args below meth c H locs 0 0 Z (F0 m pc ls [.int r])), W p l e rmL_divides s m args below meth c H locs 0 0 Z (F0 m 43 ls []) := by
  obtain ⟨hx, hb, hml, hr, hown, hts, hlocks, hK, hA, hN⟩ := id C0
  intro n
  induction n with
  | zero => intro x1 x2 x3 x4 x5 H locs ls hm; exact False.elim hm
  | succ n ih =>
    intro x1 x2 x3 x4 x5 H locs ls hm hSt hl hret
    skip
    unfold p_L_divides_43 at hm
    refine lv_iload hx hb dL_divides_43 (lv_at hl 5 rfl) ?_
    refine lv_aload_n hx hb dL_divides_45 rfl (lv_at hl 0 rfl) ?_
    obtain ⟨w0, ⟨hP, hD, hS⟩, hW0⟩ := hSt
    have hFc := va_freeSame hD hS hA
    refine va_calli (va_runV (As := []) (rest := [.int x5]) ⟨hx, hb, hml, hown, hts⟩ (q_X6_jobs l dC dI cy ad H.size w0 nj ti g hW0 ) (cwV 0 hts gL_divides_X6_jobs rfl rfl rfl (by decide +kernel) ⟨Nat.le_of_ble_eq_true rfl, Nat.le_of_ble_eq_true rfl⟩) ⟨cPre_blind, va_recv hK hP (ci := 6) (q0 := 0) rfl hW0.recv.choose_spec, fun U hU hW => ⟨rfl, cPre_at hP hK hD hN hU hW⟩⟩ rfl rfl hl.1 rfl (lv_room (Nat.le_of_ble_eq_true rfl)) dL_divides_46 ⟨Nat.zero_le _, Nat.zero_le _⟩) hS (fun q _ h => hFc q h) hFc (fun r_1 u t H locs ht hvm hw hB hz1 hk1 hS => ?_)
    obtain ⟨hr, hWu⟩ := hw
    have hm := hm r_1 hr
    have hSt : stG dC dI cy ad A s nj ti g H locs := ⟨u, ⟨cPost_P ht hB, cPost_D hFc hB, hS⟩, hWu⟩
    refine lv_icmp_ge (tgt := 344) hx hb dL_divides_49 (by decide) (fun c_2 => ?_) (fun c_2 => ?_)
    · have hm := hm.1 c_2
      refine lv_iconst (v := 0) hx hb dL_divides_344 (by decide) ?_
      refine lv_istore (lv' := [(5, .int (0 : Int32)), (0, .ref (ad 0)), (1, .int x1), (2, .int x2), (3, .int x3), (4, .int x4)]) hx hb dL_divides_345 hl (by decide) rfl (fun ls hl => ?_)
      exact k_L_divides_347 C0 N x1 x2 x4 (0 : Int32) H locs ls hm hSt (lv_sub hl [1, 2, 3, 5, 0] rfl) hret
    · have hm := hm.2 c_2
      refine lv_iload_n hx hb dL_divides_52 rfl (lv_at hl 2 rfl) ?_
      refine lv_if_eq (tgt := 344) hx hb dL_divides_53 (by decide) (fun c_3 => ?_) (fun c_3 => ?_)
      · have hm := hm.1 c_3
        refine lv_iconst (v := 0) hx hb dL_divides_344 (by decide) ?_
        refine lv_istore (lv' := [(5, .int (0 : Int32)), (0, .ref (ad 0)), (1, .int x1), (2, .int x2), (3, .int x3), (4, .int x4)]) hx hb dL_divides_345 hl (by decide) rfl (fun ls hl => ?_)
        exact k_L_divides_347 C0 N x1 x2 x4 (0 : Int32) H locs ls hm hSt (lv_sub hl [1, 2, 3, 5, 0] rfl) hret
      · have hm := hm.2 c_3
        refine lv_lconst (v := 0) hx hb dL_divides_56 (by decide) ?_
        refine lv_lstore (lv' := [(6, .long (0 : Int64)), (0, .ref (ad 0)), (1, .int x1), (2, .int x2), (3, .int x3), (4, .int x4), (5, .int x5)]) hx hb dL_divides_57 hl (by decide) rfl (fun ls hl => ?_)
        refine lv_lconst (v := 1) hx hb dL_divides_59 (by decide) ?_
        refine lv_lstore (lv' := [(8, .long (1 : Int64)), (6, .long (0 : Int64)), (0, .ref (ad 0)), (1, .int x1), (2, .int x2), (3, .int x3), (4, .int x4), (5, .int x5)]) hx hb dL_divides_60 hl (by decide) rfl (fun ls hl => ?_)
        refine lv_iconst (v := 0) hx hb dL_divides_62 (by decide) ?_
        refine lv_istore (lv' := [(10, .int (0 : Int32)), (8, .long (1 : Int64)), (6, .long (0 : Int64)), (0, .ref (ad 0)), (1, .int x1), (2, .int x2), (3, .int x3), (4, .int x4), (5, .int x5)]) hx hb dL_divides_63 hl (by decide) rfl (fun ls hl => ?_)
        refine lv_iconst (v := 0) hx hb dL_divides_65 (by decide) ?_
        refine lv_istore (lv' := [(11, .int (0 : Int32)), (10, .int (0 : Int32)), (8, .long (1 : Int64)), (6, .long (0 : Int64)), (0, .ref (ad 0)), (1, .int x1), (2, .int x2), (3, .int x3), (4, .int x4), (5, .int x5)]) hx hb dL_divides_66 hl (by decide) rfl (fun ls hl => ?_)
        refine k_L_divides_68 C0 N x1 x2 x3 x4 x5 (0 : Int64) (1 : Int64) (0 : Int32) (0 : Int32) H locs ls hm hSt (lv_sub hl [4, 5, 6, 7, 8, 9, 3, 2, 1, 0] rfl) hret (fun x1 x2 x3 x4 x5 H locs ls hm hSt hl => ?_)
        · skip
          exact ih x1 x2 x3 x4 x5 H locs ls hm hSt hl hret

set_option maxHeartbeats 4000000 in
set_option maxRecDepth 100000 in
theorem k_L_divides_26 {N : Nat} {nj : Nat} {ti : Nat → Int32} {g : Nat → Nat} {Q : Int32 → Prop} (C0 : cxM cL_divides 17 (some .boolean) RL wsL_divides p s m args meth c dC dI cy A) :
    ∀ (x1 : Int32) (s0 : Int32) (s1 : Int32) (H : Heap) (locs : List Loc) (ls : Array Slot) (hm : p_L_divides_26 N nj ti g Q x1 s0 s1) (hSt : stG dC dI cy ad A s nj ti g H locs) (hl : lv_has ls 17 [(0, .ref (ad 0)), (1, .int x1)]) (hret : ∀ (r : Int32) (H : Heap) (locs : List Loc) (ls : Array Slot) (pc : Nat), decode cL_divides pc = .ok (.ireturn, 1) → narrow .boolean (.int r) = .int r → stG dC dI cy ad A s nj ti g H locs → Q r → W p l e rmL_divides s m args below meth c H locs 0 0 Z (F0 m pc ls [.int r])), W p l e rmL_divides s m args below meth c H locs 0 0 Z (F0 m 26 ls [.int s1, .int s0]) := by
  obtain ⟨hx, hb, hml, hr, hown, hts, hlocks, hK, hA, hN⟩ := id C0
  intro x1 s0 s1 H locs ls hm hSt hl hret
  skip
  unfold p_L_divides_26 at hm
  refine lv_icmp_ne (tgt := 33) hx hb dL_divides_26 (by decide) (fun c_1 => ?_) (fun c_1 => ?_)
  · have hm := hm.2 c_1
    refine lv_iconst (v := 0) hx hb dL_divides_33 (by decide) ?_
    refine lv_istore_n (lv' := [(2, .int (0 : Int32)), (0, .ref (ad 0)), (1, .int x1)]) hx hb dL_divides_34 rfl hl (by decide) rfl (fun ls hl => ?_)
    refine lv_iconst (v := 0) hx hb dL_divides_35 (by decide) ?_
    refine lv_istore_n (lv' := [(3, .int (0 : Int32)), (2, .int (0 : Int32)), (0, .ref (ad 0)), (1, .int x1)]) hx hb dL_divides_36 rfl hl (by decide) rfl (fun ls hl => ?_)
    refine lv_iconst (v := 0) hx hb dL_divides_37 (by decide) ?_
    refine lv_istore (lv' := [(4, .int (0 : Int32)), (3, .int (0 : Int32)), (2, .int (0 : Int32)), (0, .ref (ad 0)), (1, .int x1)]) hx hb dL_divides_38 hl (by decide) rfl (fun ls hl => ?_)
    refine lv_iconst (v := 0) hx hb dL_divides_40 (by decide) ?_
    refine lv_istore (lv' := [(5, .int (0 : Int32)), (4, .int (0 : Int32)), (3, .int (0 : Int32)), (2, .int (0 : Int32)), (0, .ref (ad 0)), (1, .int x1)]) hx hb dL_divides_41 hl (by decide) rfl (fun ls hl => ?_)
    exact k_L_divides_43 C0 N x1 (0 : Int32) (0 : Int32) (0 : Int32) (0 : Int32) H locs ls hm hSt (lv_sub hl [4, 5, 3, 2, 1, 0] rfl) hret
  · have hm := hm.1 c_1
    refine lv_iconst (v := 1) hx hb dL_divides_29 (by decide) ?_
    refine lv_goto (tgt := 34) hx hb dL_divides_30 (by decide) ?_
    refine lv_istore_n (lv' := [(2, .int (1 : Int32)), (0, .ref (ad 0)), (1, .int x1)]) hx hb dL_divides_34 rfl hl (by decide) rfl (fun ls hl => ?_)
    refine lv_iconst (v := 0) hx hb dL_divides_35 (by decide) ?_
    refine lv_istore_n (lv' := [(3, .int (0 : Int32)), (2, .int (1 : Int32)), (0, .ref (ad 0)), (1, .int x1)]) hx hb dL_divides_36 rfl hl (by decide) rfl (fun ls hl => ?_)
    refine lv_iconst (v := 0) hx hb dL_divides_37 (by decide) ?_
    refine lv_istore (lv' := [(4, .int (0 : Int32)), (3, .int (0 : Int32)), (2, .int (1 : Int32)), (0, .ref (ad 0)), (1, .int x1)]) hx hb dL_divides_38 hl (by decide) rfl (fun ls hl => ?_)
    refine lv_iconst (v := 0) hx hb dL_divides_40 (by decide) ?_
    refine lv_istore (lv' := [(5, .int (0 : Int32)), (4, .int (0 : Int32)), (3, .int (0 : Int32)), (2, .int (1 : Int32)), (0, .ref (ad 0)), (1, .int x1)]) hx hb dL_divides_41 hl (by decide) rfl (fun ls hl => ?_)
    exact k_L_divides_43 C0 N x1 (1 : Int32) (0 : Int32) (0 : Int32) (0 : Int32) H locs ls hm hSt (lv_sub hl [4, 5, 3, 2, 1, 0] rfl) hret

set_option maxHeartbeats 4000000 in
set_option maxRecDepth 100000 in
theorem k_L_divides_0 {N : Nat} {nj : Nat} {ti : Nat → Int32} {g : Nat → Nat} {Q : Int32 → Prop} (C0 : cxM cL_divides 17 (some .boolean) RL wsL_divides p s m args meth c dC dI cy A) :
    ∀  (H : Heap) (locs : List Loc) (ls : Array Slot) (hm : p_L_divides N nj ti g Q ) (hSt : stG dC dI cy ad A s nj ti g H locs) (hl : lv_has ls 17 [(0, .ref (ad 0))]) (hret : ∀ (r : Int32) (H : Heap) (locs : List Loc) (ls : Array Slot) (pc : Nat), decode cL_divides pc = .ok (.ireturn, 1) → narrow .boolean (.int r) = .int r → stG dC dI cy ad A s nj ti g H locs → Q r → W p l e rmL_divides s m args below meth c H locs 0 0 Z (F0 m pc ls [.int r])), W p l e rmL_divides s m args below meth c H locs 0 0 Z (F0 m 0 ls []) := by
  obtain ⟨hx, hb, hml, hr, hown, hts, hlocks, hK, hA, hN⟩ := id C0
  intro  H locs ls hm hSt hl hret
  skip
  unfold p_L_divides at hm
  refine lv_aload_n hx hb dL_divides_0 rfl (lv_at hl 0 rfl) ?_
  obtain ⟨w0, ⟨hP, hD, hS⟩, hW0⟩ := hSt
  have hFc := va_freeSame hD hS hA
  refine va_calli (va_runV (As := []) (rest := []) ⟨hx, hb, hml, hown, hts⟩ (q_X6_bound l dC dI cy ad H.size w0 nj ti g hW0 ) (cwV 0 hts gL_divides_X6_bound rfl rfl rfl (by decide +kernel) ⟨Nat.le_of_ble_eq_true rfl, Nat.le_of_ble_eq_true rfl⟩) ⟨cPre_blind, va_recv hK hP (ci := 6) (q0 := 0) rfl hW0.recv.choose_spec, fun U hU hW => ⟨rfl, cPre_at hP hK hD hN hU hW⟩⟩ rfl rfl hl.1 rfl (lv_room (Nat.le_of_ble_eq_true rfl)) dL_divides_1 ⟨Nat.zero_le _, Nat.zero_le _⟩) hS (fun q _ h => hFc q h) hFc (fun r_1 u t H locs ht hvm hw hB hz1 hk1 hS => ?_)
  obtain ⟨hr, hWu⟩ := hw
  have hm := hm r_1 hr
  have hSt : stG dC dI cy ad A s nj ti g H locs := ⟨u, ⟨cPost_P ht hB, cPost_D hFc hB, hS⟩, hWu⟩
  refine lv_istore_n (lv' := [(1, .int r_1), (0, .ref (ad 0))]) hx hb dL_divides_4 rfl hl (by decide) rfl (fun ls hl => ?_)
  refine lv_aload_n hx hb dL_divides_5 rfl (lv_at hl 1 rfl) ?_
  obtain ⟨w0, ⟨hP, hD, hS⟩, hW0⟩ := hSt
  have hFc := va_freeSame hD hS hA
  refine va_calli (va_runV (As := []) (rest := []) ⟨hx, hb, hml, hown, hts⟩ (q_X6_jobs l dC dI cy ad H.size w0 nj ti g hW0 ) (cwV 0 hts gL_divides_X6_jobs rfl rfl rfl (by decide +kernel) ⟨Nat.le_of_ble_eq_true rfl, Nat.le_of_ble_eq_true rfl⟩) ⟨cPre_blind, va_recv hK hP (ci := 6) (q0 := 0) rfl hW0.recv.choose_spec, fun U hU hW => ⟨rfl, cPre_at hP hK hD hN hU hW⟩⟩ rfl rfl hl.1 rfl (lv_room (Nat.le_of_ble_eq_true rfl)) dL_divides_6 ⟨Nat.zero_le _, Nat.zero_le _⟩) hS (fun q _ h => hFc q h) hFc (fun r_2 u t H locs ht hvm hw hB hz1 hk1 hS => ?_)
  obtain ⟨hr, hWu⟩ := hw
  have hm := hm r_2 hr
  have hSt : stG dC dI cy ad A s nj ti g H locs := ⟨u, ⟨cPost_P ht hB, cPost_D hFc hB, hS⟩, hWu⟩
  refine lv_if_ne (tgt := 16) hx hb dL_divides_9 (by decide) (fun c_3 => ?_) (fun c_3 => ?_)
  · have hm := hm.2 c_3
    refine lv_iconst (v := 0) hx hb dL_divides_16 (by decide) ?_
    refine lv_iload_n hx hb dL_divides_17 rfl (lv_at hl 0 rfl) ?_
    refine lv_if_ne (tgt := 25) hx hb dL_divides_18 (by decide) (fun c_4 => ?_) (fun c_4 => ?_)
    · have hm := hm.2 c_4
      refine lv_iconst (v := 0) hx hb dL_divides_25 (by decide) ?_
      exact k_L_divides_26 C0 r_1 (0 : Int32) (0 : Int32) H locs ls hm hSt (lv_sub hl [1, 0] rfl) hret
    · have hm := hm.1 c_4
      refine lv_iconst (v := 1) hx hb dL_divides_21 (by decide) ?_
      refine lv_goto (tgt := 26) hx hb dL_divides_22 (by decide) ?_
      exact k_L_divides_26 C0 r_1 (0 : Int32) (1 : Int32) H locs ls hm hSt (lv_sub hl [1, 0] rfl) hret
  · have hm := hm.1 c_3
    refine lv_iconst (v := 1) hx hb dL_divides_12 (by decide) ?_
    refine lv_goto (tgt := 17) hx hb dL_divides_13 (by decide) ?_
    refine lv_iload_n hx hb dL_divides_17 rfl (lv_at hl 0 rfl) ?_
    refine lv_if_ne (tgt := 25) hx hb dL_divides_18 (by decide) (fun c_5 => ?_) (fun c_5 => ?_)
    · have hm := hm.2 c_5
      refine lv_iconst (v := 0) hx hb dL_divides_25 (by decide) ?_
      exact k_L_divides_26 C0 r_1 (1 : Int32) (0 : Int32) H locs ls hm hSt (lv_sub hl [1, 0] rfl) hret
    · have hm := hm.1 c_5
      refine lv_iconst (v := 1) hx hb dL_divides_21 (by decide) ?_
      refine lv_goto (tgt := 26) hx hb dL_divides_22 (by decide) ?_
      exact k_L_divides_26 C0 r_1 (1 : Int32) (1 : Int32) H locs ls hm hSt (lv_sub hl [1, 0] rfl) hret

set_option maxHeartbeats 4000000 in
set_option maxRecDepth 100000 in
theorem c_L_divides (l : Launch) (dC : Nat → ClassId) (dI : Nat → Nat → Nat) (cy : Nat → ClassId) (ad : Nat → Nat) (sz : Nat) (w : va_W) (n : Nat) (ti : Nat → Int32) (g : Nat → Nat)  (hWG : WG ad cy n ti g w) (N : Nat) (Q : Int32 → Prop) (hm : p_L_divides N n ti g Q ) : Met l yL_divides wsL_divides rmL_divides (va_Pc [.ref (ad 0)] (cPre dC dI cy w sz)) (va_Qi (fun (r : Int32) (u : va_W) => (Q r ∧ narrow .boolean (.int r) = .int r) ∧ WG ad cy n ti g u) (fun u t => cPost dC dI cy w sz u t) (va_A w sz)) 0 0 (va_A w sz) := by
  refine Met.ofW (cc := cL_divides) (maxL := 17) (ret := (some .boolean)) (by decide) rfl ?_
  intro p e s m args below meth c s₁ B hml hv
  obtain ⟨rfl, hsz, hP, hK, hD0, hN⟩ := hv
  have hts := atoms_spec (ws := wsL_divides) B.pre
  have hown : s.vm.findClass RL = some m.cls := findClass_of_methodNamed B.named
  subst hsz
  have hD := hD0.self (sz := s.heap.size)
  generalize hAe : va_A w s.heap.size = A at hD ⊢
  have hA : ∀ q : Nat, s.heap.size ≤ q → A q := fun q h => by rw [← hAe]; exact Or.inr h
  have hl := lv_entry ([.ref (ad 0)]) (n := 17) (Nat.le_of_ble_eq_true rfl)
  rw [lg_entry_eq]
  generalize (lg_sl ([.ref (ad 0)]) ++ List.replicate (17 - (lg_sl ([.ref (ad 0)])).length) Slot.unset).toArray = ls at hl ⊢
  have hl : lv_has ls 17 [(0, .ref (ad 0))] := hl
  exact k_L_divides_0 ⟨B.exec, B.bytes, hml, B.returns, hown, hts, B.notSynchronized, hK, hA, hN⟩  s.heap [] ls hm ⟨w, ⟨hP, hD, va_S.rf⟩, hWG⟩ (lv_sub hl [0] rfl) (fun r H locs ls pc hdg hn hSt hq => by
    obtain ⟨u, hSu, hWu⟩ := hSt
    exact W.zret B.exec B.bytes B.returns hn (fun t ht hW => ⟨⟨r, u, rfl, ⟨⟨hq, hn⟩, hWu⟩, cPost_of hAe ht hW.alike hSu hK⟩, hSu.2.2.F ht⟩) hSu.2.2.2.2 hdg B.notSynchronized)

-- ===== L_plans, up to its floats
abbrev rmL_plans : Room := { frames := 45, cells := 0, slots := 0, locals := 4415 }
def p_L_plans_163 (N : Nat) (nj : Nat) (ti : Nat → Int32) (g : Nat → Nat) (Q : Int32 → Prop) (K53 : Int32 → Int32 → Int32 → Int32 → Int32 → Int32 → Int32 → Int32 → Int32 → Int32 → Prop) (x1 : Int32) (x2 : Int32) (x3 : Int32) (x4 : Int32) (x5 : Int32) (x6 : Int32) (x7 : Int32) (x9 : Int32) (x10 : Int32) (x11 : Int32) (s0 : Int32) (s1 : Int32) : Prop :=
  ∀ x8_1 : Int32, x8_1 = s0 + s1 → (jOK nj x10 ∧ (∀ r_2 : Int32, r_2 = nI (g (x10).toNatClampNeg) → ((r_2 = x6 → (∀ x9_6 : Int32, x9_6 = x9 + x11 → (∀ x10_7 : Int32, x10_7 = x10 + (1 : Int32) → (K53 x1 x2 x3 x4 x5 x6 x7 x8_1 x9_6 x10_7)))) ∧ (¬ r_2 = x6 → (∀ x9_4 : Int32, x9_4 = x9 + (0 : Int32) → (∀ x10_5 : Int32, x10_5 = x10 + (1 : Int32) → (K53 x1 x2 x3 x4 x5 x6 x7 x8_1 x9_4 x10_5)))))))

def p_L_plans_234 (N : Nat) (nj : Nat) (ti : Nat → Int32) (g : Nat → Nat) (Q : Int32 → Prop) (K30 : Int32 → Int32 → Int32 → Int32 → Int32 → Int32 → Prop) (x1 : Int32) (x2 : Int32) (x3 : Int32) (x5 : Int32) (x6 : Int32) (x9 : Int32) (s0 : Int32) : Prop :=
  (x5 = 0 → (∀ x6_2 : Int32, x6_2 = x6 + (1 : Int32) → (K30 x1 x2 x3 s0 (0 : Int32) x6_2))) ∧ (¬ x5 = 0 → (jOK 3 x6 ∧ (∀ r_3 : Int32, r_3 = nI (ldN nj (tN ti) g (x6).toNatClampNeg) → ((r_3 = x9 → (∀ x6_6 : Int32, x6_6 = x6 + (1 : Int32) → (K30 x1 x2 x3 s0 (1 : Int32) x6_6))) ∧ (¬ r_3 = x9 → (∀ x6_5 : Int32, x6_5 = x6 + (1 : Int32) → (K30 x1 x2 x3 s0 (0 : Int32) x6_5)))))))

def p_L_plans_120 (N : Nat) (nj : Nat) (ti : Nat → Int32) (g : Nat → Nat) (Q : Int32 → Prop) (K53 : Int32 → Int32 → Int32 → Int32 → Int32 → Int32 → Int32 → Int32 → Int32 → Int32 → Prop) (x1 : Int32) (x2 : Int32) (x3 : Int32) (x4 : Int32) (x6 : Int32) (x7 : Int32) (x8 : Int32) (x9 : Int32) (x10 : Int32) (x11 : Int32) (s0 : Int32) : Prop :=
  jOK nj x10 ∧ (∀ r_1 : Int32, r_1 = nI ((bP nj ti).1 (x10).toNatClampNeg) ∧ SF nj ti → ((r_1 = x6 → (∀ x7_6 : Int32, x7_6 = x7 + x11 → (jOK nj x10 ∧ (∀ r_7 : Int32, r_7 = nI (rD nj ti (x10).toNatClampNeg) ∧ DF nj ti → ((r_7 = x6 → (p_L_plans_163 N nj ti g Q K53 x1 x2 x3 x4 s0 x6 x7_6 x9 x10 x11 x8 x11)) ∧ (¬ r_7 = x6 → (p_L_plans_163 N nj ti g Q K53 x1 x2 x3 x4 s0 x6 x7_6 x9 x10 x11 x8 (0 : Int32)))))))) ∧ (¬ r_1 = x6 → (∀ x7_3 : Int32, x7_3 = x7 + (0 : Int32) → (jOK nj x10 ∧ (∀ r_4 : Int32, r_4 = nI (rD nj ti (x10).toNatClampNeg) ∧ DF nj ti → ((r_4 = x6 → (p_L_plans_163 N nj ti g Q K53 x1 x2 x3 x4 s0 x6 x7_3 x9 x10 x11 x8 x11)) ∧ (¬ r_4 = x6 → (p_L_plans_163 N nj ti g Q K53 x1 x2 x3 x4 s0 x6 x7_3 x9 x10 x11 x8 (0 : Int32))))))))))

def p_L_plans_219 (N : Nat) (nj : Nat) (ti : Nat → Int32) (g : Nat → Nat) (Q : Int32 → Prop) (K30 : Int32 → Int32 → Int32 → Int32 → Int32 → Int32 → Prop) (x1 : Int32) (x2 : Int32) (x4 : Int32) (x5 : Int32) (x6 : Int32) (x9 : Int32) (s0 : Int32) : Prop :=
  (x9 ≤ x4 → (p_L_plans_234 N nj ti g Q K30 x1 x2 s0 x5 x6 x9 x4)) ∧ (¬ x9 ≤ x4 → (p_L_plans_234 N nj ti g Q K30 x1 x2 s0 x5 x6 x9 x9))

def p_L_plans_53 (N : Nat) (nj : Nat) (ti : Nat → Int32) (g : Nat → Nat) (Q : Int32 → Prop) (K30 : Int32 → Int32 → Int32 → Int32 → Int32 → Int32 → Prop) : Nat → Int32 → Int32 → Int32 → Int32 → Int32 → Int32 → Int32 → Int32 → Int32 → Int32 → Prop
  | 0 => fun _ _ _ _ _ _ _ _ _ _ => False
  | n + 1 => fun x1 x2 x3 x4 x5 x6 x7 x8 x9 x10 => ∀ r_1 : Int32, r_1 = nI nj → ((r_1 ≤ x10 → ((x7 ≤ x2 → ((x8 ≤ x3 → (p_L_plans_219 N nj ti g Q K30 x1 x2 x4 x5 x6 x9 x3)) ∧ (¬ x8 ≤ x3 → (p_L_plans_219 N nj ti g Q K30 x1 x2 x4 x5 x6 x9 x8)))) ∧ (¬ x7 ≤ x2 → ((x8 ≤ x3 → (p_L_plans_219 N nj ti g Q K30 x1 x7 x4 x5 x6 x9 x3)) ∧ (¬ x8 ≤ x3 → (p_L_plans_219 N nj ti g Q K30 x1 x7 x4 x5 x6 x9 x8)))))) ∧ (¬ r_1 ≤ x10 → (jOK nj x10 ∧ (jOK 3 x6 ∧ (∀ r_6 : Int32, r_6 = ti (3 * (x10).toNatClampNeg + (x6).toNatClampNeg) → ((x5 = 0 → (p_L_plans_120 N nj ti g Q (fun x1 x2 x3 x4 x5 x6 x7 x8 x9 x10 => p_L_plans_53 N nj ti g Q K30 n x1 x2 x3 x4 x5 x6 x7 x8 x9 x10) x1 x2 x3 x4 x6 x7 x8 x9 x10 r_6 (0 : Int32))) ∧ (¬ x5 = 0 → ((0 < r_6 → (p_L_plans_120 N nj ti g Q (fun x1 x2 x3 x4 x5 x6 x7 x8 x9 x10 => p_L_plans_53 N nj ti g Q K30 n x1 x2 x3 x4 x5 x6 x7 x8 x9 x10) x1 x2 x3 x4 x6 x7 x8 x9 x10 r_6 (1 : Int32))) ∧ (¬ 0 < r_6 → (jOK nj x10 ∧ (∀ r_9 : Int32, r_9 = nI ((bP nj ti).1 (x10).toNatClampNeg) ∧ SF nj ti → ((r_9 = x6 → (p_L_plans_120 N nj ti g Q (fun x1 x2 x3 x4 x5 x6 x7 x8 x9 x10 => p_L_plans_53 N nj ti g Q K30 n x1 x2 x3 x4 x5 x6 x7 x8 x9 x10) x1 x2 x3 x4 x6 x7 x8 x9 x10 r_6 (0 : Int32))) ∧ (¬ r_9 = x6 → (jOK nj x10 ∧ (∀ r_11 : Int32, r_11 = nI (rD nj ti (x10).toNatClampNeg) ∧ DF nj ti → ((r_11 = x6 → (p_L_plans_120 N nj ti g Q (fun x1 x2 x3 x4 x5 x6 x7 x8 x9 x10 => p_L_plans_53 N nj ti g Q K30 n x1 x2 x3 x4 x5 x6 x7 x8 x9 x10) x1 x2 x3 x4 x6 x7 x8 x9 x10 r_6 (0 : Int32))) ∧ (¬ r_11 = x6 → (jOK nj x10 ∧ (∀ r_13 : Int32, r_13 = nI (g (x10).toNatClampNeg) → ((r_13 = x6 → (p_L_plans_120 N nj ti g Q (fun x1 x2 x3 x4 x5 x6 x7 x8 x9 x10 => p_L_plans_53 N nj ti g Q K30 n x1 x2 x3 x4 x5 x6 x7 x8 x9 x10) x1 x2 x3 x4 x6 x7 x8 x9 x10 r_6 (0 : Int32))) ∧ (¬ r_13 = x6 → (p_L_plans_120 N nj ti g Q (fun x1 x2 x3 x4 x5 x6 x7 x8 x9 x10 => p_L_plans_53 N nj ti g Q K30 n x1 x2 x3 x4 x5 x6 x7 x8 x9 x10) x1 x2 x3 x4 x6 x7 x8 x9 x10 r_6 (1 : Int32)))))))))))))))))))))))

def p_L_plans_325 (N : Nat) (nj : Nat) (ti : Nat → Int32) (g : Nat → Nat) (Q : Int32 → Prop) (K333 : Int32 → Int32 → Prop) (x1 : Int32) (x3 : Int32) : Prop :=
  ((0 : Int32) = 0 → (Q (0 : Int32))) ∧ (¬ (0 : Int32) = 0 → (K333 x1 x3))

def p_L_plans_265 (N : Nat) (nj : Nat) (ti : Nat → Int32) (g : Nat → Nat) (Q : Int32 → Prop) (K333 : Int32 → Int32 → Prop) (x1 : Int32) (x2 : Int32) (x3 : Int32) (x4 : Int32) (x5 : Int32) : Prop :=
  (x5 = 0 → (p_L_plans_325 N nj ti g Q K333 x1 x3)) ∧ (¬ x5 = 0 → ((x2 = x1 → (∀ r_3 : Int32, r_3 = nI (lenN nj (tN ti) (rD nj ti)) ∧ DF nj ti → ((x3 = r_3 → (∀ r_5 : Int32, r_5 = nI (lenN nj (tN ti) g) → ((x4 = r_5 → ((x3 < x1 → (p_L_plans_325 N nj ti g Q K333 x1 x3)) ∧ (¬ x3 < x1 → ((x4 < x1 → (p_L_plans_325 N nj ti g Q K333 x1 x3)) ∧ (¬ x4 < x1 → (∀ r_9 : Int32, r_9 = nI (tB nj ti) ∧ DF nj ti → ((x1 < r_9 → (p_L_plans_325 N nj ti g Q K333 x1 x3)) ∧ (¬ x1 < r_9 → (∀ r_11 : Int32, r_11 = nI (tB nj ti) ∧ DF nj ti → ((((2 : Int32) * r_11) < x3 → (p_L_plans_325 N nj ti g Q K333 x1 x3)) ∧ (¬ ((2 : Int32) * r_11) < x3 → (((1 : Int32) = 0 → (Q (0 : Int32))) ∧ (¬ (1 : Int32) = 0 → (K333 x1 x3)))))))))))))) ∧ (¬ x4 = r_5 → (p_L_plans_325 N nj ti g Q K333 x1 x3))))) ∧ (¬ x3 = r_3 → (p_L_plans_325 N nj ti g Q K333 x1 x3))))) ∧ (¬ x2 = x1 → (p_L_plans_325 N nj ti g Q K333 x1 x3))))

def p_L_plans_30 (N : Nat) (nj : Nat) (ti : Nat → Int32) (g : Nat → Nat) (Q : Int32 → Prop) (K333 : Int32 → Int32 → Prop) : Nat → Int32 → Int32 → Int32 → Int32 → Int32 → Int32 → Prop
  | 0 => fun _ _ _ _ _ _ => False
  | n + 1 => fun x1 x2 x3 x4 x5 x6 => ((3 : Int32) ≤ x6 → (p_L_plans_265 N nj ti g Q K333 x1 x2 x3 x4 x5)) ∧ (¬ (3 : Int32) ≤ x6 → ((x5 = 0 → (p_L_plans_265 N nj ti g Q K333 x1 x2 x3 x4 x5)) ∧ (¬ x5 = 0 → (p_L_plans_53 N nj ti g Q (fun x1 x2 x3 x4 x5 x6 => p_L_plans_30 N nj ti g Q K333 n x1 x2 x3 x4 x5 x6) N x1 x2 x3 x4 x5 x6 (0 : Int32) (0 : Int32) (0 : Int32) (0 : Int32)))))

def p_L_plans (N : Nat) (nj : Nat) (ti : Nat → Int32) (g : Nat → Nat) (Q : Int32 → Prop) (K333 : Int32 → Int32 → Prop)  : Prop :=
  ∀ r_1 : Int32, r_1 = nI (bP nj ti).2 ∧ SF nj ti → (∀ r_2 : Int32, r_2 = nI (bP nj ti).2 → ((r_1 = r_2 → (p_L_plans_30 N nj ti g Q K333 N r_1 (0 : Int32) (0 : Int32) (0 : Int32) (1 : Int32) (0 : Int32))) ∧ (¬ r_1 = r_2 → (p_L_plans_30 N nj ti g Q K333 N r_1 (0 : Int32) (0 : Int32) (0 : Int32) (0 : Int32) (0 : Int32)))))

set_option maxHeartbeats 4000000 in
set_option maxRecDepth 100000 in
theorem k_L_plans_163 {N : Nat} {nj : Nat} {ti : Nat → Int32} {g : Nat → Nat} {Q : Int32 → Prop} {K53 : Int32 → Int32 → Int32 → Int32 → Int32 → Int32 → Int32 → Int32 → Int32 → Int32 → Prop} (C0 : cxM cL_plans 12 (some .boolean) RL wsL_plans p s m args meth c dC dI cy A) :
    ∀ (x1 : Int32) (x2 : Int32) (x3 : Int32) (x4 : Int32) (x5 : Int32) (x6 : Int32) (x7 : Int32) (x9 : Int32) (x10 : Int32) (x11 : Int32) (s0 : Int32) (s1 : Int32) (H : Heap) (locs : List Loc) (ls : Array Slot) (hm : p_L_plans_163 N nj ti g Q K53 x1 x2 x3 x4 x5 x6 x7 x9 x10 x11 s0 s1) (hSt : stG dC dI cy ad A s nj ti g H locs) (hl : lv_has ls 12 [(0, .ref (ad 0)), (1, .int x1), (2, .int x2), (3, .int x3), (4, .int x4), (5, .int x5), (6, .int x6), (7, .int x7), (9, .int x9), (10, .int x10), (11, .int x11)]) (hret : ∀ (r : Int32) (H : Heap) (locs : List Loc) (ls : Array Slot) (pc : Nat), decode cL_plans pc = .ok (.ireturn, 1) → narrow .boolean (.int r) = .int r → stG dC dI cy ad A s nj ti g H locs → Q r → W p l e rmL_plans s m args below meth c H locs 0 0 Z (F0 m pc ls [.int r])) (hK53 : ∀ (x1 : Int32) (x2 : Int32) (x3 : Int32) (x4 : Int32) (x5 : Int32) (x6 : Int32) (x7 : Int32) (x8 : Int32) (x9 : Int32) (x10 : Int32) (H : Heap) (locs : List Loc) (ls : Array Slot), K53 x1 x2 x3 x4 x5 x6 x7 x8 x9 x10 → stG dC dI cy ad A s nj ti g H locs → lv_has ls 12 [(0, .ref (ad 0)), (1, .int x1), (2, .int x2), (3, .int x3), (4, .int x4), (5, .int x5), (6, .int x6), (7, .int x7), (8, .int x8), (9, .int x9), (10, .int x10)] → W p l e rmL_plans s m args below meth c H locs 0 0 Z (F0 m 53 ls [])), W p l e rmL_plans s m args below meth c H locs 0 0 Z (F0 m 163 ls [.int s1, .int s0]) := by
  obtain ⟨hx, hb, hml, hr, hown, hts, hlocks, hK, hA, hN⟩ := id C0
  intro x1 x2 x3 x4 x5 x6 x7 x9 x10 x11 s0 s1 H locs ls hm hSt hl hret hK53
  skip
  unfold p_L_plans_163 at hm
  refine lv_iadd hx hb dL_plans_163 ?_
  refine lv_topi (fun x8_1 ex8_1 => ?_)
  have hm := hm x8_1 ex8_1
  refine lv_istore (lv' := [(8, .int x8_1), (0, .ref (ad 0)), (1, .int x1), (2, .int x2), (3, .int x3), (4, .int x4), (5, .int x5), (6, .int x6), (7, .int x7), (9, .int x9), (10, .int x10), (11, .int x11)]) hx hb dL_plans_164 hl (by decide) rfl (fun ls hl => ?_)
  refine lv_iload hx hb dL_plans_166 (lv_at hl 9 rfl) ?_
  refine lv_aload_n hx hb dL_plans_168 rfl (lv_at hl 1 rfl) ?_
  refine lv_iload hx hb dL_plans_169 (lv_at hl 10 rfl) ?_
  have ha0 := hm.1
  have hm := hm.2
  obtain ⟨w0, ⟨hP, hD, hS⟩, hW0⟩ := hSt
  have hFc := va_freeSame hD hS hA
  refine va_calli (vx_runSW (As := [.ref (ad 0), .int x10]) (rest := [.int x9]) ⟨hx, hb, hml, hown, hts⟩ (q_L_machine l dC dI cy ad H.size w0 nj ti g x10 hW0 ha0) (vx_cwSW 2 hts gL_plans_L_machine rfl rfl rfl (by decide +kernel) ⟨Nat.le_of_ble_eq_true rfl, Nat.le_of_ble_eq_true rfl⟩) ⟨cPre_blind, fun U hU hW => ⟨rfl, cPre_at hP hK hD hN hU hW⟩⟩ rfl rfl hl.1 rfl (lv_room (Nat.le_of_ble_eq_true rfl)) dL_plans_171 ⟨Nat.zero_le _, Nat.zero_le _⟩) hS (fun q _ h => hFc q h) hFc (fun r_2 u t H locs ht hvm hw hB hz1 hk1 hS => ?_)
  obtain ⟨hr, hWu⟩ := hw
  have hm := hm r_2 hr
  have hSt : stG dC dI cy ad A s nj ti g H locs := ⟨u, ⟨cPost_P ht hB, cPost_D hFc hB, hS⟩, hWu⟩
  refine lv_iload hx hb dL_plans_174 (lv_at hl 7 rfl) ?_
  refine lv_icmp_ne (tgt := 184) hx hb dL_plans_176 (by decide) (fun c_3 => ?_) (fun c_3 => ?_)
  · have hm := hm.2 c_3
    refine lv_iconst (v := 0) hx hb dL_plans_184 (by decide) ?_
    refine lv_iadd hx hb dL_plans_185 ?_
    refine lv_topi (fun x9_4 ex9_4 => ?_)
    have hm := hm x9_4 ex9_4
    refine lv_istore (lv' := [(9, .int x9_4), (8, .int x8_1), (0, .ref (ad 0)), (1, .int x1), (2, .int x2), (3, .int x3), (4, .int x4), (5, .int x5), (6, .int x6), (7, .int x7), (10, .int x10), (11, .int x11)]) hx hb dL_plans_186 hl (by decide) rfl (fun ls hl => ?_)
    obtain ⟨x10_5, ex10_5⟩ : ∃ y : Int32, y = x10 + (1 : Int32) := ⟨_, rfl⟩
    have hm := hm x10_5 ex10_5
    refine lv_iinc (v := x10_5) (lv' := [(10, .int x10_5), (9, .int x9_4), (8, .int x8_1), (0, .ref (ad 0)), (1, .int x1), (2, .int x2), (3, .int x3), (4, .int x4), (5, .int x5), (6, .int x6), (7, .int x7), (11, .int x11)]) hx hb dL_plans_188 hl (k := 10) rfl (by rw [ex10_5]; rfl) (by decide) rfl (fun ls hl => ?_)
    refine lv_goto (tgt := 53) hx hb dL_plans_191 (by decide) ?_
    exact hK53 x1 x2 x3 x4 x5 x6 x7 x8_1 x9_4 x10_5 H locs ls hm hSt (lv_sub hl [3, 4, 5, 6, 7, 8, 9, 10, 2, 1, 0] rfl)
  · have hm := hm.1 c_3
    refine lv_iload hx hb dL_plans_179 (lv_at hl 11 rfl) ?_
    refine lv_goto (tgt := 185) hx hb dL_plans_181 (by decide) ?_
    refine lv_iadd hx hb dL_plans_185 ?_
    refine lv_topi (fun x9_6 ex9_6 => ?_)
    have hm := hm x9_6 ex9_6
    refine lv_istore (lv' := [(9, .int x9_6), (8, .int x8_1), (0, .ref (ad 0)), (1, .int x1), (2, .int x2), (3, .int x3), (4, .int x4), (5, .int x5), (6, .int x6), (7, .int x7), (10, .int x10), (11, .int x11)]) hx hb dL_plans_186 hl (by decide) rfl (fun ls hl => ?_)
    obtain ⟨x10_7, ex10_7⟩ : ∃ y : Int32, y = x10 + (1 : Int32) := ⟨_, rfl⟩
    have hm := hm x10_7 ex10_7
    refine lv_iinc (v := x10_7) (lv' := [(10, .int x10_7), (9, .int x9_6), (8, .int x8_1), (0, .ref (ad 0)), (1, .int x1), (2, .int x2), (3, .int x3), (4, .int x4), (5, .int x5), (6, .int x6), (7, .int x7), (11, .int x11)]) hx hb dL_plans_188 hl (k := 10) rfl (by rw [ex10_7]; rfl) (by decide) rfl (fun ls hl => ?_)
    refine lv_goto (tgt := 53) hx hb dL_plans_191 (by decide) ?_
    exact hK53 x1 x2 x3 x4 x5 x6 x7 x8_1 x9_6 x10_7 H locs ls hm hSt (lv_sub hl [3, 4, 5, 6, 7, 8, 9, 10, 2, 1, 0] rfl)

set_option maxHeartbeats 4000000 in
set_option maxRecDepth 100000 in
theorem k_L_plans_234 {N : Nat} {nj : Nat} {ti : Nat → Int32} {g : Nat → Nat} {Q : Int32 → Prop} {K30 : Int32 → Int32 → Int32 → Int32 → Int32 → Int32 → Prop} (C0 : cxM cL_plans 12 (some .boolean) RL wsL_plans p s m args meth c dC dI cy A) :
    ∀ (x1 : Int32) (x2 : Int32) (x3 : Int32) (x5 : Int32) (x6 : Int32) (x9 : Int32) (s0 : Int32) (H : Heap) (locs : List Loc) (ls : Array Slot) (hm : p_L_plans_234 N nj ti g Q K30 x1 x2 x3 x5 x6 x9 s0) (hSt : stG dC dI cy ad A s nj ti g H locs) (hl : lv_has ls 12 [(0, .ref (ad 0)), (1, .int x1), (2, .int x2), (3, .int x3), (5, .int x5), (6, .int x6), (9, .int x9)]) (hret : ∀ (r : Int32) (H : Heap) (locs : List Loc) (ls : Array Slot) (pc : Nat), decode cL_plans pc = .ok (.ireturn, 1) → narrow .boolean (.int r) = .int r → stG dC dI cy ad A s nj ti g H locs → Q r → W p l e rmL_plans s m args below meth c H locs 0 0 Z (F0 m pc ls [.int r])) (hK30 : ∀ (x1 : Int32) (x2 : Int32) (x3 : Int32) (x4 : Int32) (x5 : Int32) (x6 : Int32) (H : Heap) (locs : List Loc) (ls : Array Slot), K30 x1 x2 x3 x4 x5 x6 → stG dC dI cy ad A s nj ti g H locs → lv_has ls 12 [(0, .ref (ad 0)), (1, .int x1), (2, .int x2), (3, .int x3), (4, .int x4), (5, .int x5), (6, .int x6)] → W p l e rmL_plans s m args below meth c H locs 0 0 Z (F0 m 30 ls [])), W p l e rmL_plans s m args below meth c H locs 0 0 Z (F0 m 234 ls [.int s0]) := by
  obtain ⟨hx, hb, hml, hr, hown, hts, hlocks, hK, hA, hN⟩ := id C0
  intro x1 x2 x3 x5 x6 x9 s0 H locs ls hm hSt hl hret hK30
  skip
  unfold p_L_plans_234 at hm
  refine lv_istore (lv' := [(4, .int s0), (0, .ref (ad 0)), (1, .int x1), (2, .int x2), (3, .int x3), (5, .int x5), (6, .int x6), (9, .int x9)]) hx hb dL_plans_234 hl (by decide) rfl (fun ls hl => ?_)
  refine lv_iload hx hb dL_plans_236 (lv_at hl 5 rfl) ?_
  refine lv_if_eq (tgt := 256) hx hb dL_plans_238 (by decide) (fun c_1 => ?_) (fun c_1 => ?_)
  · have hm := hm.1 c_1
    refine lv_iconst (v := 0) hx hb dL_plans_256 (by decide) ?_
    refine lv_istore (lv' := [(5, .int (0 : Int32)), (4, .int s0), (0, .ref (ad 0)), (1, .int x1), (2, .int x2), (3, .int x3), (6, .int x6), (9, .int x9)]) hx hb dL_plans_257 hl (by decide) rfl (fun ls hl => ?_)
    obtain ⟨x6_2, ex6_2⟩ : ∃ y : Int32, y = x6 + (1 : Int32) := ⟨_, rfl⟩
    have hm := hm x6_2 ex6_2
    refine lv_iinc (v := x6_2) (lv' := [(6, .int x6_2), (5, .int (0 : Int32)), (4, .int s0), (0, .ref (ad 0)), (1, .int x1), (2, .int x2), (3, .int x3), (9, .int x9)]) hx hb dL_plans_259 hl (k := 6) rfl (by rw [ex6_2]; rfl) (by decide) rfl (fun ls hl => ?_)
    refine lv_goto (tgt := 30) hx hb dL_plans_262 (by decide) ?_
    exact hK30 x1 x2 x3 s0 (0 : Int32) x6_2 H locs ls hm hSt (lv_sub hl [3, 4, 5, 6, 2, 1, 0] rfl)
  · have hm := hm.2 c_1
    refine lv_aload_n hx hb dL_plans_241 rfl (lv_at hl 1 rfl) ?_
    refine lv_iload hx hb dL_plans_242 (lv_at hl 6 rfl) ?_
    have ha0 := hm.1
    have hm := hm.2
    obtain ⟨w0, ⟨hP, hD, hS⟩, hW0⟩ := hSt
    have hFc := va_freeSame hD hS hA
    refine va_calli (vx_runSW (As := [.ref (ad 0), .int x6]) (rest := []) ⟨hx, hb, hml, hown, hts⟩ (q_L_load l dC dI cy ad H.size w0 nj ti g x6 hW0 ha0) (vx_cwSW 2 hts gL_plans_L_load rfl rfl rfl (by decide +kernel) ⟨Nat.le_of_ble_eq_true rfl, Nat.le_of_ble_eq_true rfl⟩) ⟨cPre_blind, fun U hU hW => ⟨rfl, cPre_at hP hK hD hN hU hW⟩⟩ rfl rfl hl.1 rfl (lv_room (Nat.le_of_ble_eq_true rfl)) dL_plans_244 ⟨Nat.zero_le _, Nat.zero_le _⟩) hS (fun q _ h => hFc q h) hFc (fun r_3 u t H locs ht hvm hw hB hz1 hk1 hS => ?_)
    obtain ⟨hr, hWu⟩ := hw
    have hm := hm r_3 hr
    have hSt : stG dC dI cy ad A s nj ti g H locs := ⟨u, ⟨cPost_P ht hB, cPost_D hFc hB, hS⟩, hWu⟩
    refine lv_iload hx hb dL_plans_247 (lv_at hl 7 rfl) ?_
    refine lv_icmp_ne (tgt := 256) hx hb dL_plans_249 (by decide) (fun c_4 => ?_) (fun c_4 => ?_)
    · have hm := hm.2 c_4
      refine lv_iconst (v := 0) hx hb dL_plans_256 (by decide) ?_
      refine lv_istore (lv' := [(5, .int (0 : Int32)), (4, .int s0), (0, .ref (ad 0)), (1, .int x1), (2, .int x2), (3, .int x3), (6, .int x6), (9, .int x9)]) hx hb dL_plans_257 hl (by decide) rfl (fun ls hl => ?_)
      obtain ⟨x6_5, ex6_5⟩ : ∃ y : Int32, y = x6 + (1 : Int32) := ⟨_, rfl⟩
      have hm := hm x6_5 ex6_5
      refine lv_iinc (v := x6_5) (lv' := [(6, .int x6_5), (5, .int (0 : Int32)), (4, .int s0), (0, .ref (ad 0)), (1, .int x1), (2, .int x2), (3, .int x3), (9, .int x9)]) hx hb dL_plans_259 hl (k := 6) rfl (by rw [ex6_5]; rfl) (by decide) rfl (fun ls hl => ?_)
      refine lv_goto (tgt := 30) hx hb dL_plans_262 (by decide) ?_
      exact hK30 x1 x2 x3 s0 (0 : Int32) x6_5 H locs ls hm hSt (lv_sub hl [3, 4, 5, 6, 2, 1, 0] rfl)
    · have hm := hm.1 c_4
      refine lv_iconst (v := 1) hx hb dL_plans_252 (by decide) ?_
      refine lv_goto (tgt := 257) hx hb dL_plans_253 (by decide) ?_
      refine lv_istore (lv' := [(5, .int (1 : Int32)), (4, .int s0), (0, .ref (ad 0)), (1, .int x1), (2, .int x2), (3, .int x3), (6, .int x6), (9, .int x9)]) hx hb dL_plans_257 hl (by decide) rfl (fun ls hl => ?_)
      obtain ⟨x6_6, ex6_6⟩ : ∃ y : Int32, y = x6 + (1 : Int32) := ⟨_, rfl⟩
      have hm := hm x6_6 ex6_6
      refine lv_iinc (v := x6_6) (lv' := [(6, .int x6_6), (5, .int (1 : Int32)), (4, .int s0), (0, .ref (ad 0)), (1, .int x1), (2, .int x2), (3, .int x3), (9, .int x9)]) hx hb dL_plans_259 hl (k := 6) rfl (by rw [ex6_6]; rfl) (by decide) rfl (fun ls hl => ?_)
      refine lv_goto (tgt := 30) hx hb dL_plans_262 (by decide) ?_
      exact hK30 x1 x2 x3 s0 (1 : Int32) x6_6 H locs ls hm hSt (lv_sub hl [3, 4, 5, 6, 2, 1, 0] rfl)

set_option maxHeartbeats 4000000 in
set_option maxRecDepth 100000 in
theorem k_L_plans_120 {N : Nat} {nj : Nat} {ti : Nat → Int32} {g : Nat → Nat} {Q : Int32 → Prop} {K53 : Int32 → Int32 → Int32 → Int32 → Int32 → Int32 → Int32 → Int32 → Int32 → Int32 → Prop} (C0 : cxM cL_plans 12 (some .boolean) RL wsL_plans p s m args meth c dC dI cy A) :
    ∀ (x1 : Int32) (x2 : Int32) (x3 : Int32) (x4 : Int32) (x6 : Int32) (x7 : Int32) (x8 : Int32) (x9 : Int32) (x10 : Int32) (x11 : Int32) (s0 : Int32) (H : Heap) (locs : List Loc) (ls : Array Slot) (hm : p_L_plans_120 N nj ti g Q K53 x1 x2 x3 x4 x6 x7 x8 x9 x10 x11 s0) (hSt : stG dC dI cy ad A s nj ti g H locs) (hl : lv_has ls 12 [(0, .ref (ad 0)), (1, .int x1), (2, .int x2), (3, .int x3), (4, .int x4), (6, .int x6), (7, .int x7), (8, .int x8), (9, .int x9), (10, .int x10), (11, .int x11)]) (hret : ∀ (r : Int32) (H : Heap) (locs : List Loc) (ls : Array Slot) (pc : Nat), decode cL_plans pc = .ok (.ireturn, 1) → narrow .boolean (.int r) = .int r → stG dC dI cy ad A s nj ti g H locs → Q r → W p l e rmL_plans s m args below meth c H locs 0 0 Z (F0 m pc ls [.int r])) (hK53 : ∀ (x1 : Int32) (x2 : Int32) (x3 : Int32) (x4 : Int32) (x5 : Int32) (x6 : Int32) (x7 : Int32) (x8 : Int32) (x9 : Int32) (x10 : Int32) (H : Heap) (locs : List Loc) (ls : Array Slot), K53 x1 x2 x3 x4 x5 x6 x7 x8 x9 x10 → stG dC dI cy ad A s nj ti g H locs → lv_has ls 12 [(0, .ref (ad 0)), (1, .int x1), (2, .int x2), (3, .int x3), (4, .int x4), (5, .int x5), (6, .int x6), (7, .int x7), (8, .int x8), (9, .int x9), (10, .int x10)] → W p l e rmL_plans s m args below meth c H locs 0 0 Z (F0 m 53 ls [])), W p l e rmL_plans s m args below meth c H locs 0 0 Z (F0 m 120 ls [.int s0]) := by
  obtain ⟨hx, hb, hml, hr, hown, hts, hlocks, hK, hA, hN⟩ := id C0
  intro x1 x2 x3 x4 x6 x7 x8 x9 x10 x11 s0 H locs ls hm hSt hl hret hK53
  skip
  unfold p_L_plans_120 at hm
  refine lv_istore (lv' := [(5, .int s0), (0, .ref (ad 0)), (1, .int x1), (2, .int x2), (3, .int x3), (4, .int x4), (6, .int x6), (7, .int x7), (8, .int x8), (9, .int x9), (10, .int x10), (11, .int x11)]) hx hb dL_plans_120 hl (by decide) rfl (fun ls hl => ?_)
  refine lv_iload hx hb dL_plans_122 (lv_at hl 7 rfl) ?_
  refine lv_aload_n hx hb dL_plans_124 rfl (lv_at hl 1 rfl) ?_
  refine lv_iload hx hb dL_plans_125 (lv_at hl 10 rfl) ?_
  have ha0 := hm.1
  have hm := hm.2
  obtain ⟨w0, ⟨hP, hD, hS⟩, hW0⟩ := hSt
  have hFc := va_freeSame hD hS hA
  refine va_calli (vx_runSW (As := [.ref (ad 0), .int x10]) (rest := [.int x7]) ⟨hx, hb, hml, hown, hts⟩ (q_L_shortestOn l dC dI cy ad H.size w0 nj ti g x10 hW0 ha0) (vx_cwSW 2 hts gL_plans_L_shortestOn rfl rfl rfl (by decide +kernel) ⟨Nat.le_of_ble_eq_true rfl, Nat.le_of_ble_eq_true rfl⟩) ⟨cPre_blind, fun U hU hW => ⟨rfl, cPre_at hP hK hD hN hU hW⟩⟩ rfl rfl hl.1 rfl (lv_room (Nat.le_of_ble_eq_true rfl)) dL_plans_127 ⟨Nat.zero_le _, Nat.zero_le _⟩) hS (fun q _ h => hFc q h) hFc (fun r_1 u t H locs ht hvm hw hB hz1 hk1 hS => ?_)
  obtain ⟨hr, hWu⟩ := hw
  have hm := hm r_1 hr
  have hSt : stG dC dI cy ad A s nj ti g H locs := ⟨u, ⟨cPost_P ht hB, cPost_D hFc hB, hS⟩, hWu⟩
  refine lv_iload hx hb dL_plans_130 (lv_at hl 6 rfl) ?_
  refine lv_icmp_ne (tgt := 140) hx hb dL_plans_132 (by decide) (fun c_2 => ?_) (fun c_2 => ?_)
  · have hm := hm.2 c_2
    refine lv_iconst (v := 0) hx hb dL_plans_140 (by decide) ?_
    refine lv_iadd hx hb dL_plans_141 ?_
    refine lv_topi (fun x7_3 ex7_3 => ?_)
    have hm := hm x7_3 ex7_3
    refine lv_istore (lv' := [(7, .int x7_3), (5, .int s0), (0, .ref (ad 0)), (1, .int x1), (2, .int x2), (3, .int x3), (4, .int x4), (6, .int x6), (8, .int x8), (9, .int x9), (10, .int x10), (11, .int x11)]) hx hb dL_plans_142 hl (by decide) rfl (fun ls hl => ?_)
    refine lv_iload hx hb dL_plans_144 (lv_at hl 8 rfl) ?_
    refine lv_aload_n hx hb dL_plans_146 rfl (lv_at hl 2 rfl) ?_
    refine lv_iload hx hb dL_plans_147 (lv_at hl 10 rfl) ?_
    have ha0 := hm.1
    have hm := hm.2
    obtain ⟨w0, ⟨hP, hD, hS⟩, hW0⟩ := hSt
    have hFc := va_freeSame hD hS hA
    refine va_calli (vx_runSW (As := [.ref (ad 0), .int x10]) (rest := [.int x8]) ⟨hx, hb, hml, hown, hts⟩ (q_L_roundedOn l dC dI cy ad H.size w0 nj ti g x10 hW0 ha0) (vx_cwSW 2 hts gL_plans_L_roundedOn rfl rfl rfl (by decide +kernel) ⟨Nat.le_of_ble_eq_true rfl, Nat.le_of_ble_eq_true rfl⟩) ⟨cPre_blind, fun U hU hW => ⟨rfl, cPre_at hP hK hD hN hU hW⟩⟩ rfl rfl hl.1 rfl (lv_room (Nat.le_of_ble_eq_true rfl)) dL_plans_149 ⟨Nat.zero_le _, Nat.zero_le _⟩) hS (fun q _ h => hFc q h) hFc (fun r_4 u t H locs ht hvm hw hB hz1 hk1 hS => ?_)
    obtain ⟨hr, hWu⟩ := hw
    have hm := hm r_4 hr
    have hSt : stG dC dI cy ad A s nj ti g H locs := ⟨u, ⟨cPost_P ht hB, cPost_D hFc hB, hS⟩, hWu⟩
    refine lv_iload hx hb dL_plans_152 (lv_at hl 7 rfl) ?_
    refine lv_icmp_ne (tgt := 162) hx hb dL_plans_154 (by decide) (fun c_5 => ?_) (fun c_5 => ?_)
    · have hm := hm.2 c_5
      refine lv_iconst (v := 0) hx hb dL_plans_162 (by decide) ?_
      exact k_L_plans_163 C0 x1 x2 x3 x4 s0 x6 x7_3 x9 x10 x11 x8 (0 : Int32) H locs ls hm hSt (lv_sub hl [2, 3, 4, 5, 6, 1, 7, 0, 9, 10, 11] rfl) hret hK53
    · have hm := hm.1 c_5
      refine lv_iload hx hb dL_plans_157 (lv_at hl 11 rfl) ?_
      refine lv_goto (tgt := 163) hx hb dL_plans_159 (by decide) ?_
      exact k_L_plans_163 C0 x1 x2 x3 x4 s0 x6 x7_3 x9 x10 x11 x8 x11 H locs ls hm hSt (lv_sub hl [2, 3, 4, 5, 6, 1, 7, 0, 9, 10, 11] rfl) hret hK53
  · have hm := hm.1 c_2
    refine lv_iload hx hb dL_plans_135 (lv_at hl 11 rfl) ?_
    refine lv_goto (tgt := 141) hx hb dL_plans_137 (by decide) ?_
    refine lv_iadd hx hb dL_plans_141 ?_
    refine lv_topi (fun x7_6 ex7_6 => ?_)
    have hm := hm x7_6 ex7_6
    refine lv_istore (lv' := [(7, .int x7_6), (5, .int s0), (0, .ref (ad 0)), (1, .int x1), (2, .int x2), (3, .int x3), (4, .int x4), (6, .int x6), (8, .int x8), (9, .int x9), (10, .int x10), (11, .int x11)]) hx hb dL_plans_142 hl (by decide) rfl (fun ls hl => ?_)
    refine lv_iload hx hb dL_plans_144 (lv_at hl 8 rfl) ?_
    refine lv_aload_n hx hb dL_plans_146 rfl (lv_at hl 2 rfl) ?_
    refine lv_iload hx hb dL_plans_147 (lv_at hl 10 rfl) ?_
    have ha0 := hm.1
    have hm := hm.2
    obtain ⟨w0, ⟨hP, hD, hS⟩, hW0⟩ := hSt
    have hFc := va_freeSame hD hS hA
    refine va_calli (vx_runSW (As := [.ref (ad 0), .int x10]) (rest := [.int x8]) ⟨hx, hb, hml, hown, hts⟩ (q_L_roundedOn l dC dI cy ad H.size w0 nj ti g x10 hW0 ha0) (vx_cwSW 2 hts gL_plans_L_roundedOn rfl rfl rfl (by decide +kernel) ⟨Nat.le_of_ble_eq_true rfl, Nat.le_of_ble_eq_true rfl⟩) ⟨cPre_blind, fun U hU hW => ⟨rfl, cPre_at hP hK hD hN hU hW⟩⟩ rfl rfl hl.1 rfl (lv_room (Nat.le_of_ble_eq_true rfl)) dL_plans_149 ⟨Nat.zero_le _, Nat.zero_le _⟩) hS (fun q _ h => hFc q h) hFc (fun r_7 u t H locs ht hvm hw hB hz1 hk1 hS => ?_)
    obtain ⟨hr, hWu⟩ := hw
    have hm := hm r_7 hr
    have hSt : stG dC dI cy ad A s nj ti g H locs := ⟨u, ⟨cPost_P ht hB, cPost_D hFc hB, hS⟩, hWu⟩
    refine lv_iload hx hb dL_plans_152 (lv_at hl 7 rfl) ?_
    refine lv_icmp_ne (tgt := 162) hx hb dL_plans_154 (by decide) (fun c_8 => ?_) (fun c_8 => ?_)
    · have hm := hm.2 c_8
      refine lv_iconst (v := 0) hx hb dL_plans_162 (by decide) ?_
      exact k_L_plans_163 C0 x1 x2 x3 x4 s0 x6 x7_6 x9 x10 x11 x8 (0 : Int32) H locs ls hm hSt (lv_sub hl [2, 3, 4, 5, 6, 1, 7, 0, 9, 10, 11] rfl) hret hK53
    · have hm := hm.1 c_8
      refine lv_iload hx hb dL_plans_157 (lv_at hl 11 rfl) ?_
      refine lv_goto (tgt := 163) hx hb dL_plans_159 (by decide) ?_
      exact k_L_plans_163 C0 x1 x2 x3 x4 s0 x6 x7_6 x9 x10 x11 x8 x11 H locs ls hm hSt (lv_sub hl [2, 3, 4, 5, 6, 1, 7, 0, 9, 10, 11] rfl) hret hK53

set_option maxHeartbeats 4000000 in
set_option maxRecDepth 100000 in
theorem k_L_plans_219 {N : Nat} {nj : Nat} {ti : Nat → Int32} {g : Nat → Nat} {Q : Int32 → Prop} {K30 : Int32 → Int32 → Int32 → Int32 → Int32 → Int32 → Prop} (C0 : cxM cL_plans 12 (some .boolean) RL wsL_plans p s m args meth c dC dI cy A) :
    ∀ (x1 : Int32) (x2 : Int32) (x4 : Int32) (x5 : Int32) (x6 : Int32) (x9 : Int32) (s0 : Int32) (H : Heap) (locs : List Loc) (ls : Array Slot) (hm : p_L_plans_219 N nj ti g Q K30 x1 x2 x4 x5 x6 x9 s0) (hSt : stG dC dI cy ad A s nj ti g H locs) (hl : lv_has ls 12 [(0, .ref (ad 0)), (1, .int x1), (2, .int x2), (4, .int x4), (5, .int x5), (6, .int x6), (9, .int x9)]) (hret : ∀ (r : Int32) (H : Heap) (locs : List Loc) (ls : Array Slot) (pc : Nat), decode cL_plans pc = .ok (.ireturn, 1) → narrow .boolean (.int r) = .int r → stG dC dI cy ad A s nj ti g H locs → Q r → W p l e rmL_plans s m args below meth c H locs 0 0 Z (F0 m pc ls [.int r])) (hK30 : ∀ (x1 : Int32) (x2 : Int32) (x3 : Int32) (x4 : Int32) (x5 : Int32) (x6 : Int32) (H : Heap) (locs : List Loc) (ls : Array Slot), K30 x1 x2 x3 x4 x5 x6 → stG dC dI cy ad A s nj ti g H locs → lv_has ls 12 [(0, .ref (ad 0)), (1, .int x1), (2, .int x2), (3, .int x3), (4, .int x4), (5, .int x5), (6, .int x6)] → W p l e rmL_plans s m args below meth c H locs 0 0 Z (F0 m 30 ls [])), W p l e rmL_plans s m args below meth c H locs 0 0 Z (F0 m 219 ls [.int s0]) := by
  obtain ⟨hx, hb, hml, hr, hown, hts, hlocks, hK, hA, hN⟩ := id C0
  intro x1 x2 x4 x5 x6 x9 s0 H locs ls hm hSt hl hret hK30
  skip
  unfold p_L_plans_219 at hm
  refine lv_istore_n (lv' := [(3, .int s0), (0, .ref (ad 0)), (1, .int x1), (2, .int x2), (4, .int x4), (5, .int x5), (6, .int x6), (9, .int x9)]) hx hb dL_plans_219 rfl hl (by decide) rfl (fun ls hl => ?_)
  refine lv_iload hx hb dL_plans_220 (lv_at hl 7 rfl) ?_
  refine lv_iload hx hb dL_plans_222 (lv_at hl 4 rfl) ?_
  refine lv_icmp_le (tgt := 232) hx hb dL_plans_224 (by decide) (fun c_1 => ?_) (fun c_1 => ?_)
  · have hm := hm.1 c_1
    refine lv_iload hx hb dL_plans_232 (lv_at hl 4 rfl) ?_
    exact k_L_plans_234 C0 x1 x2 s0 x5 x6 x9 x4 H locs ls hm hSt (lv_sub hl [1, 2, 3, 0, 5, 6, 7] rfl) hret hK30
  · have hm := hm.2 c_1
    refine lv_iload hx hb dL_plans_227 (lv_at hl 7 rfl) ?_
    refine lv_goto (tgt := 234) hx hb dL_plans_229 (by decide) ?_
    exact k_L_plans_234 C0 x1 x2 s0 x5 x6 x9 x9 H locs ls hm hSt (lv_sub hl [1, 2, 3, 0, 5, 6, 7] rfl) hret hK30

set_option maxHeartbeats 4000000 in
set_option maxRecDepth 100000 in
theorem k_L_plans_53 {N : Nat} {nj : Nat} {ti : Nat → Int32} {g : Nat → Nat} {Q : Int32 → Prop} {K30 : Int32 → Int32 → Int32 → Int32 → Int32 → Int32 → Prop} (C0 : cxM cL_plans 12 (some .boolean) RL wsL_plans p s m args meth c dC dI cy A) :
    ∀ (n : Nat) (x1 : Int32) (x2 : Int32) (x3 : Int32) (x4 : Int32) (x5 : Int32) (x6 : Int32) (x7 : Int32) (x8 : Int32) (x9 : Int32) (x10 : Int32) (H : Heap) (locs : List Loc) (ls : Array Slot) (hm : p_L_plans_53 N nj ti g Q K30 n x1 x2 x3 x4 x5 x6 x7 x8 x9 x10) (hSt : stG dC dI cy ad A s nj ti g H locs) (hl : lv_has ls 12 [(0, .ref (ad 0)), (1, .int x1), (2, .int x2), (3, .int x3), (4, .int x4), (5, .int x5), (6, .int x6), (7, .int x7), (8, .int x8), (9, .int x9), (10, .int x10)]) (hret : ∀ (r : Int32) (H : Heap) (locs : List Loc) (ls : Array Slot) (pc : Nat), decode cL_plans pc = .ok (.ireturn, 1) → narrow .boolean (.int r) = .int r → stG dC dI cy ad A s nj ti g H locs → Q r → W p l e rmL_plans s m args below meth c H locs 0 0 Z (F0 m pc ls [.int r])) (hK30 : ∀ (x1 : Int32) (x2 : Int32) (x3 : Int32) (x4 : Int32) (x5 : Int32) (x6 : Int32) (H : Heap) (locs : List Loc) (ls : Array Slot), K30 x1 x2 x3 x4 x5 x6 → stG dC dI cy ad A s nj ti g H locs → lv_has ls 12 [(0, .ref (ad 0)), (1, .int x1), (2, .int x2), (3, .int x3), (4, .int x4), (5, .int x5), (6, .int x6)] → W p l e rmL_plans s m args below meth c H locs 0 0 Z (F0 m 30 ls [])), W p l e rmL_plans s m args below meth c H locs 0 0 Z (F0 m 53 ls []) := by
  obtain ⟨hx, hb, hml, hr, hown, hts, hlocks, hK, hA, hN⟩ := id C0
  intro n
  induction n with
  | zero => intro x1 x2 x3 x4 x5 x6 x7 x8 x9 x10 H locs ls hm; exact False.elim hm
  | succ n ih =>
    intro x1 x2 x3 x4 x5 x6 x7 x8 x9 x10 H locs ls hm hSt hl hret hK30
    skip
    unfold p_L_plans_53 at hm
    refine lv_iload hx hb dL_plans_53 (lv_at hl 10 rfl) ?_
    refine lv_aload_n hx hb dL_plans_55 rfl (lv_at hl 0 rfl) ?_
    obtain ⟨w0, ⟨hP, hD, hS⟩, hW0⟩ := hSt
    have hFc := va_freeSame hD hS hA
    refine va_calli (va_runV (As := []) (rest := [.int x10]) ⟨hx, hb, hml, hown, hts⟩ (q_X6_jobs l dC dI cy ad H.size w0 nj ti g hW0 ) (cwV 0 hts gL_plans_X6_jobs rfl rfl rfl (by decide +kernel) ⟨Nat.le_of_ble_eq_true rfl, Nat.le_of_ble_eq_true rfl⟩) ⟨cPre_blind, va_recv hK hP (ci := 6) (q0 := 0) rfl hW0.recv.choose_spec, fun U hU hW => ⟨rfl, cPre_at hP hK hD hN hU hW⟩⟩ rfl rfl hl.1 rfl (lv_room (Nat.le_of_ble_eq_true rfl)) dL_plans_56 ⟨Nat.zero_le _, Nat.zero_le _⟩) hS (fun q _ h => hFc q h) hFc (fun r_1 u t H locs ht hvm hw hB hz1 hk1 hS => ?_)
    obtain ⟨hr, hWu⟩ := hw
    have hm := hm r_1 hr
    have hSt : stG dC dI cy ad A s nj ti g H locs := ⟨u, ⟨cPost_P ht hB, cPost_D hFc hB, hS⟩, hWu⟩
    refine lv_icmp_ge (tgt := 194) hx hb dL_plans_59 (by decide) (fun c_2 => ?_) (fun c_2 => ?_)
    · have hm := hm.1 c_2
      refine lv_iload hx hb dL_plans_194 (lv_at hl 7 rfl) ?_
      refine lv_iload_n hx hb dL_plans_196 rfl (lv_at hl 2 rfl) ?_
      refine lv_icmp_le (tgt := 205) hx hb dL_plans_197 (by decide) (fun c_3 => ?_) (fun c_3 => ?_)
      · have hm := hm.1 c_3
        refine lv_iload_n hx hb dL_plans_205 rfl (lv_at hl 2 rfl) ?_
        refine lv_istore_n (lv' := [(2, .int x2), (0, .ref (ad 0)), (1, .int x1), (3, .int x3), (4, .int x4), (5, .int x5), (6, .int x6), (7, .int x7), (8, .int x8), (9, .int x9), (10, .int x10)]) hx hb dL_plans_206 rfl hl (by decide) rfl (fun ls hl => ?_)
        refine lv_iload hx hb dL_plans_207 (lv_at hl 8 rfl) ?_
        refine lv_iload_n hx hb dL_plans_209 rfl (lv_at hl 3 rfl) ?_
        refine lv_icmp_le (tgt := 218) hx hb dL_plans_210 (by decide) (fun c_4 => ?_) (fun c_4 => ?_)
        · have hm := hm.1 c_4
          refine lv_iload_n hx hb dL_plans_218 rfl (lv_at hl 3 rfl) ?_
          exact k_L_plans_219 C0 x1 x2 x4 x5 x6 x9 x3 H locs ls hm hSt (lv_sub hl [1, 2, 0, 4, 5, 6, 9] rfl) hret hK30
        · have hm := hm.2 c_4
          refine lv_iload hx hb dL_plans_213 (lv_at hl 8 rfl) ?_
          refine lv_goto (tgt := 219) hx hb dL_plans_215 (by decide) ?_
          exact k_L_plans_219 C0 x1 x2 x4 x5 x6 x9 x8 H locs ls hm hSt (lv_sub hl [1, 2, 0, 4, 5, 6, 9] rfl) hret hK30
      · have hm := hm.2 c_3
        refine lv_iload hx hb dL_plans_200 (lv_at hl 7 rfl) ?_
        refine lv_goto (tgt := 206) hx hb dL_plans_202 (by decide) ?_
        refine lv_istore_n (lv' := [(2, .int x7), (0, .ref (ad 0)), (1, .int x1), (3, .int x3), (4, .int x4), (5, .int x5), (6, .int x6), (7, .int x7), (8, .int x8), (9, .int x9), (10, .int x10)]) hx hb dL_plans_206 rfl hl (by decide) rfl (fun ls hl => ?_)
        refine lv_iload hx hb dL_plans_207 (lv_at hl 8 rfl) ?_
        refine lv_iload_n hx hb dL_plans_209 rfl (lv_at hl 3 rfl) ?_
        refine lv_icmp_le (tgt := 218) hx hb dL_plans_210 (by decide) (fun c_5 => ?_) (fun c_5 => ?_)
        · have hm := hm.1 c_5
          refine lv_iload_n hx hb dL_plans_218 rfl (lv_at hl 3 rfl) ?_
          exact k_L_plans_219 C0 x1 x7 x4 x5 x6 x9 x3 H locs ls hm hSt (lv_sub hl [1, 2, 0, 4, 5, 6, 9] rfl) hret hK30
        · have hm := hm.2 c_5
          refine lv_iload hx hb dL_plans_213 (lv_at hl 8 rfl) ?_
          refine lv_goto (tgt := 219) hx hb dL_plans_215 (by decide) ?_
          exact k_L_plans_219 C0 x1 x7 x4 x5 x6 x9 x8 H locs ls hm hSt (lv_sub hl [1, 2, 0, 4, 5, 6, 9] rfl) hret hK30
    · have hm := hm.2 c_2
      refine lv_aload_n hx hb dL_plans_62 rfl (lv_at hl 0 rfl) ?_
      refine lv_iload hx hb dL_plans_63 (lv_at hl 10 rfl) ?_
      refine lv_iload hx hb dL_plans_65 (lv_at hl 6 rfl) ?_
      have ha0 := hm.1
      have hm := hm.2
      have ha1 := hm.1
      have hm := hm.2
      obtain ⟨w0, ⟨hP, hD, hS⟩, hW0⟩ := hSt
      have hFc := va_freeSame hD hS hA
      refine va_calli (vx_runSW (As := [.ref (ad 0), .int x10, .int x6]) (rest := []) ⟨hx, hb, hml, hown, hts⟩ (q_L_time l dC dI cy ad H.size w0 nj ti g x10 x6 hW0 ha0 ha1) (vx_cwSW 3 hts gL_plans_L_time rfl rfl rfl (by decide +kernel) ⟨Nat.le_of_ble_eq_true rfl, Nat.le_of_ble_eq_true rfl⟩) ⟨cPre_blind, fun U hU hW => ⟨rfl, cPre_at hP hK hD hN hU hW⟩⟩ rfl rfl hl.1 rfl (lv_room (Nat.le_of_ble_eq_true rfl)) dL_plans_67 ⟨Nat.zero_le _, Nat.zero_le _⟩) hS (fun q _ h => hFc q h) hFc (fun r_6 u t H locs ht hvm hw hB hz1 hk1 hS => ?_)
      obtain ⟨hr, hWu⟩ := hw
      have hm := hm r_6 hr
      have hSt : stG dC dI cy ad A s nj ti g H locs := ⟨u, ⟨cPost_P ht hB, cPost_D hFc hB, hS⟩, hWu⟩
      refine lv_istore (lv' := [(11, .int r_6), (0, .ref (ad 0)), (1, .int x1), (2, .int x2), (3, .int x3), (4, .int x4), (5, .int x5), (6, .int x6), (7, .int x7), (8, .int x8), (9, .int x9), (10, .int x10)]) hx hb dL_plans_70 hl (by decide) rfl (fun ls hl => ?_)
      refine lv_iload hx hb dL_plans_72 (lv_at hl 6 rfl) ?_
      refine lv_if_eq (tgt := 119) hx hb dL_plans_74 (by decide) (fun c_7 => ?_) (fun c_7 => ?_)
      · have hm := hm.1 c_7
        refine lv_iconst (v := 0) hx hb dL_plans_119 (by decide) ?_
        refine k_L_plans_120 C0 x1 x2 x3 x4 x6 x7 x8 x9 x10 r_6 (0 : Int32) H locs ls hm hSt (lv_sub hl [1, 2, 3, 4, 5, 7, 8, 9, 10, 11, 0] rfl) hret (fun x1 x2 x3 x4 x5 x6 x7 x8 x9 x10 H locs ls hm hSt hl => ?_)
        · skip
          exact ih x1 x2 x3 x4 x5 x6 x7 x8 x9 x10 H locs ls hm hSt hl hret hK30
      · have hm := hm.2 c_7
        refine lv_iload hx hb dL_plans_77 (lv_at hl 0 rfl) ?_
        refine lv_if_gt (tgt := 115) hx hb dL_plans_79 (by decide) (fun c_8 => ?_) (fun c_8 => ?_)
        · have hm := hm.1 c_8
          refine lv_iconst (v := 1) hx hb dL_plans_115 (by decide) ?_
          refine lv_goto (tgt := 120) hx hb dL_plans_116 (by decide) ?_
          refine k_L_plans_120 C0 x1 x2 x3 x4 x6 x7 x8 x9 x10 r_6 (1 : Int32) H locs ls hm hSt (lv_sub hl [1, 2, 3, 4, 5, 7, 8, 9, 10, 11, 0] rfl) hret (fun x1 x2 x3 x4 x5 x6 x7 x8 x9 x10 H locs ls hm hSt hl => ?_)
          · skip
            exact ih x1 x2 x3 x4 x5 x6 x7 x8 x9 x10 H locs ls hm hSt hl hret hK30
        · have hm := hm.2 c_8
          refine lv_aload_n hx hb dL_plans_82 rfl (lv_at hl 1 rfl) ?_
          refine lv_iload hx hb dL_plans_83 (lv_at hl 11 rfl) ?_
          have ha0 := hm.1
          have hm := hm.2
          obtain ⟨w0, ⟨hP, hD, hS⟩, hW0⟩ := hSt
          have hFc := va_freeSame hD hS hA
          refine va_calli (vx_runSW (As := [.ref (ad 0), .int x10]) (rest := []) ⟨hx, hb, hml, hown, hts⟩ (q_L_shortestOn l dC dI cy ad H.size w0 nj ti g x10 hW0 ha0) (vx_cwSW 2 hts gL_plans_L_shortestOn rfl rfl rfl (by decide +kernel) ⟨Nat.le_of_ble_eq_true rfl, Nat.le_of_ble_eq_true rfl⟩) ⟨cPre_blind, fun U hU hW => ⟨rfl, cPre_at hP hK hD hN hU hW⟩⟩ rfl rfl hl.1 rfl (lv_room (Nat.le_of_ble_eq_true rfl)) dL_plans_85 ⟨Nat.zero_le _, Nat.zero_le _⟩) hS (fun q _ h => hFc q h) hFc (fun r_9 u t H locs ht hvm hw hB hz1 hk1 hS => ?_)
          obtain ⟨hr, hWu⟩ := hw
          have hm := hm r_9 hr
          have hSt : stG dC dI cy ad A s nj ti g H locs := ⟨u, ⟨cPost_P ht hB, cPost_D hFc hB, hS⟩, hWu⟩
          refine lv_iload hx hb dL_plans_88 (lv_at hl 7 rfl) ?_
          refine lv_icmp_eq (tgt := 119) hx hb dL_plans_90 (by decide) (fun c_10 => ?_) (fun c_10 => ?_)
          · have hm := hm.1 c_10
            refine lv_iconst (v := 0) hx hb dL_plans_119 (by decide) ?_
            refine k_L_plans_120 C0 x1 x2 x3 x4 x6 x7 x8 x9 x10 r_6 (0 : Int32) H locs ls hm hSt (lv_sub hl [1, 2, 3, 4, 5, 7, 8, 9, 10, 11, 0] rfl) hret (fun x1 x2 x3 x4 x5 x6 x7 x8 x9 x10 H locs ls hm hSt hl => ?_)
            · skip
              exact ih x1 x2 x3 x4 x5 x6 x7 x8 x9 x10 H locs ls hm hSt hl hret hK30
          · have hm := hm.2 c_10
            refine lv_aload_n hx hb dL_plans_93 rfl (lv_at hl 1 rfl) ?_
            refine lv_iload hx hb dL_plans_94 (lv_at hl 11 rfl) ?_
            have ha0 := hm.1
            have hm := hm.2
            obtain ⟨w0, ⟨hP, hD, hS⟩, hW0⟩ := hSt
            have hFc := va_freeSame hD hS hA
            refine va_calli (vx_runSW (As := [.ref (ad 0), .int x10]) (rest := []) ⟨hx, hb, hml, hown, hts⟩ (q_L_roundedOn l dC dI cy ad H.size w0 nj ti g x10 hW0 ha0) (vx_cwSW 2 hts gL_plans_L_roundedOn rfl rfl rfl (by decide +kernel) ⟨Nat.le_of_ble_eq_true rfl, Nat.le_of_ble_eq_true rfl⟩) ⟨cPre_blind, fun U hU hW => ⟨rfl, cPre_at hP hK hD hN hU hW⟩⟩ rfl rfl hl.1 rfl (lv_room (Nat.le_of_ble_eq_true rfl)) dL_plans_96 ⟨Nat.zero_le _, Nat.zero_le _⟩) hS (fun q _ h => hFc q h) hFc (fun r_11 u t H locs ht hvm hw hB hz1 hk1 hS => ?_)
            obtain ⟨hr, hWu⟩ := hw
            have hm := hm r_11 hr
            have hSt : stG dC dI cy ad A s nj ti g H locs := ⟨u, ⟨cPost_P ht hB, cPost_D hFc hB, hS⟩, hWu⟩
            refine lv_iload hx hb dL_plans_99 (lv_at hl 7 rfl) ?_
            refine lv_icmp_eq (tgt := 119) hx hb dL_plans_101 (by decide) (fun c_12 => ?_) (fun c_12 => ?_)
            · have hm := hm.1 c_12
              refine lv_iconst (v := 0) hx hb dL_plans_119 (by decide) ?_
              refine k_L_plans_120 C0 x1 x2 x3 x4 x6 x7 x8 x9 x10 r_6 (0 : Int32) H locs ls hm hSt (lv_sub hl [1, 2, 3, 4, 5, 7, 8, 9, 10, 11, 0] rfl) hret (fun x1 x2 x3 x4 x5 x6 x7 x8 x9 x10 H locs ls hm hSt hl => ?_)
              · skip
                exact ih x1 x2 x3 x4 x5 x6 x7 x8 x9 x10 H locs ls hm hSt hl hret hK30
            · have hm := hm.2 c_12
              refine lv_aload_n hx hb dL_plans_104 rfl (lv_at hl 1 rfl) ?_
              refine lv_iload hx hb dL_plans_105 (lv_at hl 11 rfl) ?_
              have ha0 := hm.1
              have hm := hm.2
              obtain ⟨w0, ⟨hP, hD, hS⟩, hW0⟩ := hSt
              have hFc := va_freeSame hD hS hA
              refine va_calli (vx_runSW (As := [.ref (ad 0), .int x10]) (rest := []) ⟨hx, hb, hml, hown, hts⟩ (q_L_machine l dC dI cy ad H.size w0 nj ti g x10 hW0 ha0) (vx_cwSW 2 hts gL_plans_L_machine rfl rfl rfl (by decide +kernel) ⟨Nat.le_of_ble_eq_true rfl, Nat.le_of_ble_eq_true rfl⟩) ⟨cPre_blind, fun U hU hW => ⟨rfl, cPre_at hP hK hD hN hU hW⟩⟩ rfl rfl hl.1 rfl (lv_room (Nat.le_of_ble_eq_true rfl)) dL_plans_107 ⟨Nat.zero_le _, Nat.zero_le _⟩) hS (fun q _ h => hFc q h) hFc (fun r_13 u t H locs ht hvm hw hB hz1 hk1 hS => ?_)
              obtain ⟨hr, hWu⟩ := hw
              have hm := hm r_13 hr
              have hSt : stG dC dI cy ad A s nj ti g H locs := ⟨u, ⟨cPost_P ht hB, cPost_D hFc hB, hS⟩, hWu⟩
              refine lv_iload hx hb dL_plans_110 (lv_at hl 7 rfl) ?_
              refine lv_icmp_eq (tgt := 119) hx hb dL_plans_112 (by decide) (fun c_14 => ?_) (fun c_14 => ?_)
              · have hm := hm.1 c_14
                refine lv_iconst (v := 0) hx hb dL_plans_119 (by decide) ?_
                refine k_L_plans_120 C0 x1 x2 x3 x4 x6 x7 x8 x9 x10 r_6 (0 : Int32) H locs ls hm hSt (lv_sub hl [1, 2, 3, 4, 5, 7, 8, 9, 10, 11, 0] rfl) hret (fun x1 x2 x3 x4 x5 x6 x7 x8 x9 x10 H locs ls hm hSt hl => ?_)
                · skip
                  exact ih x1 x2 x3 x4 x5 x6 x7 x8 x9 x10 H locs ls hm hSt hl hret hK30
              · have hm := hm.2 c_14
                refine lv_iconst (v := 1) hx hb dL_plans_115 (by decide) ?_
                refine lv_goto (tgt := 120) hx hb dL_plans_116 (by decide) ?_
                refine k_L_plans_120 C0 x1 x2 x3 x4 x6 x7 x8 x9 x10 r_6 (1 : Int32) H locs ls hm hSt (lv_sub hl [1, 2, 3, 4, 5, 7, 8, 9, 10, 11, 0] rfl) hret (fun x1 x2 x3 x4 x5 x6 x7 x8 x9 x10 H locs ls hm hSt hl => ?_)
                · skip
                  exact ih x1 x2 x3 x4 x5 x6 x7 x8 x9 x10 H locs ls hm hSt hl hret hK30

set_option maxHeartbeats 4000000 in
set_option maxRecDepth 100000 in
theorem k_L_plans_325 {N : Nat} {nj : Nat} {ti : Nat → Int32} {g : Nat → Nat} {Q : Int32 → Prop} {K333 : Int32 → Int32 → Prop} (C0 : cxM cL_plans 12 (some .boolean) RL wsL_plans p s m args meth c dC dI cy A) :
    ∀ (x1 : Int32) (x3 : Int32) (H : Heap) (locs : List Loc) (ls : Array Slot) (hm : p_L_plans_325 N nj ti g Q K333 x1 x3) (hSt : stG dC dI cy ad A s nj ti g H locs) (hl : lv_has ls 12 [(0, .ref (ad 0)), (1, .int x1), (3, .int x3)]) (hret : ∀ (r : Int32) (H : Heap) (locs : List Loc) (ls : Array Slot) (pc : Nat), decode cL_plans pc = .ok (.ireturn, 1) → narrow .boolean (.int r) = .int r → stG dC dI cy ad A s nj ti g H locs → Q r → W p l e rmL_plans s m args below meth c H locs 0 0 Z (F0 m pc ls [.int r])) (hK333 : ∀ (x1 : Int32) (x3 : Int32) (H : Heap) (locs : List Loc) (ls : Array Slot), K333 x1 x3 → stG dC dI cy ad A s nj ti g H locs → lv_has ls 12 [(0, .ref (ad 0)), (1, .int x1), (3, .int x3)] → W p l e rmL_plans s m args below meth c H locs 0 0 Z (F0 m 333 ls [])), W p l e rmL_plans s m args below meth c H locs 0 0 Z (F0 m 325 ls []) := by
  obtain ⟨hx, hb, hml, hr, hown, hts, hlocks, hK, hA, hN⟩ := id C0
  intro x1 x3 H locs ls hm hSt hl hret hK333
  skip
  unfold p_L_plans_325 at hm
  refine lv_iconst (v := 0) hx hb dL_plans_325 (by decide) ?_
  refine lv_istore (lv' := [(5, .int (0 : Int32)), (0, .ref (ad 0)), (1, .int x1), (3, .int x3)]) hx hb dL_plans_326 hl (by decide) rfl (fun ls hl => ?_)
  refine lv_iload hx hb dL_plans_328 (lv_at hl 0 rfl) ?_
  refine lv_if_eq (tgt := 361) hx hb dL_plans_330 (by decide) (fun c_1 => ?_) (fun c_1 => ?_)
  · have hm := hm.1 c_1
    refine lv_iconst (v := 0) hx hb dL_plans_361 (by decide) ?_
    exact hret (0 : Int32) H locs ls 362 dL_plans_362 rfl hSt hm
  · have hm := hm.2 c_1
    exact hK333 x1 x3 H locs ls hm hSt (lv_sub hl [1, 2, 3] rfl)

set_option maxHeartbeats 4000000 in
set_option maxRecDepth 100000 in
theorem k_L_plans_265 {N : Nat} {nj : Nat} {ti : Nat → Int32} {g : Nat → Nat} {Q : Int32 → Prop} {K333 : Int32 → Int32 → Prop} (C0 : cxM cL_plans 12 (some .boolean) RL wsL_plans p s m args meth c dC dI cy A) :
    ∀ (x1 : Int32) (x2 : Int32) (x3 : Int32) (x4 : Int32) (x5 : Int32) (H : Heap) (locs : List Loc) (ls : Array Slot) (hm : p_L_plans_265 N nj ti g Q K333 x1 x2 x3 x4 x5) (hSt : stG dC dI cy ad A s nj ti g H locs) (hl : lv_has ls 12 [(0, .ref (ad 0)), (1, .int x1), (2, .int x2), (3, .int x3), (4, .int x4), (5, .int x5)]) (hret : ∀ (r : Int32) (H : Heap) (locs : List Loc) (ls : Array Slot) (pc : Nat), decode cL_plans pc = .ok (.ireturn, 1) → narrow .boolean (.int r) = .int r → stG dC dI cy ad A s nj ti g H locs → Q r → W p l e rmL_plans s m args below meth c H locs 0 0 Z (F0 m pc ls [.int r])) (hK333 : ∀ (x1 : Int32) (x3 : Int32) (H : Heap) (locs : List Loc) (ls : Array Slot), K333 x1 x3 → stG dC dI cy ad A s nj ti g H locs → lv_has ls 12 [(0, .ref (ad 0)), (1, .int x1), (3, .int x3)] → W p l e rmL_plans s m args below meth c H locs 0 0 Z (F0 m 333 ls [])), W p l e rmL_plans s m args below meth c H locs 0 0 Z (F0 m 265 ls []) := by
  obtain ⟨hx, hb, hml, hr, hown, hts, hlocks, hK, hA, hN⟩ := id C0
  intro x1 x2 x3 x4 x5 H locs ls hm hSt hl hret hK333
  skip
  unfold p_L_plans_265 at hm
  refine lv_iload hx hb dL_plans_265 (lv_at hl 5 rfl) ?_
  refine lv_if_eq (tgt := 325) hx hb dL_plans_267 (by decide) (fun c_1 => ?_) (fun c_1 => ?_)
  · have hm := hm.1 c_1
    exact k_L_plans_325 C0 x1 x3 H locs ls hm hSt (lv_sub hl [0, 1, 3] rfl) hret hK333
  · have hm := hm.2 c_1
    refine lv_iload_n hx hb dL_plans_270 rfl (lv_at hl 2 rfl) ?_
    refine lv_iload_n hx hb dL_plans_271 rfl (lv_at hl 1 rfl) ?_
    refine lv_icmp_ne (tgt := 325) hx hb dL_plans_272 (by decide) (fun c_2 => ?_) (fun c_2 => ?_)
    · have hm := hm.2 c_2
      exact k_L_plans_325 C0 x1 x3 H locs ls hm hSt (lv_sub hl [0, 1, 3] rfl) hret hK333
    · have hm := hm.1 c_2
      refine lv_iload_n hx hb dL_plans_275 rfl (lv_at hl 3 rfl) ?_
      refine lv_aload_n hx hb dL_plans_276 rfl (lv_at hl 0 rfl) ?_
      obtain ⟨w0, ⟨hP, hD, hS⟩, hW0⟩ := hSt
      have hFc := va_freeSame hD hS hA
      refine va_calli (va_runV (As := []) (rest := [.int x3]) ⟨hx, hb, hml, hown, hts⟩ (q_X6_roundedLength l dC dI cy ad H.size w0 nj ti g hW0 ) (cwV 0 hts gL_plans_X6_roundedLength rfl rfl rfl (by decide +kernel) ⟨Nat.le_of_ble_eq_true rfl, Nat.le_of_ble_eq_true rfl⟩) ⟨cPre_blind, va_recv hK hP (ci := 6) (q0 := 0) rfl hW0.recv.choose_spec, fun U hU hW => ⟨rfl, cPre_at hP hK hD hN hU hW⟩⟩ rfl rfl hl.1 rfl (lv_room (Nat.le_of_ble_eq_true rfl)) dL_plans_277 ⟨Nat.zero_le _, Nat.zero_le _⟩) hS (fun q _ h => hFc q h) hFc (fun r_3 u t H locs ht hvm hw hB hz1 hk1 hS => ?_)
      obtain ⟨hr, hWu⟩ := hw
      have hm := hm r_3 hr
      have hSt : stG dC dI cy ad A s nj ti g H locs := ⟨u, ⟨cPost_P ht hB, cPost_D hFc hB, hS⟩, hWu⟩
      refine lv_icmp_ne (tgt := 325) hx hb dL_plans_280 (by decide) (fun c_4 => ?_) (fun c_4 => ?_)
      · have hm := hm.2 c_4
        exact k_L_plans_325 C0 x1 x3 H locs ls hm hSt (lv_sub hl [0, 1, 3] rfl) hret hK333
      · have hm := hm.1 c_4
        refine lv_iload hx hb dL_plans_283 (lv_at hl 4 rfl) ?_
        refine lv_aload_n hx hb dL_plans_285 rfl (lv_at hl 0 rfl) ?_
        obtain ⟨w0, ⟨hP, hD, hS⟩, hW0⟩ := hSt
        have hFc := va_freeSame hD hS hA
        refine va_calli (va_runV (As := []) (rest := [.int x4]) ⟨hx, hb, hml, hown, hts⟩ (q_X6_length l dC dI cy ad H.size w0 nj ti g hW0 ) (cwV 0 hts gL_plans_X6_length rfl rfl rfl (by decide +kernel) ⟨Nat.le_of_ble_eq_true rfl, Nat.le_of_ble_eq_true rfl⟩) ⟨cPre_blind, va_recv hK hP (ci := 6) (q0 := 0) rfl hW0.recv.choose_spec, fun U hU hW => ⟨rfl, cPre_at hP hK hD hN hU hW⟩⟩ rfl rfl hl.1 rfl (lv_room (Nat.le_of_ble_eq_true rfl)) dL_plans_286 ⟨Nat.zero_le _, Nat.zero_le _⟩) hS (fun q _ h => hFc q h) hFc (fun r_5 u t H locs ht hvm hw hB hz1 hk1 hS => ?_)
        obtain ⟨hr, hWu⟩ := hw
        have hm := hm r_5 hr
        have hSt : stG dC dI cy ad A s nj ti g H locs := ⟨u, ⟨cPost_P ht hB, cPost_D hFc hB, hS⟩, hWu⟩
        refine lv_icmp_ne (tgt := 325) hx hb dL_plans_289 (by decide) (fun c_6 => ?_) (fun c_6 => ?_)
        · have hm := hm.2 c_6
          exact k_L_plans_325 C0 x1 x3 H locs ls hm hSt (lv_sub hl [0, 1, 3] rfl) hret hK333
        · have hm := hm.1 c_6
          refine lv_iload_n hx hb dL_plans_292 rfl (lv_at hl 1 rfl) ?_
          refine lv_iload_n hx hb dL_plans_293 rfl (lv_at hl 3 rfl) ?_
          refine lv_icmp_gt (tgt := 325) hx hb dL_plans_294 (by decide) (fun c_7 => ?_) (fun c_7 => ?_)
          · have hm := hm.1 c_7
            exact k_L_plans_325 C0 x1 x3 H locs ls hm hSt (lv_sub hl [0, 1, 3] rfl) hret hK333
          · have hm := hm.2 c_7
            refine lv_iload_n hx hb dL_plans_297 rfl (lv_at hl 1 rfl) ?_
            refine lv_iload hx hb dL_plans_298 (lv_at hl 4 rfl) ?_
            refine lv_icmp_gt (tgt := 325) hx hb dL_plans_300 (by decide) (fun c_8 => ?_) (fun c_8 => ?_)
            · have hm := hm.1 c_8
              exact k_L_plans_325 C0 x1 x3 H locs ls hm hSt (lv_sub hl [0, 1, 3] rfl) hret hK333
            · have hm := hm.2 c_8
              refine lv_aload_n hx hb dL_plans_303 rfl (lv_at hl 0 rfl) ?_
              obtain ⟨w0, ⟨hP, hD, hS⟩, hW0⟩ := hSt
              have hFc := va_freeSame hD hS hA
              refine va_calli (va_runV (As := []) (rest := []) ⟨hx, hb, hml, hown, hts⟩ (q_X6_bound l dC dI cy ad H.size w0 nj ti g hW0 ) (cwV 0 hts gL_plans_X6_bound rfl rfl rfl (by decide +kernel) ⟨Nat.le_of_ble_eq_true rfl, Nat.le_of_ble_eq_true rfl⟩) ⟨cPre_blind, va_recv hK hP (ci := 6) (q0 := 0) rfl hW0.recv.choose_spec, fun U hU hW => ⟨rfl, cPre_at hP hK hD hN hU hW⟩⟩ rfl rfl hl.1 rfl (lv_room (Nat.le_of_ble_eq_true rfl)) dL_plans_304 ⟨Nat.zero_le _, Nat.zero_le _⟩) hS (fun q _ h => hFc q h) hFc (fun r_9 u t H locs ht hvm hw hB hz1 hk1 hS => ?_)
              obtain ⟨hr, hWu⟩ := hw
              have hm := hm r_9 hr
              have hSt : stG dC dI cy ad A s nj ti g H locs := ⟨u, ⟨cPost_P ht hB, cPost_D hFc hB, hS⟩, hWu⟩
              refine lv_iload_n hx hb dL_plans_307 rfl (lv_at hl 1 rfl) ?_
              refine lv_icmp_gt (tgt := 325) hx hb dL_plans_308 (by decide) (fun c_10 => ?_) (fun c_10 => ?_)
              · have hm := hm.1 c_10
                exact k_L_plans_325 C0 x1 x3 H locs ls hm hSt (lv_sub hl [0, 1, 3] rfl) hret hK333
              · have hm := hm.2 c_10
                refine lv_iload_n hx hb dL_plans_311 rfl (lv_at hl 3 rfl) ?_
                refine lv_iconst (v := 2) hx hb dL_plans_312 (by decide) ?_
                refine lv_aload_n hx hb dL_plans_313 rfl (lv_at hl 0 rfl) ?_
                obtain ⟨w0, ⟨hP, hD, hS⟩, hW0⟩ := hSt
                have hFc := va_freeSame hD hS hA
                refine va_calli (va_runV (As := []) (rest := [.int (2 : Int32), .int x3]) ⟨hx, hb, hml, hown, hts⟩ (q_X6_bound l dC dI cy ad H.size w0 nj ti g hW0 ) (cwV 0 hts gL_plans_X6_bound rfl rfl rfl (by decide +kernel) ⟨Nat.le_of_ble_eq_true rfl, Nat.le_of_ble_eq_true rfl⟩) ⟨cPre_blind, va_recv hK hP (ci := 6) (q0 := 0) rfl hW0.recv.choose_spec, fun U hU hW => ⟨rfl, cPre_at hP hK hD hN hU hW⟩⟩ rfl rfl hl.1 rfl (lv_room (Nat.le_of_ble_eq_true rfl)) dL_plans_314 ⟨Nat.zero_le _, Nat.zero_le _⟩) hS (fun q _ h => hFc q h) hFc (fun r_11 u t H locs ht hvm hw hB hz1 hk1 hS => ?_)
                obtain ⟨hr, hWu⟩ := hw
                have hm := hm r_11 hr
                have hSt : stG dC dI cy ad A s nj ti g H locs := ⟨u, ⟨cPost_P ht hB, cPost_D hFc hB, hS⟩, hWu⟩
                refine lv_imul hx hb dL_plans_317 ?_
                refine lv_icmp_gt (tgt := 325) hx hb dL_plans_318 (by decide) (fun c_12 => ?_) (fun c_12 => ?_)
                · have hm := hm.1 c_12
                  exact k_L_plans_325 C0 x1 x3 H locs ls hm hSt (lv_sub hl [0, 1, 3] rfl) hret hK333
                · have hm := hm.2 c_12
                  refine lv_iconst (v := 1) hx hb dL_plans_321 (by decide) ?_
                  refine lv_goto (tgt := 326) hx hb dL_plans_322 (by decide) ?_
                  refine lv_istore (lv' := [(5, .int (1 : Int32)), (0, .ref (ad 0)), (1, .int x1), (2, .int x2), (3, .int x3), (4, .int x4)]) hx hb dL_plans_326 hl (by decide) rfl (fun ls hl => ?_)
                  refine lv_iload hx hb dL_plans_328 (lv_at hl 0 rfl) ?_
                  refine lv_if_eq (tgt := 361) hx hb dL_plans_330 (by decide) (fun c_13 => ?_) (fun c_13 => ?_)
                  · have hm := hm.1 c_13
                    refine lv_iconst (v := 0) hx hb dL_plans_361 (by decide) ?_
                    exact hret (0 : Int32) H locs ls 362 dL_plans_362 rfl hSt hm
                  · have hm := hm.2 c_13
                    exact hK333 x1 x3 H locs ls hm hSt (lv_sub hl [1, 2, 4] rfl)

set_option maxHeartbeats 4000000 in
set_option maxRecDepth 100000 in
theorem k_L_plans_30 {N : Nat} {nj : Nat} {ti : Nat → Int32} {g : Nat → Nat} {Q : Int32 → Prop} {K333 : Int32 → Int32 → Prop} (C0 : cxM cL_plans 12 (some .boolean) RL wsL_plans p s m args meth c dC dI cy A) :
    ∀ (n : Nat) (x1 : Int32) (x2 : Int32) (x3 : Int32) (x4 : Int32) (x5 : Int32) (x6 : Int32) (H : Heap) (locs : List Loc) (ls : Array Slot) (hm : p_L_plans_30 N nj ti g Q K333 n x1 x2 x3 x4 x5 x6) (hSt : stG dC dI cy ad A s nj ti g H locs) (hl : lv_has ls 12 [(0, .ref (ad 0)), (1, .int x1), (2, .int x2), (3, .int x3), (4, .int x4), (5, .int x5), (6, .int x6)]) (hret : ∀ (r : Int32) (H : Heap) (locs : List Loc) (ls : Array Slot) (pc : Nat), decode cL_plans pc = .ok (.ireturn, 1) → narrow .boolean (.int r) = .int r → stG dC dI cy ad A s nj ti g H locs → Q r → W p l e rmL_plans s m args below meth c H locs 0 0 Z (F0 m pc ls [.int r])) (hK333 : ∀ (x1 : Int32) (x3 : Int32) (H : Heap) (locs : List Loc) (ls : Array Slot), K333 x1 x3 → stG dC dI cy ad A s nj ti g H locs → lv_has ls 12 [(0, .ref (ad 0)), (1, .int x1), (3, .int x3)] → W p l e rmL_plans s m args below meth c H locs 0 0 Z (F0 m 333 ls [])), W p l e rmL_plans s m args below meth c H locs 0 0 Z (F0 m 30 ls []) := by
  obtain ⟨hx, hb, hml, hr, hown, hts, hlocks, hK, hA, hN⟩ := id C0
  intro n
  induction n with
  | zero => intro x1 x2 x3 x4 x5 x6 H locs ls hm; exact False.elim hm
  | succ n ih =>
    intro x1 x2 x3 x4 x5 x6 H locs ls hm hSt hl hret hK333
    skip
    unfold p_L_plans_30 at hm
    refine lv_iload hx hb dL_plans_30 (lv_at hl 6 rfl) ?_
    refine lv_iconst (v := 3) hx hb dL_plans_32 (by decide) ?_
    refine lv_icmp_ge (tgt := 265) hx hb dL_plans_33 (by decide) (fun c_1 => ?_) (fun c_1 => ?_)
    · have hm := hm.1 c_1
      exact k_L_plans_265 C0 x1 x2 x3 x4 x5 H locs ls hm hSt (lv_sub hl [0, 1, 2, 3, 4, 5] rfl) hret hK333
    · have hm := hm.2 c_1
      refine lv_iload hx hb dL_plans_36 (lv_at hl 5 rfl) ?_
      refine lv_if_eq (tgt := 265) hx hb dL_plans_38 (by decide) (fun c_2 => ?_) (fun c_2 => ?_)
      · have hm := hm.1 c_2
        exact k_L_plans_265 C0 x1 x2 x3 x4 x5 H locs ls hm hSt (lv_sub hl [0, 1, 2, 3, 4, 5] rfl) hret hK333
      · have hm := hm.2 c_2
        refine lv_iconst (v := 0) hx hb dL_plans_41 (by decide) ?_
        refine lv_istore (lv' := [(7, .int (0 : Int32)), (0, .ref (ad 0)), (1, .int x1), (2, .int x2), (3, .int x3), (4, .int x4), (5, .int x5), (6, .int x6)]) hx hb dL_plans_42 hl (by decide) rfl (fun ls hl => ?_)
        refine lv_iconst (v := 0) hx hb dL_plans_44 (by decide) ?_
        refine lv_istore (lv' := [(8, .int (0 : Int32)), (7, .int (0 : Int32)), (0, .ref (ad 0)), (1, .int x1), (2, .int x2), (3, .int x3), (4, .int x4), (5, .int x5), (6, .int x6)]) hx hb dL_plans_45 hl (by decide) rfl (fun ls hl => ?_)
        refine lv_iconst (v := 0) hx hb dL_plans_47 (by decide) ?_
        refine lv_istore (lv' := [(9, .int (0 : Int32)), (8, .int (0 : Int32)), (7, .int (0 : Int32)), (0, .ref (ad 0)), (1, .int x1), (2, .int x2), (3, .int x3), (4, .int x4), (5, .int x5), (6, .int x6)]) hx hb dL_plans_48 hl (by decide) rfl (fun ls hl => ?_)
        refine lv_iconst (v := 0) hx hb dL_plans_50 (by decide) ?_
        refine lv_istore (lv' := [(10, .int (0 : Int32)), (9, .int (0 : Int32)), (8, .int (0 : Int32)), (7, .int (0 : Int32)), (0, .ref (ad 0)), (1, .int x1), (2, .int x2), (3, .int x3), (4, .int x4), (5, .int x5), (6, .int x6)]) hx hb dL_plans_51 hl (by decide) rfl (fun ls hl => ?_)
        refine k_L_plans_53 C0 N x1 x2 x3 x4 x5 x6 (0 : Int32) (0 : Int32) (0 : Int32) (0 : Int32) H locs ls hm hSt (lv_sub hl [4, 5, 6, 7, 8, 9, 10, 3, 2, 1, 0] rfl) hret (fun x1 x2 x3 x4 x5 x6 H locs ls hm hSt hl => ?_)
        · skip
          exact ih x1 x2 x3 x4 x5 x6 H locs ls hm hSt hl hret hK333

set_option maxHeartbeats 4000000 in
set_option maxRecDepth 100000 in
theorem k_L_plans_0 {N : Nat} {nj : Nat} {ti : Nat → Int32} {g : Nat → Nat} {Q : Int32 → Prop} {K333 : Int32 → Int32 → Prop} (C0 : cxM cL_plans 12 (some .boolean) RL wsL_plans p s m args meth c dC dI cy A) :
    ∀  (H : Heap) (locs : List Loc) (ls : Array Slot) (hm : p_L_plans N nj ti g Q K333 ) (hSt : stG dC dI cy ad A s nj ti g H locs) (hl : lv_has ls 12 [(0, .ref (ad 0))]) (hret : ∀ (r : Int32) (H : Heap) (locs : List Loc) (ls : Array Slot) (pc : Nat), decode cL_plans pc = .ok (.ireturn, 1) → narrow .boolean (.int r) = .int r → stG dC dI cy ad A s nj ti g H locs → Q r → W p l e rmL_plans s m args below meth c H locs 0 0 Z (F0 m pc ls [.int r])) (hK333 : ∀ (x1 : Int32) (x3 : Int32) (H : Heap) (locs : List Loc) (ls : Array Slot), K333 x1 x3 → stG dC dI cy ad A s nj ti g H locs → lv_has ls 12 [(0, .ref (ad 0)), (1, .int x1), (3, .int x3)] → W p l e rmL_plans s m args below meth c H locs 0 0 Z (F0 m 333 ls [])), W p l e rmL_plans s m args below meth c H locs 0 0 Z (F0 m 0 ls []) := by
  obtain ⟨hx, hb, hml, hr, hown, hts, hlocks, hK, hA, hN⟩ := id C0
  intro  H locs ls hm hSt hl hret hK333
  skip
  unfold p_L_plans at hm
  refine lv_aload_n hx hb dL_plans_0 rfl (lv_at hl 0 rfl) ?_
  obtain ⟨w0, ⟨hP, hD, hS⟩, hW0⟩ := hSt
  have hFc := va_freeSame hD hS hA
  refine va_calli (va_runV (As := []) (rest := []) ⟨hx, hb, hml, hown, hts⟩ (q_X6_shortest l dC dI cy ad H.size w0 nj ti g hW0 ) (cwV 0 hts gL_plans_X6_shortest rfl rfl rfl (by decide +kernel) ⟨Nat.le_of_ble_eq_true rfl, Nat.le_of_ble_eq_true rfl⟩) ⟨cPre_blind, va_recv hK hP (ci := 6) (q0 := 0) rfl hW0.recv.choose_spec, fun U hU hW => ⟨rfl, cPre_at hP hK hD hN hU hW⟩⟩ rfl rfl hl.1 rfl (lv_room (Nat.le_of_ble_eq_true rfl)) dL_plans_1 ⟨Nat.zero_le _, Nat.zero_le _⟩) hS (fun q _ h => hFc q h) hFc (fun r_1 u t H locs ht hvm hw hB hz1 hk1 hS => ?_)
  obtain ⟨hr, hWu⟩ := hw
  have hm := hm r_1 hr
  have hSt : stG dC dI cy ad A s nj ti g H locs := ⟨u, ⟨cPost_P ht hB, cPost_D hFc hB, hS⟩, hWu⟩
  refine lv_istore_n (lv' := [(1, .int r_1), (0, .ref (ad 0))]) hx hb dL_plans_4 rfl hl (by decide) rfl (fun ls hl => ?_)
  refine lv_iconst (v := 0) hx hb dL_plans_5 (by decide) ?_
  refine lv_istore_n (lv' := [(2, .int (0 : Int32)), (1, .int r_1), (0, .ref (ad 0))]) hx hb dL_plans_6 rfl hl (by decide) rfl (fun ls hl => ?_)
  refine lv_iconst (v := 0) hx hb dL_plans_7 (by decide) ?_
  refine lv_istore_n (lv' := [(3, .int (0 : Int32)), (2, .int (0 : Int32)), (1, .int r_1), (0, .ref (ad 0))]) hx hb dL_plans_8 rfl hl (by decide) rfl (fun ls hl => ?_)
  refine lv_iconst (v := 0) hx hb dL_plans_9 (by decide) ?_
  refine lv_istore (lv' := [(4, .int (0 : Int32)), (3, .int (0 : Int32)), (2, .int (0 : Int32)), (1, .int r_1), (0, .ref (ad 0))]) hx hb dL_plans_10 hl (by decide) rfl (fun ls hl => ?_)
  refine lv_iload_n hx hb dL_plans_12 rfl (lv_at hl 3 rfl) ?_
  refine lv_aload_n hx hb dL_plans_13 rfl (lv_at hl 4 rfl) ?_
  obtain ⟨w0, ⟨hP, hD, hS⟩, hW0⟩ := hSt
  have hFc := va_freeSame hD hS hA
  refine va_calli (va_runV (As := []) (rest := [.int r_1]) ⟨hx, hb, hml, hown, hts⟩ (q_X6_shortestByTrying l dC dI cy ad H.size w0 nj ti g hW0 ) (cwV 0 hts gL_plans_X6_shortestByTrying rfl rfl rfl (by decide +kernel) ⟨Nat.le_of_ble_eq_true rfl, Nat.le_of_ble_eq_true rfl⟩) ⟨cPre_blind, va_recv hK hP (ci := 6) (q0 := 0) rfl hW0.recv.choose_spec, fun U hU hW => ⟨rfl, cPre_at hP hK hD hN hU hW⟩⟩ rfl rfl hl.1 rfl (lv_room (Nat.le_of_ble_eq_true rfl)) dL_plans_14 ⟨Nat.zero_le _, Nat.zero_le _⟩) hS (fun q _ h => hFc q h) hFc (fun r_2 u t H locs ht hvm hw hB hz1 hk1 hS => ?_)
  obtain ⟨hr, hWu⟩ := hw
  have hm := hm r_2 hr
  have hSt : stG dC dI cy ad A s nj ti g H locs := ⟨u, ⟨cPost_P ht hB, cPost_D hFc hB, hS⟩, hWu⟩
  refine lv_icmp_ne (tgt := 24) hx hb dL_plans_17 (by decide) (fun c_3 => ?_) (fun c_3 => ?_)
  · have hm := hm.2 c_3
    refine lv_iconst (v := 0) hx hb dL_plans_24 (by decide) ?_
    refine lv_istore (lv' := [(5, .int (0 : Int32)), (4, .int (0 : Int32)), (3, .int (0 : Int32)), (2, .int (0 : Int32)), (1, .int r_1), (0, .ref (ad 0))]) hx hb dL_plans_25 hl (by decide) rfl (fun ls hl => ?_)
    refine lv_iconst (v := 0) hx hb dL_plans_27 (by decide) ?_
    refine lv_istore (lv' := [(6, .int (0 : Int32)), (5, .int (0 : Int32)), (4, .int (0 : Int32)), (3, .int (0 : Int32)), (2, .int (0 : Int32)), (1, .int r_1), (0, .ref (ad 0))]) hx hb dL_plans_28 hl (by decide) rfl (fun ls hl => ?_)
    exact k_L_plans_30 C0 N r_1 (0 : Int32) (0 : Int32) (0 : Int32) (0 : Int32) (0 : Int32) H locs ls hm hSt (lv_sub hl [6, 5, 4, 3, 2, 1, 0] rfl) hret hK333
  · have hm := hm.1 c_3
    refine lv_iconst (v := 1) hx hb dL_plans_20 (by decide) ?_
    refine lv_goto (tgt := 25) hx hb dL_plans_21 (by decide) ?_
    refine lv_istore (lv' := [(5, .int (1 : Int32)), (4, .int (0 : Int32)), (3, .int (0 : Int32)), (2, .int (0 : Int32)), (1, .int r_1), (0, .ref (ad 0))]) hx hb dL_plans_25 hl (by decide) rfl (fun ls hl => ?_)
    refine lv_iconst (v := 0) hx hb dL_plans_27 (by decide) ?_
    refine lv_istore (lv' := [(6, .int (0 : Int32)), (5, .int (1 : Int32)), (4, .int (0 : Int32)), (3, .int (0 : Int32)), (2, .int (0 : Int32)), (1, .int r_1), (0, .ref (ad 0))]) hx hb dL_plans_28 hl (by decide) rfl (fun ls hl => ?_)
    exact k_L_plans_30 C0 N r_1 (0 : Int32) (0 : Int32) (0 : Int32) (1 : Int32) (0 : Int32) H locs ls hm hSt (lv_sub hl [6, 5, 4, 3, 2, 1, 0] rfl) hret hK333

