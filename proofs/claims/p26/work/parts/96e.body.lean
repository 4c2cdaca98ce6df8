variable {p : Program} {l : Launch} {e : Env} {s : State} {m : MethodId} {args : Array Value} {below : List Frame} {meth : Method} {c : Code} {dC : Nat → ClassId} {dI : Nat → Nat → Nat} {cy : Nat → ClassId} {ad : Nat → Nat} {A : Nat → Prop} {Z : State → Prop} {b cq sq : Nat}

-- ===== the body of law
def p_L_law_529 (N : Nat) (Q : Int32 → Nat → (Nat → Int32) → (Nat → Nat) → Prop) (K566 : Int32 → Int32 → Nat → (Nat → Int32) → (Nat → Nat) → Prop) (x2 : Int32) (x3 : Int32) (x5 : Int32) (x10 : Int32) (nj : Nat) (ti : Nat → Int32) (g : Nat → Nat) : Prop :=
  (x2 = 0 → (K566 (0 : Int32) x3 nj ti g)) ∧ (¬ x2 = 0 → ((0 < (x5 - x5 / (4 : Int32) * (4 : Int32)) → (K566 (1 : Int32) x3 nj ti g)) ∧ (¬ 0 < (x5 - x5 / (4 : Int32) * (4 : Int32)) → (∀ (r_3 : Int32) (g_4 : Nat → Nat), (r_3 = nI (tkN nj g (rD nj ti)) ∧ DF nj ti) ∧ g_4 = rD nj ti → ((r_3 = x10 → (∀ r_6 : Int32, r_6 = nI (lenN nj (tN ti) g_4) → (∀ r_7 : Int32, r_7 = nI (lenN nj (tN ti) (rD nj ti)) ∧ DF nj ti → ((r_6 = r_7 → (K566 (1 : Int32) x3 nj ti g_4)) ∧ (¬ r_6 = r_7 → (K566 (0 : Int32) x3 nj ti g_4)))))) ∧ (¬ r_3 = x10 → (K566 (0 : Int32) x3 nj ti g_4)))))))

def p_L_law_484 (N : Nat) (Q : Int32 → Nat → (Nat → Int32) → (Nat → Nat) → Prop) (K566 : Int32 → Int32 → Nat → (Nat → Int32) → (Nat → Nat) → Prop) : Nat → Int32 → Int32 → Int32 → Int32 → Int32 → Int32 → Nat → (Nat → Int32) → (Nat → Nat) → Prop
  | 0 => fun _ _ _ _ _ _ _ _ _ => False
  | n + 1 => fun x2 x3 x5 x6 x10 x11 nj ti g => (x6 ≤ x11 → (p_L_law_529 N Q K566 x2 x3 x5 x10 nj ti g)) ∧ (¬ x6 ≤ x11 → (((x5 - x5 / (4 : Int32) * (4 : Int32)) = 0 → (jOK nj x11 ∧ (∀ r_3 : Int32, r_3 = nI (g (x11).toNatClampNeg) → (jOK nj x11 ∧ (∀ r_4 : Int32, r_4 = nI (rD nj ti (x11).toNatClampNeg) ∧ DF nj ti → ((r_3 = r_4 → (∀ x10_6 : Int32, x10_6 = x10 + (0 : Int32) → (∀ x11_7 : Int32, x11_7 = x11 + (1 : Int32) → (p_L_law_484 N Q K566 n x2 x3 x5 x6 x10_6 x11_7 nj ti g)))) ∧ (¬ r_3 = r_4 → (∀ x10_8 : Int32, x10_8 = x10 + (1 : Int32) → (∀ x11_9 : Int32, x11_9 = x11 + (1 : Int32) → (p_L_law_484 N Q K566 n x2 x3 x5 x6 x10_8 x11_9 nj ti g)))))))))) ∧ (¬ (x5 - x5 / (4 : Int32) * (4 : Int32)) = 0 → (p_L_law_529 N Q K566 x2 x3 x5 x10 nj ti g))))

def p_L_law_477 (N : Nat) (Q : Int32 → Nat → (Nat → Int32) → (Nat → Nat) → Prop) (K566 : Int32 → Int32 → Nat → (Nat → Int32) → (Nat → Nat) → Prop) (x3 : Int32) (x5 : Int32) (x6 : Int32) (s0 : Int32) (nj : Nat) (ti : Nat → Int32) (g : Nat → Nat) : Prop :=
  p_L_law_484 N Q K566 N s0 x3 x5 x6 (0 : Int32) (0 : Int32) nj ti g

def p_L_law_171 (N : Nat) (Q : Int32 → Nat → (Nat → Int32) → (Nat → Nat) → Prop) (K566 : Int32 → Int32 → Nat → (Nat → Int32) → (Nat → Nat) → Prop) (x3 : Int32) (x6 : Int32) (x8 : Int32) (x9 : Int32) (s0 : Int32) (nj : Nat) (ti : Nat → Int32) (g : Nat → Nat) : Prop :=
  jOK 51 x8 ∧ (jOK 51 x9 ∧ (jOK 51 s0 ∧ (∀ (r_1 : Int32) (nj_2 : Nat) (ti_3 : Nat → Int32) (g_4 : Nat → Nat), r_1 = (if x8 = 0 ∧ x9 = 0 ∧ s0 = 0 then -102 else if nj < 7 then nI nj else -103) → ((((x8 + x9) + s0) = 0 → ((r_1 = (-102 : Int32) → (K566 (1 : Int32) x3 nj_2 ti_3 g_4)) ∧ (¬ r_1 = (-102 : Int32) → (K566 (0 : Int32) x3 nj_2 ti_3 g_4)))) ∧ (¬ ((x8 + x9) + s0) = 0 → (((7 : Int32) ≤ x6 → ((r_1 = (-103 : Int32) → (K566 (1 : Int32) x3 nj_2 ti_3 g_4)) ∧ (¬ r_1 = (-103 : Int32) → (K566 (0 : Int32) x3 nj_2 ti_3 g_4)))) ∧ (¬ (7 : Int32) ≤ x6 → ((r_1 = x6 → (K566 (1 : Int32) x3 nj_2 ti_3 g_4)) ∧ (¬ r_1 = x6 → (K566 (0 : Int32) x3 nj_2 ti_3 g_4))))))))))

def p_L_law_421 (N : Nat) (Q : Int32 → Nat → (Nat → Int32) → (Nat → Nat) → Prop) (K566 : Int32 → Int32 → Nat → (Nat → Int32) → (Nat → Nat) → Prop) (x3 : Int32) (x5 : Int32) (x6 : Int32) (nj : Nat) (ti : Nat → Int32) (g : Nat → Nat) : Prop :=
  ∀ r_1 : Int32, r_1 = nI (lenN nj (tN ti) g) → (∀ (r_2 : Int32) (g_3 : Nat → Nat), r_2 = (if (swA nj (tN ti) g nj).2 = 1000 then -1 else nI (lenN nj (tN ti) (app g (swA nj (tN ti) g nj).2))) ∧ g_3 = app g (swA nj (tN ti) g nj).2 → ((r_2 = (-1 : Int32) → (∀ r_8 : Int32, r_8 = nI (lenN nj (tN ti) g_3) → ((r_8 = r_1 → (p_L_law_477 N Q K566 x3 x5 x6 (1 : Int32) nj ti g_3)) ∧ (¬ r_8 = r_1 → (p_L_law_477 N Q K566 x3 x5 x6 (0 : Int32) nj ti g_3))))) ∧ (¬ r_2 = (-1 : Int32) → ((r_1 < r_2 → (p_L_law_477 N Q K566 x3 x5 x6 (0 : Int32) nj ti g_3)) ∧ (¬ r_1 < r_2 → (∀ r_6 : Int32, r_6 = nI (lenN nj (tN ti) g_3) → ((r_6 = r_2 → (p_L_law_477 N Q K566 x3 x5 x6 (1 : Int32) nj ti g_3)) ∧ (¬ r_6 = r_2 → (p_L_law_477 N Q K566 x3 x5 x6 (0 : Int32) nj ti g_3)))))))))

def p_L_law_143 (N : Nat) (Q : Int32 → Nat → (Nat → Int32) → (Nat → Nat) → Prop) (K566 : Int32 → Int32 → Nat → (Nat → Int32) → (Nat → Nat) → Prop) (x3 : Int32) (x5 : Int32) (x6 : Int32) (x8 : Int32) (s0 : Int32) (nj : Nat) (ti : Nat → Int32) (g : Nat → Nat) : Prop :=
  (((x5 / (640 : Int32)) - (x5 / (640 : Int32)) / (3 : Int32) * (3 : Int32)) = 0 → (p_L_law_171 N Q K566 x3 x6 x8 s0 (0 : Int32) nj ti g)) ∧ (¬ ((x5 / (640 : Int32)) - (x5 / (640 : Int32)) / (3 : Int32) * (3 : Int32)) = 0 → (p_L_law_171 N Q K566 x3 x6 x8 s0 ((1 : Int32) + ((x5 / (1920 : Int32)) - (x5 / (1920 : Int32)) / (12 : Int32) * (12 : Int32))) nj ti g))

def p_L_law_313 (N : Nat) (Q : Int32 → Nat → (Nat → Int32) → (Nat → Nat) → Prop) (K566 : Int32 → Int32 → Nat → (Nat → Int32) → (Nat → Nat) → Prop) (x3 : Int32) (x4 : Int32) (x5 : Int32) (x6 : Int32) (x7 : Int32) (nj : Nat) (ti : Nat → Int32) (g : Nat → Nat) : Prop :=
  ((x4 - x4 / (8 : Int32) * (8 : Int32)) = (5 : Int32) → (∀ (r_12 : Int32) (nj_13 : Nat), r_12 = (if nj = 0 then -1 else nI (nj - 1)) → ((x6 = 0 → ((r_12 = (-1 : Int32) → (K566 (1 : Int32) x3 nj_13 ti g)) ∧ (¬ r_12 = (-1 : Int32) → (K566 (0 : Int32) x3 nj_13 ti g)))) ∧ (¬ x6 = 0 → ((r_12 = (x6 - (1 : Int32)) → (K566 (1 : Int32) x3 nj_13 ti g)) ∧ (¬ r_12 = (x6 - (1 : Int32)) → (K566 (0 : Int32) x3 nj_13 ti g))))))) ∧ (¬ (x4 - x4 / (8 : Int32) * (8 : Int32)) = (5 : Int32) → (((x4 - x4 / (8 : Int32) * (8 : Int32)) = (6 : Int32) → ((x6 ≤ 0 → (p_L_law_421 N Q K566 x3 x5 x6 nj ti g)) ∧ (¬ x6 ≤ 0 → (∀ x8_4 : Int32, x8_4 = (x5 / (7 : Int32)) - (x5 / (7 : Int32)) / (3 : Int32) * (3 : Int32) → (jOK nj x7 ∧ (∀ r_5 : Int32, r_5 = nI (g (x7).toNatClampNeg) → (jOK nj x7 ∧ (jOK 3 x8_4 ∧ (∀ (r_6 : Int32) (g_7 : Nat → Nat), r_6 = (if ti (3 * (x7).toNatClampNeg + (x8_4).toNatClampNeg) = 0 then -103 else nI (g (x7).toNatClampNeg)) → (jOK nj x7 ∧ (jOK 3 x8_4 ∧ (∀ r_8 : Int32, r_8 = ti (3 * (x7).toNatClampNeg + (x8_4).toNatClampNeg) → ((r_8 ≤ 0 → ((r_6 = (-103 : Int32) → (K566 (1 : Int32) x3 nj ti g_7)) ∧ (¬ r_6 = (-103 : Int32) → (K566 (0 : Int32) x3 nj ti g_7)))) ∧ (¬ r_8 ≤ 0 → ((r_6 = r_5 → (K566 (1 : Int32) x3 nj ti g_7)) ∧ (¬ r_6 = r_5 → (K566 (0 : Int32) x3 nj ti g_7))))))))))))))))) ∧ (¬ (x4 - x4 / (8 : Int32) * (8 : Int32)) = (6 : Int32) → (p_L_law_421 N Q K566 x3 x5 x6 nj ti g))))

def p_L_law_117 (N : Nat) (Q : Int32 → Nat → (Nat → Int32) → (Nat → Nat) → Prop) (K566 : Int32 → Int32 → Nat → (Nat → Int32) → (Nat → Nat) → Prop) (x3 : Int32) (x5 : Int32) (x6 : Int32) (s0 : Int32) (nj : Nat) (ti : Nat → Int32) (g : Nat → Nat) : Prop :=
  (((x5 / (16 : Int32)) - (x5 / (16 : Int32)) / (4 : Int32) * (4 : Int32)) = 0 → (p_L_law_143 N Q K566 x3 x5 x6 s0 (0 : Int32) nj ti g)) ∧ (¬ ((x5 / (16 : Int32)) - (x5 / (16 : Int32)) / (4 : Int32) * (4 : Int32)) = 0 → (p_L_law_143 N Q K566 x3 x5 x6 s0 ((1 : Int32) + ((x5 / (64 : Int32)) - (x5 / (64 : Int32)) / (9 : Int32) * (9 : Int32))) nj ti g))

def p_L_law_74 (N : Nat) (Q : Int32 → Nat → (Nat → Int32) → (Nat → Nat) → Prop) (K566 : Int32 → Int32 → Nat → (Nat → Int32) → (Nat → Nat) → Prop) (x3 : Int32) (x4 : Int32) (x5 : Int32) (x6 : Int32) (s0 : Int32) (nj : Nat) (ti : Nat → Int32) (g : Nat → Nat) : Prop :=
  ((4 : Int32) ≤ (x4 - x4 / (8 : Int32) * (8 : Int32)) → (((x4 - x4 / (8 : Int32) * (8 : Int32)) = (4 : Int32) → ((x6 ≤ 0 → (p_L_law_313 N Q K566 x3 x4 x5 x6 s0 nj ti g)) ∧ (¬ x6 ≤ 0 → (∀ x8_4 : Int32, x8_4 = (x5 / (7 : Int32)) - (x5 / (7 : Int32)) / (3 : Int32) * (3 : Int32) → (jOK nj s0 ∧ (jOK 3 x8_4 ∧ (∀ r_5 : Int32, r_5 = ti (3 * (s0).toNatClampNeg + (x8_4).toNatClampNeg) → (∀ x10_6 : Int32, x10_6 = (x5 / (21 : Int32)) - (x5 / (21 : Int32)) / (12 : Int32) * (12 : Int32) → (jOK nj s0 ∧ (jOK 3 x8_4 ∧ (jOK 51 x10_6 ∧ (∀ (r_7 : Int32) (ti_8 : Nat → Int32), r_7 = (if x10_6 = 0 ∧ nI (g (s0).toNatClampNeg) = x8_4 then -103 else ti (3 * (s0).toNatClampNeg + (x8_4).toNatClampNeg)) → ((x10_6 = 0 → (jOK nj s0 ∧ (∀ r_11 : Int32, r_11 = nI (g (s0).toNatClampNeg) → ((r_11 = x8_4 → ((r_7 = (-103 : Int32) → (K566 (1 : Int32) x3 nj ti_8 g)) ∧ (¬ r_7 = (-103 : Int32) → (K566 (0 : Int32) x3 nj ti_8 g)))) ∧ (¬ r_11 = x8_4 → ((r_7 = r_5 → (K566 (1 : Int32) x3 nj ti_8 g)) ∧ (¬ r_7 = r_5 → (K566 (0 : Int32) x3 nj ti_8 g)))))))) ∧ (¬ x10_6 = 0 → ((r_7 = r_5 → (K566 (1 : Int32) x3 nj ti_8 g)) ∧ (¬ r_7 = r_5 → (K566 (0 : Int32) x3 nj ti_8 g))))))))))))))))) ∧ (¬ (x4 - x4 / (8 : Int32) * (8 : Int32)) = (4 : Int32) → (p_L_law_313 N Q K566 x3 x4 x5 x6 s0 nj ti g)))) ∧ (¬ (4 : Int32) ≤ (x4 - x4 / (8 : Int32) * (8 : Int32)) → (((x5 - x5 / (4 : Int32) * (4 : Int32)) = 0 → (p_L_law_117 N Q K566 x3 x5 x6 (0 : Int32) nj ti g)) ∧ (¬ (x5 - x5 / (4 : Int32) * (4 : Int32)) = 0 → (((x5 - x5 / (3 : Int32) * (3 : Int32)) = 0 → (p_L_law_117 N Q K566 x3 x5 x6 ((1 : Int32) + ((x5 / (4 : Int32)) - (x5 / (4 : Int32)) / (50 : Int32) * (50 : Int32))) nj ti g)) ∧ (¬ (x5 - x5 / (3 : Int32) * (3 : Int32)) = 0 → (p_L_law_117 N Q K566 x3 x5 x6 ((1 : Int32) + ((x5 / (4 : Int32)) - (x5 / (4 : Int32)) / (9 : Int32) * (9 : Int32))) nj ti g))))))

def p_L_law_45 (N : Nat) (Q : Int32 → Nat → (Nat → Int32) → (Nat → Nat) → Prop) (K566 : Int32 → Int32 → Nat → (Nat → Int32) → (Nat → Nat) → Prop) (x3 : Int32) (s0 : Int32) (nj : Nat) (ti : Nat → Int32) (g : Nat → Nat) : Prop :=
  ∀ x5_1 : Int32, x5_1 = s0 / (8 : Int32) → (∀ r_2 : Int32, r_2 = nI nj → ((r_2 = 0 → (p_L_law_74 N Q K566 x3 s0 x5_1 r_2 (0 : Int32) nj ti g)) ∧ (¬ r_2 = 0 → ((¬ r_2 = 0) ∧ (p_L_law_74 N Q K566 x3 s0 x5_1 r_2 (x5_1 - x5_1 / r_2 * r_2) nj ti g)))))

set_option maxHeartbeats 4000000 in
set_option maxRecDepth 100000 in
theorem k_L_law_529 {N : Nat} {Q : Int32 → Nat → (Nat → Int32) → (Nat → Nat) → Prop} {K566 : Int32 → Int32 → Nat → (Nat → Int32) → (Nat → Nat) → Prop} (C0 : cxM cL_law 12 (some .boolean) RL wsL_law p s m args meth c dC dI cy A) (hXw : xwC s) (hXs : xsC A s s.heap) (hst : l.stackTraces = false) (hcq : cq ≤ 600000) (hsq : sq ≤ 7300000) :
    ∀ (x2 : Int32) (x3 : Int32) (x5 : Int32) (x10 : Int32) (nj : Nat) (ti : Nat → Int32) (g : Nat → Nat) (H : Heap) (locs : List Loc) (ls : Array Slot) (hm : p_L_law_529 N Q K566 x2 x3 x5 x10 nj ti g) (hSt : stG dC dI cy ad A s nj ti g H locs) (hl : lv_has ls 12 [(0, .ref b), (1, .ref (ad 0)), (2, .int x2), (3, .int x3), (5, .int x5), (10, .int x10)]) (hret : ∀ (r : Int32) (nj : Nat) (ti : Nat → Int32) (g : Nat → Nat) (H : Heap) (locs : List Loc) (ls : Array Slot) (pc : Nat), decode cL_law pc = .ok (.ireturn, 1) → narrow .boolean (.int r) = .int r → stG dC dI cy ad A s nj ti g H locs → Q r nj ti g → W p l e room_1 s m args below meth c H locs (cq + 0) (sq + 0) Z (F0 m pc ls [.int r])) (hK566 : ∀ (x2 : Int32) (x3 : Int32) (nj : Nat) (ti : Nat → Int32) (g : Nat → Nat) (H : Heap) (locs : List Loc) (ls : Array Slot), K566 x2 x3 nj ti g → stG dC dI cy ad A s nj ti g H locs → lv_has ls 12 [(0, .ref b), (1, .ref (ad 0)), (2, .int x2), (3, .int x3)] → W p l e room_1 s m args below meth c H locs (cq + 3) (sq + 18) Z (F0 m 566 ls [])), W p l e room_1 s m args below meth c H locs (cq + 0) (sq + 0) Z (F0 m 529 ls []) := by
  obtain ⟨hx, hb, hml, hr, hown, hts, hlocks, hK, hA, hN⟩ := id C0
  intro x2 x3 x5 x10 nj ti g H locs ls hm hSt hl hret hK566
  skip
  unfold p_L_law_529 at hm
  refine lv_iload_n hx hb dL_law_529 rfl (lv_at hl 2 rfl) ?_
  refine lv_if_eq (tgt := 564) hx hb dL_law_530 (by decide) (fun c_1 => ?_) (fun c_1 => ?_)
  · have hm := hm.1 c_1
    refine lv_iconst (v := 0) hx hb dL_law_564 (by decide) ?_
    refine lv_istore_n (lv' := [(2, .int (0 : Int32)), (0, .ref b), (1, .ref (ad 0)), (3, .int x3), (5, .int x5), (10, .int x10)]) hx hb dL_law_565 rfl hl (by decide) rfl (fun ls hl => ?_)
    refine W.widen (k := cq + 3) (n := sq + 18) (by omega) (by omega) ?_
    exact hK566 (0 : Int32) x3 nj ti g H locs ls hm hSt (lv_sub hl [1, 2, 0, 3] rfl)
  · have hm := hm.2 c_1
    refine lv_iload hx hb dL_law_533 (lv_at hl 4 rfl) ?_
    refine lv_iconst (v := 4) hx hb dL_law_535 (by decide) ?_
    refine lv_irem hx hb dL_law_536 (by decide) ?_
    refine lv_if_gt (tgt := 560) hx hb dL_law_537 (by decide) (fun c_2 => ?_) (fun c_2 => ?_)
    · have hm := hm.1 c_2
      refine lv_iconst (v := 1) hx hb dL_law_560 (by decide) ?_
      refine lv_goto (tgt := 565) hx hb dL_law_561 (by decide) ?_
      refine lv_istore_n (lv' := [(2, .int (1 : Int32)), (0, .ref b), (1, .ref (ad 0)), (3, .int x3), (5, .int x5), (10, .int x10)]) hx hb dL_law_565 rfl hl (by decide) rfl (fun ls hl => ?_)
      refine W.widen (k := cq + 3) (n := sq + 18) (by omega) (by omega) ?_
      exact hK566 (1 : Int32) x3 nj ti g H locs ls hm hSt (lv_sub hl [1, 2, 0, 3] rfl)
    · have hm := hm.2 c_2
      refine lv_aload_n hx hb dL_law_540 rfl (lv_at hl 1 rfl) ?_
      obtain ⟨w0, ⟨hP, hD, hS⟩, hW0⟩ := hSt
      have hFc := va_freeSame hD hS hA
      refine va_calli (va_runV (As := []) (rest := []) ⟨hx, hb, hml, hown, hts⟩ (q_X6_takeRounded l dC dI cy ad H.size w0 nj ti g hW0 ) (cwV 0 hts gL_law_X6_takeRounded rfl rfl rfl (by decide +kernel) ⟨Nat.le_of_ble_eq_true rfl, Nat.le_of_ble_eq_true rfl⟩) ⟨cPre_blind, va_recv hK hP (ci := 6) (q0 := 0) rfl hW0.recv.choose_spec, fun U hU hW => ⟨rfl, cPre_at hP hK hD hN hU hW⟩⟩ rfl rfl hl.1 rfl (lv_room (Nat.le_of_ble_eq_true rfl)) dL_law_541 ⟨(show cq + 0 + 0 ≤ 600130 by omega), (show sq + 0 + 0 ≤ 7301080 by omega)⟩) hS (fun q _ h => hFc q h) hFc (fun r_3 u t H locs ht hvm hw hB hz1 hk1 hS => ?_)
      obtain ⟨hr, hWu⟩ := hw
      obtain ⟨g_4, en⟩ : ∃ z, z = rD nj ti := ⟨_, rfl⟩
      rw [← en] at hWu
      have hr := And.intro hr en
      have hm := hm r_3 g_4 hr
      have hSt : stG dC dI cy ad A s nj ti g_4 H locs := ⟨u, ⟨cPost_P ht hB, cPost_D hFc hB, hS⟩, hWu⟩
      refine lv_iload hx hb dL_law_544 (lv_at hl 5 rfl) ?_
      refine lv_icmp_ne (tgt := 564) hx hb dL_law_546 (by decide) (fun c_5 => ?_) (fun c_5 => ?_)
      · have hm := hm.2 c_5
        refine lv_iconst (v := 0) hx hb dL_law_564 (by decide) ?_
        refine lv_istore_n (lv' := [(2, .int (0 : Int32)), (0, .ref b), (1, .ref (ad 0)), (3, .int x3), (5, .int x5), (10, .int x10)]) hx hb dL_law_565 rfl hl (by decide) rfl (fun ls hl => ?_)
        refine W.widen (k := cq + 3) (n := sq + 18) (by omega) (by omega) ?_
        exact hK566 (0 : Int32) x3 nj ti g_4 H locs ls hm hSt (lv_sub hl [1, 2, 0, 3] rfl)
      · have hm := hm.1 c_5
        refine lv_aload_n hx hb dL_law_549 rfl (lv_at hl 1 rfl) ?_
        obtain ⟨w0, ⟨hP, hD, hS⟩, hW0⟩ := hSt
        have hFc := va_freeSame hD hS hA
        refine va_calli (va_runV (As := []) (rest := []) ⟨hx, hb, hml, hown, hts⟩ (q_X6_length l dC dI cy ad H.size w0 nj ti g_4 hW0 ) (cwV 0 hts gL_law_X6_length rfl rfl rfl (by decide +kernel) ⟨Nat.le_of_ble_eq_true rfl, Nat.le_of_ble_eq_true rfl⟩) ⟨cPre_blind, va_recv hK hP (ci := 6) (q0 := 0) rfl hW0.recv.choose_spec, fun U hU hW => ⟨rfl, cPre_at hP hK hD hN hU hW⟩⟩ rfl rfl hl.1 rfl (lv_room (Nat.le_of_ble_eq_true rfl)) dL_law_550 ⟨(show cq + 0 + 0 ≤ 600130 by omega), (show sq + 0 + 0 ≤ 7301080 by omega)⟩) hS (fun q _ h => hFc q h) hFc (fun r_6 u t H locs ht hvm hw hB hz1 hk1 hS => ?_)
        obtain ⟨hr, hWu⟩ := hw
        have hm := hm r_6 hr
        have hSt : stG dC dI cy ad A s nj ti g_4 H locs := ⟨u, ⟨cPost_P ht hB, cPost_D hFc hB, hS⟩, hWu⟩
        refine lv_aload_n hx hb dL_law_553 rfl (lv_at hl 1 rfl) ?_
        obtain ⟨w0, ⟨hP, hD, hS⟩, hW0⟩ := hSt
        have hFc := va_freeSame hD hS hA
        refine va_calli (va_runV (As := []) (rest := [.int r_6]) ⟨hx, hb, hml, hown, hts⟩ (q_X6_roundedLength l dC dI cy ad H.size w0 nj ti g_4 hW0 ) (cwV 0 hts gL_law_X6_roundedLength rfl rfl rfl (by decide +kernel) ⟨Nat.le_of_ble_eq_true rfl, Nat.le_of_ble_eq_true rfl⟩) ⟨cPre_blind, va_recv hK hP (ci := 6) (q0 := 0) rfl hW0.recv.choose_spec, fun U hU hW => ⟨rfl, cPre_at hP hK hD hN hU hW⟩⟩ rfl rfl hl.1 rfl (lv_room (Nat.le_of_ble_eq_true rfl)) dL_law_554 ⟨(show cq + 0 + 0 ≤ 600130 by omega), (show sq + 0 + 0 ≤ 7301080 by omega)⟩) hS (fun q _ h => hFc q h) hFc (fun r_7 u t H locs ht hvm hw hB hz1 hk1 hS => ?_)
        obtain ⟨hr, hWu⟩ := hw
        have hm := hm r_7 hr
        have hSt : stG dC dI cy ad A s nj ti g_4 H locs := ⟨u, ⟨cPost_P ht hB, cPost_D hFc hB, hS⟩, hWu⟩
        refine lv_icmp_ne (tgt := 564) hx hb dL_law_557 (by decide) (fun c_8 => ?_) (fun c_8 => ?_)
        · have hm := hm.2 c_8
          refine lv_iconst (v := 0) hx hb dL_law_564 (by decide) ?_
          refine lv_istore_n (lv' := [(2, .int (0 : Int32)), (0, .ref b), (1, .ref (ad 0)), (3, .int x3), (5, .int x5), (10, .int x10)]) hx hb dL_law_565 rfl hl (by decide) rfl (fun ls hl => ?_)
          refine W.widen (k := cq + 3) (n := sq + 18) (by omega) (by omega) ?_
          exact hK566 (0 : Int32) x3 nj ti g_4 H locs ls hm hSt (lv_sub hl [1, 2, 0, 3] rfl)
        · have hm := hm.1 c_8
          refine lv_iconst (v := 1) hx hb dL_law_560 (by decide) ?_
          refine lv_goto (tgt := 565) hx hb dL_law_561 (by decide) ?_
          refine lv_istore_n (lv' := [(2, .int (1 : Int32)), (0, .ref b), (1, .ref (ad 0)), (3, .int x3), (5, .int x5), (10, .int x10)]) hx hb dL_law_565 rfl hl (by decide) rfl (fun ls hl => ?_)
          refine W.widen (k := cq + 3) (n := sq + 18) (by omega) (by omega) ?_
          exact hK566 (1 : Int32) x3 nj ti g_4 H locs ls hm hSt (lv_sub hl [1, 2, 0, 3] rfl)

set_option maxHeartbeats 4000000 in
set_option maxRecDepth 100000 in
theorem k_L_law_484 {N : Nat} {Q : Int32 → Nat → (Nat → Int32) → (Nat → Nat) → Prop} {K566 : Int32 → Int32 → Nat → (Nat → Int32) → (Nat → Nat) → Prop} (C0 : cxM cL_law 12 (some .boolean) RL wsL_law p s m args meth c dC dI cy A) (hXw : xwC s) (hXs : xsC A s s.heap) (hst : l.stackTraces = false) (hcq : cq ≤ 600000) (hsq : sq ≤ 7300000) :
    ∀ (n : Nat) (x2 : Int32) (x3 : Int32) (x5 : Int32) (x6 : Int32) (x10 : Int32) (x11 : Int32) (nj : Nat) (ti : Nat → Int32) (g : Nat → Nat) (H : Heap) (locs : List Loc) (ls : Array Slot) (hm : p_L_law_484 N Q K566 n x2 x3 x5 x6 x10 x11 nj ti g) (hSt : stG dC dI cy ad A s nj ti g H locs) (hl : lv_has ls 12 [(0, .ref b), (1, .ref (ad 0)), (2, .int x2), (3, .int x3), (5, .int x5), (6, .int x6), (10, .int x10), (11, .int x11)]) (hret : ∀ (r : Int32) (nj : Nat) (ti : Nat → Int32) (g : Nat → Nat) (H : Heap) (locs : List Loc) (ls : Array Slot) (pc : Nat), decode cL_law pc = .ok (.ireturn, 1) → narrow .boolean (.int r) = .int r → stG dC dI cy ad A s nj ti g H locs → Q r nj ti g → W p l e room_1 s m args below meth c H locs (cq + 0) (sq + 0) Z (F0 m pc ls [.int r])) (hK566 : ∀ (x2 : Int32) (x3 : Int32) (nj : Nat) (ti : Nat → Int32) (g : Nat → Nat) (H : Heap) (locs : List Loc) (ls : Array Slot), K566 x2 x3 nj ti g → stG dC dI cy ad A s nj ti g H locs → lv_has ls 12 [(0, .ref b), (1, .ref (ad 0)), (2, .int x2), (3, .int x3)] → W p l e room_1 s m args below meth c H locs (cq + 3) (sq + 18) Z (F0 m 566 ls [])), W p l e room_1 s m args below meth c H locs (cq + 0) (sq + 0) Z (F0 m 484 ls []) := by
  obtain ⟨hx, hb, hml, hr, hown, hts, hlocks, hK, hA, hN⟩ := id C0
  intro n
  induction n with
  | zero => intro x2 x3 x5 x6 x10 x11 nj ti g H locs ls hm; exact False.elim hm
  | succ n ih =>
    intro x2 x3 x5 x6 x10 x11 nj ti g H locs ls hm hSt hl hret hK566
    skip
    unfold p_L_law_484 at hm
    refine lv_iload hx hb dL_law_484 (lv_at hl 7 rfl) ?_
    refine lv_iload hx hb dL_law_486 (lv_at hl 5 rfl) ?_
    refine lv_icmp_ge (tgt := 529) hx hb dL_law_488 (by decide) (fun c_1 => ?_) (fun c_1 => ?_)
    · have hm := hm.1 c_1
      exact k_L_law_529 C0 hXw hXs hst hcq hsq x2 x3 x5 x10 nj ti g H locs ls hm hSt (lv_sub hl [0, 1, 2, 3, 4, 6] rfl) hret hK566
    · have hm := hm.2 c_1
      refine lv_iload hx hb dL_law_491 (lv_at hl 4 rfl) ?_
      refine lv_iconst (v := 4) hx hb dL_law_493 (by decide) ?_
      refine lv_irem hx hb dL_law_494 (by decide) ?_
      refine lv_if_ne (tgt := 529) hx hb dL_law_495 (by decide) (fun c_2 => ?_) (fun c_2 => ?_)
      · have hm := hm.2 c_2
        exact k_L_law_529 C0 hXw hXs hst hcq hsq x2 x3 x5 x10 nj ti g H locs ls hm hSt (lv_sub hl [0, 1, 2, 3, 4, 6] rfl) hret hK566
      · have hm := hm.1 c_2
        refine lv_iload hx hb dL_law_498 (lv_at hl 6 rfl) ?_
        refine lv_aload_n hx hb dL_law_500 rfl (lv_at hl 1 rfl) ?_
        refine lv_iload hx hb dL_law_501 (lv_at hl 7 rfl) ?_
        have ha0 := hm.1
        have hm := hm.2
        obtain ⟨w0, ⟨hP, hD, hS⟩, hW0⟩ := hSt
        have hFc := va_freeSame hD hS hA
        refine va_calli (vx_runSW (As := [.ref (ad 0), .int x11]) (rest := [.int x10]) ⟨hx, hb, hml, hown, hts⟩ (q_L_machine l dC dI cy ad H.size w0 nj ti g x11 hW0 ha0) (vx_cwSW 2 hts gL_law_L_machine rfl rfl rfl (by decide +kernel) ⟨Nat.le_of_ble_eq_true rfl, Nat.le_of_ble_eq_true rfl⟩) ⟨cPre_blind, fun U hU hW => ⟨rfl, cPre_at hP hK hD hN hU hW⟩⟩ rfl rfl hl.1 rfl (lv_room (Nat.le_of_ble_eq_true rfl)) dL_law_503 ⟨(show cq + 0 + 0 ≤ 600130 by omega), (show sq + 0 + 0 ≤ 7301080 by omega)⟩) hS (fun q _ h => hFc q h) hFc (fun r_3 u t H locs ht hvm hw hB hz1 hk1 hS => ?_)
        obtain ⟨hr, hWu⟩ := hw
        have hm := hm r_3 hr
        have hSt : stG dC dI cy ad A s nj ti g H locs := ⟨u, ⟨cPost_P ht hB, cPost_D hFc hB, hS⟩, hWu⟩
        refine lv_aload_n hx hb dL_law_506 rfl (lv_at hl 1 rfl) ?_
        refine lv_iload hx hb dL_law_507 (lv_at hl 7 rfl) ?_
        have ha0 := hm.1
        have hm := hm.2
        obtain ⟨w0, ⟨hP, hD, hS⟩, hW0⟩ := hSt
        have hFc := va_freeSame hD hS hA
        refine va_calli (vx_runSW (As := [.ref (ad 0), .int x11]) (rest := [.int r_3, .int x10]) ⟨hx, hb, hml, hown, hts⟩ (q_L_roundedOn l dC dI cy ad H.size w0 nj ti g x11 hW0 ha0) (vx_cwSW 2 hts gL_law_L_roundedOn rfl rfl rfl (by decide +kernel) ⟨Nat.le_of_ble_eq_true rfl, Nat.le_of_ble_eq_true rfl⟩) ⟨cPre_blind, fun U hU hW => ⟨rfl, cPre_at hP hK hD hN hU hW⟩⟩ rfl rfl hl.1 rfl (lv_room (Nat.le_of_ble_eq_true rfl)) dL_law_509 ⟨(show cq + 0 + 0 ≤ 600130 by omega), (show sq + 0 + 0 ≤ 7301080 by omega)⟩) hS (fun q _ h => hFc q h) hFc (fun r_4 u t H locs ht hvm hw hB hz1 hk1 hS => ?_)
        obtain ⟨hr, hWu⟩ := hw
        have hm := hm r_4 hr
        have hSt : stG dC dI cy ad A s nj ti g H locs := ⟨u, ⟨cPost_P ht hB, cPost_D hFc hB, hS⟩, hWu⟩
        refine lv_icmp_eq (tgt := 519) hx hb dL_law_512 (by decide) (fun c_5 => ?_) (fun c_5 => ?_)
        · have hm := hm.1 c_5
          refine lv_iconst (v := 0) hx hb dL_law_519 (by decide) ?_
          refine lv_iadd hx hb dL_law_520 ?_
          refine lv_topi (fun x10_6 ex10_6 => ?_)
          have hm := hm x10_6 ex10_6
          refine lv_istore (lv' := [(10, .int x10_6), (0, .ref b), (1, .ref (ad 0)), (2, .int x2), (3, .int x3), (5, .int x5), (6, .int x6), (11, .int x11)]) hx hb dL_law_521 hl (by decide) rfl (fun ls hl => ?_)
          obtain ⟨x11_7, ex11_7⟩ : ∃ y : Int32, y = x11 + (1 : Int32) := ⟨_, rfl⟩
          have hm := hm x11_7 ex11_7
          refine lv_iinc (v := x11_7) (lv' := [(11, .int x11_7), (10, .int x10_6), (0, .ref b), (1, .ref (ad 0)), (2, .int x2), (3, .int x3), (5, .int x5), (6, .int x6)]) hx hb dL_law_523 hl (k := 7) rfl (by rw [ex11_7]; rfl) (by decide) rfl (fun ls hl => ?_)
          refine lv_goto (tgt := 484) hx hb dL_law_526 (by decide) ?_
          exact ih x2 x3 x5 x6 x10_6 x11_7 nj ti g H locs ls hm hSt (lv_sub hl [2, 3, 4, 5, 6, 7, 1, 0] rfl) hret hK566
        · have hm := hm.2 c_5
          refine lv_iconst (v := 1) hx hb dL_law_515 (by decide) ?_
          refine lv_goto (tgt := 520) hx hb dL_law_516 (by decide) ?_
          refine lv_iadd hx hb dL_law_520 ?_
          refine lv_topi (fun x10_8 ex10_8 => ?_)
          have hm := hm x10_8 ex10_8
          refine lv_istore (lv' := [(10, .int x10_8), (0, .ref b), (1, .ref (ad 0)), (2, .int x2), (3, .int x3), (5, .int x5), (6, .int x6), (11, .int x11)]) hx hb dL_law_521 hl (by decide) rfl (fun ls hl => ?_)
          obtain ⟨x11_9, ex11_9⟩ : ∃ y : Int32, y = x11 + (1 : Int32) := ⟨_, rfl⟩
          have hm := hm x11_9 ex11_9
          refine lv_iinc (v := x11_9) (lv' := [(11, .int x11_9), (10, .int x10_8), (0, .ref b), (1, .ref (ad 0)), (2, .int x2), (3, .int x3), (5, .int x5), (6, .int x6)]) hx hb dL_law_523 hl (k := 7) rfl (by rw [ex11_9]; rfl) (by decide) rfl (fun ls hl => ?_)
          refine lv_goto (tgt := 484) hx hb dL_law_526 (by decide) ?_
          exact ih x2 x3 x5 x6 x10_8 x11_9 nj ti g H locs ls hm hSt (lv_sub hl [2, 3, 4, 5, 6, 7, 1, 0] rfl) hret hK566

set_option maxHeartbeats 4000000 in
set_option maxRecDepth 100000 in
theorem k_L_law_477 {N : Nat} {Q : Int32 → Nat → (Nat → Int32) → (Nat → Nat) → Prop} {K566 : Int32 → Int32 → Nat → (Nat → Int32) → (Nat → Nat) → Prop} (C0 : cxM cL_law 12 (some .boolean) RL wsL_law p s m args meth c dC dI cy A) (hXw : xwC s) (hXs : xsC A s s.heap) (hst : l.stackTraces = false) (hcq : cq ≤ 600000) (hsq : sq ≤ 7300000) :
    ∀ (x3 : Int32) (x5 : Int32) (x6 : Int32) (s0 : Int32) (nj : Nat) (ti : Nat → Int32) (g : Nat → Nat) (H : Heap) (locs : List Loc) (ls : Array Slot) (hm : p_L_law_477 N Q K566 x3 x5 x6 s0 nj ti g) (hSt : stG dC dI cy ad A s nj ti g H locs) (hl : lv_has ls 12 [(0, .ref b), (1, .ref (ad 0)), (3, .int x3), (5, .int x5), (6, .int x6)]) (hret : ∀ (r : Int32) (nj : Nat) (ti : Nat → Int32) (g : Nat → Nat) (H : Heap) (locs : List Loc) (ls : Array Slot) (pc : Nat), decode cL_law pc = .ok (.ireturn, 1) → narrow .boolean (.int r) = .int r → stG dC dI cy ad A s nj ti g H locs → Q r nj ti g → W p l e room_1 s m args below meth c H locs (cq + 0) (sq + 0) Z (F0 m pc ls [.int r])) (hK566 : ∀ (x2 : Int32) (x3 : Int32) (nj : Nat) (ti : Nat → Int32) (g : Nat → Nat) (H : Heap) (locs : List Loc) (ls : Array Slot), K566 x2 x3 nj ti g → stG dC dI cy ad A s nj ti g H locs → lv_has ls 12 [(0, .ref b), (1, .ref (ad 0)), (2, .int x2), (3, .int x3)] → W p l e room_1 s m args below meth c H locs (cq + 3) (sq + 18) Z (F0 m 566 ls [])), W p l e room_1 s m args below meth c H locs (cq + 0) (sq + 0) Z (F0 m 477 ls [.int s0]) := by
  obtain ⟨hx, hb, hml, hr, hown, hts, hlocks, hK, hA, hN⟩ := id C0
  intro x3 x5 x6 s0 nj ti g H locs ls hm hSt hl hret hK566
  skip
  unfold p_L_law_477 at hm
  refine lv_istore_n (lv' := [(2, .int s0), (0, .ref b), (1, .ref (ad 0)), (3, .int x3), (5, .int x5), (6, .int x6)]) hx hb dL_law_477 rfl hl (by decide) rfl (fun ls hl => ?_)
  refine lv_iconst (v := 0) hx hb dL_law_478 (by decide) ?_
  refine lv_istore (lv' := [(10, .int (0 : Int32)), (2, .int s0), (0, .ref b), (1, .ref (ad 0)), (3, .int x3), (5, .int x5), (6, .int x6)]) hx hb dL_law_479 hl (by decide) rfl (fun ls hl => ?_)
  refine lv_iconst (v := 0) hx hb dL_law_481 (by decide) ?_
  refine lv_istore (lv' := [(11, .int (0 : Int32)), (10, .int (0 : Int32)), (2, .int s0), (0, .ref b), (1, .ref (ad 0)), (3, .int x3), (5, .int x5), (6, .int x6)]) hx hb dL_law_482 hl (by decide) rfl (fun ls hl => ?_)
  exact k_L_law_484 C0 hXw hXs hst hcq hsq N s0 x3 x5 x6 (0 : Int32) (0 : Int32) nj ti g H locs ls hm hSt (lv_sub hl [3, 4, 2, 5, 6, 7, 1, 0] rfl) hret hK566

set_option maxHeartbeats 4000000 in
set_option maxRecDepth 100000 in
theorem k_L_law_171 {N : Nat} {Q : Int32 → Nat → (Nat → Int32) → (Nat → Nat) → Prop} {K566 : Int32 → Int32 → Nat → (Nat → Int32) → (Nat → Nat) → Prop} (C0 : cxM cL_law 12 (some .boolean) RL wsL_law p s m args meth c dC dI cy A) (hXw : xwC s) (hXs : xsC A s s.heap) (hst : l.stackTraces = false) (hcq : cq ≤ 600000) (hsq : sq ≤ 7300000) :
    ∀ (x3 : Int32) (x6 : Int32) (x8 : Int32) (x9 : Int32) (s0 : Int32) (nj : Nat) (ti : Nat → Int32) (g : Nat → Nat) (H : Heap) (locs : List Loc) (ls : Array Slot) (hm : p_L_law_171 N Q K566 x3 x6 x8 x9 s0 nj ti g) (hSt : stG dC dI cy ad A s nj ti g H locs) (hl : lv_has ls 12 [(0, .ref b), (1, .ref (ad 0)), (3, .int x3), (6, .int x6), (8, .int x8), (9, .int x9)]) (hret : ∀ (r : Int32) (nj : Nat) (ti : Nat → Int32) (g : Nat → Nat) (H : Heap) (locs : List Loc) (ls : Array Slot) (pc : Nat), decode cL_law pc = .ok (.ireturn, 1) → narrow .boolean (.int r) = .int r → stG dC dI cy ad A s nj ti g H locs → Q r nj ti g → W p l e room_1 s m args below meth c H locs (cq + 0) (sq + 0) Z (F0 m pc ls [.int r])) (hK566 : ∀ (x2 : Int32) (x3 : Int32) (nj : Nat) (ti : Nat → Int32) (g : Nat → Nat) (H : Heap) (locs : List Loc) (ls : Array Slot), K566 x2 x3 nj ti g → stG dC dI cy ad A s nj ti g H locs → lv_has ls 12 [(0, .ref b), (1, .ref (ad 0)), (2, .int x2), (3, .int x3)] → W p l e room_1 s m args below meth c H locs (cq + 3) (sq + 18) Z (F0 m 566 ls [])), W p l e room_1 s m args below meth c H locs (cq + 0) (sq + 0) Z (F0 m 171 ls [.int s0]) := by
  obtain ⟨hx, hb, hml, hr, hown, hts, hlocks, hK, hA, hN⟩ := id C0
  intro x3 x6 x8 x9 s0 nj ti g H locs ls hm hSt hl hret hK566
  skip
  unfold p_L_law_171 at hm
  refine lv_istore (lv' := [(10, .int s0), (0, .ref b), (1, .ref (ad 0)), (3, .int x3), (6, .int x6), (8, .int x8), (9, .int x9)]) hx hb dL_law_171 hl (by decide) rfl (fun ls hl => ?_)
  refine lv_aload_n hx hb dL_law_173 rfl (lv_at hl 2 rfl) ?_
  refine lv_iload hx hb dL_law_174 (lv_at hl 5 rfl) ?_
  refine lv_iload hx hb dL_law_176 (lv_at hl 6 rfl) ?_
  refine lv_iload hx hb dL_law_178 (lv_at hl 0 rfl) ?_
  have ha0 := hm.1
  have hm := hm.2
  have ha1 := hm.1
  have hm := hm.2
  have ha2 := hm.1
  have hm := hm.2
  obtain ⟨w0, ⟨hP, hD, hS⟩, hW0⟩ := hSt
  have hFc := va_freeSame hD hS hA
  refine va_calli (vx_runSW (As := [.ref (ad 0), .int x8, .int x9, .int s0]) (rest := []) ⟨hx, hb, hml, hown, hts⟩ (q_L_addJob l dC dI cy ad H.size w0 nj ti g x8 x9 s0 hst hW0 ha0 ha1 ha2) (vx_cwSW 4 hts gL_law_L_addJob rfl rfl rfl (by decide +kernel) ⟨Nat.le_of_ble_eq_true rfl, Nat.le_of_ble_eq_true rfl⟩) ⟨cPreX_blind, fun U hU hW => ⟨rfl, cPreX_at hP hK hD hN hU hW hXw hXs hS hFc⟩⟩ rfl rfl hl.1 rfl (lv_room (Nat.le_of_ble_eq_true rfl)) dL_law_180 ⟨(show cq + 0 + 1 ≤ 600130 by omega), (show sq + 0 + 6 ≤ 7301080 by omega)⟩) hS (fun q _ h => hFc q h) hFc (fun r_1 u t H locs ht hvm hw hB hz1 hk1 hS => ?_)
  obtain ⟨nj_2, ti_3, g_4, hr, hWu⟩ := hw
  have hm := hm r_1 nj_2 ti_3 g_4 hr
  have hSt : stG dC dI cy ad A s nj_2 ti_3 g_4 H locs := ⟨u, ⟨cPost_P ht hB, cPost_D hFc hB, hS⟩, hWu⟩
  refine lv_iload hx hb dL_law_183 (lv_at hl 5 rfl) ?_
  refine lv_iload hx hb dL_law_185 (lv_at hl 6 rfl) ?_
  refine lv_iadd hx hb dL_law_187 ?_
  refine lv_iload hx hb dL_law_188 (lv_at hl 0 rfl) ?_
  refine lv_iadd hx hb dL_law_190 ?_
  refine lv_if_ne (tgt := 199) hx hb dL_law_191 (by decide) (fun c_5 => ?_) (fun c_5 => ?_)
  · have hm := hm.2 c_5
    refine lv_iload hx hb dL_law_199 (lv_at hl 4 rfl) ?_
    refine lv_bipush (v := 7) hx hb dL_law_201 (by decide) ?_
    refine lv_icmp_ge (tgt := 211) hx hb dL_law_203 (by decide) (fun c_6 => ?_) (fun c_6 => ?_)
    · have hm := hm.1 c_6
      refine lv_bipush (v := -103) hx hb dL_law_211 (by decide) ?_
      refine lv_icmp_ne (tgt := 220) hx hb dL_law_213 (by decide) (fun c_7 => ?_) (fun c_7 => ?_)
      · have hm := hm.2 c_7
        refine lv_iconst (v := 0) hx hb dL_law_220 (by decide) ?_
        refine lv_istore_n (lv' := [(2, .int (0 : Int32)), (10, .int s0), (0, .ref b), (1, .ref (ad 0)), (3, .int x3), (6, .int x6), (8, .int x8), (9, .int x9)]) hx hb dL_law_221 rfl hl (by decide) rfl (fun ls hl => ?_)
        refine lv_goto (tgt := 566) hx hb dL_law_222 (by decide) ?_
        refine W.widen (k := cq + 3) (n := sq + 18) (by omega) (by omega) ?_
        exact hK566 (0 : Int32) x3 nj_2 ti_3 g_4 H locs ls hm hSt (lv_sub hl [2, 3, 0, 4] rfl)
      · have hm := hm.1 c_7
        refine lv_iconst (v := 1) hx hb dL_law_216 (by decide) ?_
        refine lv_goto (tgt := 221) hx hb dL_law_217 (by decide) ?_
        refine lv_istore_n (lv' := [(2, .int (1 : Int32)), (10, .int s0), (0, .ref b), (1, .ref (ad 0)), (3, .int x3), (6, .int x6), (8, .int x8), (9, .int x9)]) hx hb dL_law_221 rfl hl (by decide) rfl (fun ls hl => ?_)
        refine lv_goto (tgt := 566) hx hb dL_law_222 (by decide) ?_
        refine W.widen (k := cq + 3) (n := sq + 18) (by omega) (by omega) ?_
        exact hK566 (1 : Int32) x3 nj_2 ti_3 g_4 H locs ls hm hSt (lv_sub hl [2, 3, 0, 4] rfl)
    · have hm := hm.2 c_6
      refine lv_iload hx hb dL_law_206 (lv_at hl 4 rfl) ?_
      refine lv_goto (tgt := 213) hx hb dL_law_208 (by decide) ?_
      refine lv_icmp_ne (tgt := 220) hx hb dL_law_213 (by decide) (fun c_8 => ?_) (fun c_8 => ?_)
      · have hm := hm.2 c_8
        refine lv_iconst (v := 0) hx hb dL_law_220 (by decide) ?_
        refine lv_istore_n (lv' := [(2, .int (0 : Int32)), (10, .int s0), (0, .ref b), (1, .ref (ad 0)), (3, .int x3), (6, .int x6), (8, .int x8), (9, .int x9)]) hx hb dL_law_221 rfl hl (by decide) rfl (fun ls hl => ?_)
        refine lv_goto (tgt := 566) hx hb dL_law_222 (by decide) ?_
        refine W.widen (k := cq + 3) (n := sq + 18) (by omega) (by omega) ?_
        exact hK566 (0 : Int32) x3 nj_2 ti_3 g_4 H locs ls hm hSt (lv_sub hl [2, 3, 0, 4] rfl)
      · have hm := hm.1 c_8
        refine lv_iconst (v := 1) hx hb dL_law_216 (by decide) ?_
        refine lv_goto (tgt := 221) hx hb dL_law_217 (by decide) ?_
        refine lv_istore_n (lv' := [(2, .int (1 : Int32)), (10, .int s0), (0, .ref b), (1, .ref (ad 0)), (3, .int x3), (6, .int x6), (8, .int x8), (9, .int x9)]) hx hb dL_law_221 rfl hl (by decide) rfl (fun ls hl => ?_)
        refine lv_goto (tgt := 566) hx hb dL_law_222 (by decide) ?_
        refine W.widen (k := cq + 3) (n := sq + 18) (by omega) (by omega) ?_
        exact hK566 (1 : Int32) x3 nj_2 ti_3 g_4 H locs ls hm hSt (lv_sub hl [2, 3, 0, 4] rfl)
  · have hm := hm.1 c_5
    refine lv_bipush (v := -102) hx hb dL_law_194 (by decide) ?_
    refine lv_goto (tgt := 213) hx hb dL_law_196 (by decide) ?_
    refine lv_icmp_ne (tgt := 220) hx hb dL_law_213 (by decide) (fun c_9 => ?_) (fun c_9 => ?_)
    · have hm := hm.2 c_9
      refine lv_iconst (v := 0) hx hb dL_law_220 (by decide) ?_
      refine lv_istore_n (lv' := [(2, .int (0 : Int32)), (10, .int s0), (0, .ref b), (1, .ref (ad 0)), (3, .int x3), (6, .int x6), (8, .int x8), (9, .int x9)]) hx hb dL_law_221 rfl hl (by decide) rfl (fun ls hl => ?_)
      refine lv_goto (tgt := 566) hx hb dL_law_222 (by decide) ?_
      refine W.widen (k := cq + 3) (n := sq + 18) (by omega) (by omega) ?_
      exact hK566 (0 : Int32) x3 nj_2 ti_3 g_4 H locs ls hm hSt (lv_sub hl [2, 3, 0, 4] rfl)
    · have hm := hm.1 c_9
      refine lv_iconst (v := 1) hx hb dL_law_216 (by decide) ?_
      refine lv_goto (tgt := 221) hx hb dL_law_217 (by decide) ?_
      refine lv_istore_n (lv' := [(2, .int (1 : Int32)), (10, .int s0), (0, .ref b), (1, .ref (ad 0)), (3, .int x3), (6, .int x6), (8, .int x8), (9, .int x9)]) hx hb dL_law_221 rfl hl (by decide) rfl (fun ls hl => ?_)
      refine lv_goto (tgt := 566) hx hb dL_law_222 (by decide) ?_
      refine W.widen (k := cq + 3) (n := sq + 18) (by omega) (by omega) ?_
      exact hK566 (1 : Int32) x3 nj_2 ti_3 g_4 H locs ls hm hSt (lv_sub hl [2, 3, 0, 4] rfl)

set_option maxHeartbeats 4000000 in
set_option maxRecDepth 100000 in
theorem k_L_law_421 {N : Nat} {Q : Int32 → Nat → (Nat → Int32) → (Nat → Nat) → Prop} {K566 : Int32 → Int32 → Nat → (Nat → Int32) → (Nat → Nat) → Prop} (C0 : cxM cL_law 12 (some .boolean) RL wsL_law p s m args meth c dC dI cy A) (hXw : xwC s) (hXs : xsC A s s.heap) (hst : l.stackTraces = false) (hcq : cq ≤ 600000) (hsq : sq ≤ 7300000) :
    ∀ (x3 : Int32) (x5 : Int32) (x6 : Int32) (nj : Nat) (ti : Nat → Int32) (g : Nat → Nat) (H : Heap) (locs : List Loc) (ls : Array Slot) (hm : p_L_law_421 N Q K566 x3 x5 x6 nj ti g) (hSt : stG dC dI cy ad A s nj ti g H locs) (hl : lv_has ls 12 [(0, .ref b), (1, .ref (ad 0)), (3, .int x3), (5, .int x5), (6, .int x6)]) (hret : ∀ (r : Int32) (nj : Nat) (ti : Nat → Int32) (g : Nat → Nat) (H : Heap) (locs : List Loc) (ls : Array Slot) (pc : Nat), decode cL_law pc = .ok (.ireturn, 1) → narrow .boolean (.int r) = .int r → stG dC dI cy ad A s nj ti g H locs → Q r nj ti g → W p l e room_1 s m args below meth c H locs (cq + 0) (sq + 0) Z (F0 m pc ls [.int r])) (hK566 : ∀ (x2 : Int32) (x3 : Int32) (nj : Nat) (ti : Nat → Int32) (g : Nat → Nat) (H : Heap) (locs : List Loc) (ls : Array Slot), K566 x2 x3 nj ti g → stG dC dI cy ad A s nj ti g H locs → lv_has ls 12 [(0, .ref b), (1, .ref (ad 0)), (2, .int x2), (3, .int x3)] → W p l e room_1 s m args below meth c H locs (cq + 3) (sq + 18) Z (F0 m 566 ls [])), W p l e room_1 s m args below meth c H locs (cq + 0) (sq + 0) Z (F0 m 421 ls []) := by
  obtain ⟨hx, hb, hml, hr, hown, hts, hlocks, hK, hA, hN⟩ := id C0
  intro x3 x5 x6 nj ti g H locs ls hm hSt hl hret hK566
  skip
  unfold p_L_law_421 at hm
  refine lv_aload_n hx hb dL_law_421 rfl (lv_at hl 1 rfl) ?_
  obtain ⟨w0, ⟨hP, hD, hS⟩, hW0⟩ := hSt
  have hFc := va_freeSame hD hS hA
  refine va_calli (va_runV (As := []) (rest := []) ⟨hx, hb, hml, hown, hts⟩ (q_X6_length l dC dI cy ad H.size w0 nj ti g hW0 ) (cwV 0 hts gL_law_X6_length rfl rfl rfl (by decide +kernel) ⟨Nat.le_of_ble_eq_true rfl, Nat.le_of_ble_eq_true rfl⟩) ⟨cPre_blind, va_recv hK hP (ci := 6) (q0 := 0) rfl hW0.recv.choose_spec, fun U hU hW => ⟨rfl, cPre_at hP hK hD hN hU hW⟩⟩ rfl rfl hl.1 rfl (lv_room (Nat.le_of_ble_eq_true rfl)) dL_law_422 ⟨(show cq + 0 + 0 ≤ 600130 by omega), (show sq + 0 + 0 ≤ 7301080 by omega)⟩) hS (fun q _ h => hFc q h) hFc (fun r_1 u t H locs ht hvm hw hB hz1 hk1 hS => ?_)
  obtain ⟨hr, hWu⟩ := hw
  have hm := hm r_1 hr
  have hSt : stG dC dI cy ad A s nj ti g H locs := ⟨u, ⟨cPost_P ht hB, cPost_D hFc hB, hS⟩, hWu⟩
  refine lv_istore (lv' := [(8, .int r_1), (0, .ref b), (1, .ref (ad 0)), (3, .int x3), (5, .int x5), (6, .int x6)]) hx hb dL_law_425 hl (by decide) rfl (fun ls hl => ?_)
  refine lv_aload_n hx hb dL_law_427 rfl (lv_at hl 2 rfl) ?_
  obtain ⟨w0, ⟨hP, hD, hS⟩, hW0⟩ := hSt
  have hFc := va_freeSame hD hS hA
  refine va_calli (va_runV (As := []) (rest := []) ⟨hx, hb, hml, hown, hts⟩ (q_X6_improve l dC dI cy ad H.size w0 nj ti g hW0 ) (cwV 0 hts gL_law_X6_improve rfl rfl rfl (by decide +kernel) ⟨Nat.le_of_ble_eq_true rfl, Nat.le_of_ble_eq_true rfl⟩) ⟨cPre_blind, va_recv hK hP (ci := 6) (q0 := 0) rfl hW0.recv.choose_spec, fun U hU hW => ⟨rfl, cPre_at hP hK hD hN hU hW⟩⟩ rfl rfl hl.1 rfl (lv_room (Nat.le_of_ble_eq_true rfl)) dL_law_428 ⟨(show cq + 0 + 0 ≤ 600130 by omega), (show sq + 0 + 0 ≤ 7301080 by omega)⟩) hS (fun q _ h => hFc q h) hFc (fun r_2 u t H locs ht hvm hw hB hz1 hk1 hS => ?_)
  obtain ⟨hr, hWu⟩ := hw
  obtain ⟨g_3, en⟩ : ∃ z, z = app g (swA nj (tN ti) g nj).2 := ⟨_, rfl⟩
  rw [← en] at hWu
  have hr := And.intro hr en
  have hm := hm r_2 g_3 hr
  have hSt : stG dC dI cy ad A s nj ti g_3 H locs := ⟨u, ⟨cPost_P ht hB, cPost_D hFc hB, hS⟩, hWu⟩
  refine lv_istore (lv' := [(9, .int r_2), (8, .int r_1), (0, .ref b), (1, .ref (ad 0)), (3, .int x3), (5, .int x5), (6, .int x6)]) hx hb dL_law_431 hl (by decide) rfl (fun ls hl => ?_)
  refine lv_iload hx hb dL_law_433 (lv_at hl 0 rfl) ?_
  refine lv_iconst (v := -1) hx hb dL_law_435 (by decide) ?_
  refine lv_icmp_ne (tgt := 456) hx hb dL_law_436 (by decide) (fun c_4 => ?_) (fun c_4 => ?_)
  · have hm := hm.2 c_4
    refine lv_iload hx hb dL_law_456 (lv_at hl 0 rfl) ?_
    refine lv_iload hx hb dL_law_458 (lv_at hl 1 rfl) ?_
    refine lv_icmp_gt (tgt := 476) hx hb dL_law_460 (by decide) (fun c_5 => ?_) (fun c_5 => ?_)
    · have hm := hm.1 c_5
      refine lv_iconst (v := 0) hx hb dL_law_476 (by decide) ?_
      exact k_L_law_477 C0 hXw hXs hst hcq hsq x3 x5 x6 (0 : Int32) nj ti g_3 H locs ls hm hSt (lv_sub hl [2, 3, 4, 5, 6] rfl) hret hK566
    · have hm := hm.2 c_5
      refine lv_aload_n hx hb dL_law_463 rfl (lv_at hl 3 rfl) ?_
      obtain ⟨w0, ⟨hP, hD, hS⟩, hW0⟩ := hSt
      have hFc := va_freeSame hD hS hA
      refine va_calli (va_runV (As := []) (rest := []) ⟨hx, hb, hml, hown, hts⟩ (q_X6_length l dC dI cy ad H.size w0 nj ti g_3 hW0 ) (cwV 0 hts gL_law_X6_length rfl rfl rfl (by decide +kernel) ⟨Nat.le_of_ble_eq_true rfl, Nat.le_of_ble_eq_true rfl⟩) ⟨cPre_blind, va_recv hK hP (ci := 6) (q0 := 0) rfl hW0.recv.choose_spec, fun U hU hW => ⟨rfl, cPre_at hP hK hD hN hU hW⟩⟩ rfl rfl hl.1 rfl (lv_room (Nat.le_of_ble_eq_true rfl)) dL_law_464 ⟨(show cq + 0 + 0 ≤ 600130 by omega), (show sq + 0 + 0 ≤ 7301080 by omega)⟩) hS (fun q _ h => hFc q h) hFc (fun r_6 u t H locs ht hvm hw hB hz1 hk1 hS => ?_)
      obtain ⟨hr, hWu⟩ := hw
      have hm := hm r_6 hr
      have hSt : stG dC dI cy ad A s nj ti g_3 H locs := ⟨u, ⟨cPost_P ht hB, cPost_D hFc hB, hS⟩, hWu⟩
      refine lv_iload hx hb dL_law_467 (lv_at hl 0 rfl) ?_
      refine lv_icmp_ne (tgt := 476) hx hb dL_law_469 (by decide) (fun c_7 => ?_) (fun c_7 => ?_)
      · have hm := hm.2 c_7
        refine lv_iconst (v := 0) hx hb dL_law_476 (by decide) ?_
        exact k_L_law_477 C0 hXw hXs hst hcq hsq x3 x5 x6 (0 : Int32) nj ti g_3 H locs ls hm hSt (lv_sub hl [2, 3, 4, 5, 6] rfl) hret hK566
      · have hm := hm.1 c_7
        refine lv_iconst (v := 1) hx hb dL_law_472 (by decide) ?_
        refine lv_goto (tgt := 477) hx hb dL_law_473 (by decide) ?_
        exact k_L_law_477 C0 hXw hXs hst hcq hsq x3 x5 x6 (1 : Int32) nj ti g_3 H locs ls hm hSt (lv_sub hl [2, 3, 4, 5, 6] rfl) hret hK566
  · have hm := hm.1 c_4
    refine lv_aload_n hx hb dL_law_439 rfl (lv_at hl 3 rfl) ?_
    obtain ⟨w0, ⟨hP, hD, hS⟩, hW0⟩ := hSt
    have hFc := va_freeSame hD hS hA
    refine va_calli (va_runV (As := []) (rest := []) ⟨hx, hb, hml, hown, hts⟩ (q_X6_length l dC dI cy ad H.size w0 nj ti g_3 hW0 ) (cwV 0 hts gL_law_X6_length rfl rfl rfl (by decide +kernel) ⟨Nat.le_of_ble_eq_true rfl, Nat.le_of_ble_eq_true rfl⟩) ⟨cPre_blind, va_recv hK hP (ci := 6) (q0 := 0) rfl hW0.recv.choose_spec, fun U hU hW => ⟨rfl, cPre_at hP hK hD hN hU hW⟩⟩ rfl rfl hl.1 rfl (lv_room (Nat.le_of_ble_eq_true rfl)) dL_law_440 ⟨(show cq + 0 + 0 ≤ 600130 by omega), (show sq + 0 + 0 ≤ 7301080 by omega)⟩) hS (fun q _ h => hFc q h) hFc (fun r_8 u t H locs ht hvm hw hB hz1 hk1 hS => ?_)
    obtain ⟨hr, hWu⟩ := hw
    have hm := hm r_8 hr
    have hSt : stG dC dI cy ad A s nj ti g_3 H locs := ⟨u, ⟨cPost_P ht hB, cPost_D hFc hB, hS⟩, hWu⟩
    refine lv_iload hx hb dL_law_443 (lv_at hl 1 rfl) ?_
    refine lv_icmp_ne (tgt := 452) hx hb dL_law_445 (by decide) (fun c_9 => ?_) (fun c_9 => ?_)
    · have hm := hm.2 c_9
      refine lv_iconst (v := 0) hx hb dL_law_452 (by decide) ?_
      refine lv_goto (tgt := 477) hx hb dL_law_453 (by decide) ?_
      exact k_L_law_477 C0 hXw hXs hst hcq hsq x3 x5 x6 (0 : Int32) nj ti g_3 H locs ls hm hSt (lv_sub hl [2, 3, 4, 5, 6] rfl) hret hK566
    · have hm := hm.1 c_9
      refine lv_iconst (v := 1) hx hb dL_law_448 (by decide) ?_
      refine lv_goto (tgt := 477) hx hb dL_law_449 (by decide) ?_
      exact k_L_law_477 C0 hXw hXs hst hcq hsq x3 x5 x6 (1 : Int32) nj ti g_3 H locs ls hm hSt (lv_sub hl [2, 3, 4, 5, 6] rfl) hret hK566

set_option maxHeartbeats 4000000 in
set_option maxRecDepth 100000 in
theorem k_L_law_143 {N : Nat} {Q : Int32 → Nat → (Nat → Int32) → (Nat → Nat) → Prop} {K566 : Int32 → Int32 → Nat → (Nat → Int32) → (Nat → Nat) → Prop} (C0 : cxM cL_law 12 (some .boolean) RL wsL_law p s m args meth c dC dI cy A) (hXw : xwC s) (hXs : xsC A s s.heap) (hst : l.stackTraces = false) (hcq : cq ≤ 600000) (hsq : sq ≤ 7300000) :
    ∀ (x3 : Int32) (x5 : Int32) (x6 : Int32) (x8 : Int32) (s0 : Int32) (nj : Nat) (ti : Nat → Int32) (g : Nat → Nat) (H : Heap) (locs : List Loc) (ls : Array Slot) (hm : p_L_law_143 N Q K566 x3 x5 x6 x8 s0 nj ti g) (hSt : stG dC dI cy ad A s nj ti g H locs) (hl : lv_has ls 12 [(0, .ref b), (1, .ref (ad 0)), (3, .int x3), (5, .int x5), (6, .int x6), (8, .int x8)]) (hret : ∀ (r : Int32) (nj : Nat) (ti : Nat → Int32) (g : Nat → Nat) (H : Heap) (locs : List Loc) (ls : Array Slot) (pc : Nat), decode cL_law pc = .ok (.ireturn, 1) → narrow .boolean (.int r) = .int r → stG dC dI cy ad A s nj ti g H locs → Q r nj ti g → W p l e room_1 s m args below meth c H locs (cq + 0) (sq + 0) Z (F0 m pc ls [.int r])) (hK566 : ∀ (x2 : Int32) (x3 : Int32) (nj : Nat) (ti : Nat → Int32) (g : Nat → Nat) (H : Heap) (locs : List Loc) (ls : Array Slot), K566 x2 x3 nj ti g → stG dC dI cy ad A s nj ti g H locs → lv_has ls 12 [(0, .ref b), (1, .ref (ad 0)), (2, .int x2), (3, .int x3)] → W p l e room_1 s m args below meth c H locs (cq + 3) (sq + 18) Z (F0 m 566 ls [])), W p l e room_1 s m args below meth c H locs (cq + 0) (sq + 0) Z (F0 m 143 ls [.int s0]) := by
  obtain ⟨hx, hb, hml, hr, hown, hts, hlocks, hK, hA, hN⟩ := id C0
  intro x3 x5 x6 x8 s0 nj ti g H locs ls hm hSt hl hret hK566
  skip
  unfold p_L_law_143 at hm
  refine lv_istore (lv' := [(9, .int s0), (0, .ref b), (1, .ref (ad 0)), (3, .int x3), (5, .int x5), (6, .int x6), (8, .int x8)]) hx hb dL_law_143 hl (by decide) rfl (fun ls hl => ?_)
  refine lv_iload hx hb dL_law_145 (lv_at hl 4 rfl) ?_
  refine lv_sipush (v := 640) hx hb dL_law_147 (by decide) ?_
  refine lv_idiv hx hb dL_law_150 (by decide) ?_
  refine lv_iconst (v := 3) hx hb dL_law_151 (by decide) ?_
  refine lv_irem hx hb dL_law_152 (by decide) ?_
  refine lv_if_ne (tgt := 160) hx hb dL_law_153 (by decide) (fun c_1 => ?_) (fun c_1 => ?_)
  · have hm := hm.2 c_1
    refine lv_iconst (v := 1) hx hb dL_law_160 (by decide) ?_
    refine lv_iload hx hb dL_law_161 (lv_at hl 4 rfl) ?_
    refine lv_sipush (v := 1920) hx hb dL_law_163 (by decide) ?_
    refine lv_idiv hx hb dL_law_166 (by decide) ?_
    refine lv_bipush (v := 12) hx hb dL_law_167 (by decide) ?_
    refine lv_irem hx hb dL_law_169 (by decide) ?_
    refine lv_iadd hx hb dL_law_170 ?_
    exact k_L_law_171 C0 hXw hXs hst hcq hsq x3 x6 x8 s0 ((1 : Int32) + ((x5 / (1920 : Int32)) - (x5 / (1920 : Int32)) / (12 : Int32) * (12 : Int32))) nj ti g H locs ls hm hSt (lv_sub hl [1, 2, 3, 5, 6, 0] rfl) hret hK566
  · have hm := hm.1 c_1
    refine lv_iconst (v := 0) hx hb dL_law_156 (by decide) ?_
    refine lv_goto (tgt := 171) hx hb dL_law_157 (by decide) ?_
    exact k_L_law_171 C0 hXw hXs hst hcq hsq x3 x6 x8 s0 (0 : Int32) nj ti g H locs ls hm hSt (lv_sub hl [1, 2, 3, 5, 6, 0] rfl) hret hK566

set_option maxHeartbeats 4000000 in
set_option maxRecDepth 100000 in
theorem k_L_law_313 {N : Nat} {Q : Int32 → Nat → (Nat → Int32) → (Nat → Nat) → Prop} {K566 : Int32 → Int32 → Nat → (Nat → Int32) → (Nat → Nat) → Prop} (C0 : cxM cL_law 12 (some .boolean) RL wsL_law p s m args meth c dC dI cy A) (hXw : xwC s) (hXs : xsC A s s.heap) (hst : l.stackTraces = false) (hcq : cq ≤ 600000) (hsq : sq ≤ 7300000) :
    ∀ (x3 : Int32) (x4 : Int32) (x5 : Int32) (x6 : Int32) (x7 : Int32) (nj : Nat) (ti : Nat → Int32) (g : Nat → Nat) (H : Heap) (locs : List Loc) (ls : Array Slot) (hm : p_L_law_313 N Q K566 x3 x4 x5 x6 x7 nj ti g) (hSt : stG dC dI cy ad A s nj ti g H locs) (hl : lv_has ls 12 [(0, .ref b), (1, .ref (ad 0)), (3, .int x3), (4, .int x4), (5, .int x5), (6, .int x6), (7, .int x7)]) (hret : ∀ (r : Int32) (nj : Nat) (ti : Nat → Int32) (g : Nat → Nat) (H : Heap) (locs : List Loc) (ls : Array Slot) (pc : Nat), decode cL_law pc = .ok (.ireturn, 1) → narrow .boolean (.int r) = .int r → stG dC dI cy ad A s nj ti g H locs → Q r nj ti g → W p l e room_1 s m args below meth c H locs (cq + 0) (sq + 0) Z (F0 m pc ls [.int r])) (hK566 : ∀ (x2 : Int32) (x3 : Int32) (nj : Nat) (ti : Nat → Int32) (g : Nat → Nat) (H : Heap) (locs : List Loc) (ls : Array Slot), K566 x2 x3 nj ti g → stG dC dI cy ad A s nj ti g H locs → lv_has ls 12 [(0, .ref b), (1, .ref (ad 0)), (2, .int x2), (3, .int x3)] → W p l e room_1 s m args below meth c H locs (cq + 3) (sq + 18) Z (F0 m 566 ls [])), W p l e room_1 s m args below meth c H locs (cq + 0) (sq + 0) Z (F0 m 313 ls []) := by
  obtain ⟨hx, hb, hml, hr, hown, hts, hlocks, hK, hA, hN⟩ := id C0
  intro x3 x4 x5 x6 x7 nj ti g H locs ls hm hSt hl hret hK566
  skip
  unfold p_L_law_313 at hm
  refine lv_iload hx hb dL_law_313 (lv_at hl 3 rfl) ?_
  refine lv_bipush (v := 8) hx hb dL_law_315 (by decide) ?_
  refine lv_irem hx hb dL_law_317 (by decide) ?_
  refine lv_iconst (v := 5) hx hb dL_law_318 (by decide) ?_
  refine lv_icmp_ne (tgt := 351) hx hb dL_law_319 (by decide) (fun c_1 => ?_) (fun c_1 => ?_)
  · have hm := hm.2 c_1
    refine lv_iload hx hb dL_law_351 (lv_at hl 3 rfl) ?_
    refine lv_bipush (v := 8) hx hb dL_law_353 (by decide) ?_
    refine lv_irem hx hb dL_law_355 (by decide) ?_
    refine lv_bipush (v := 6) hx hb dL_law_356 (by decide) ?_
    refine lv_icmp_ne (tgt := 421) hx hb dL_law_358 (by decide) (fun c_2 => ?_) (fun c_2 => ?_)
    · have hm := hm.2 c_2
      exact k_L_law_421 C0 hXw hXs hst hcq hsq x3 x5 x6 nj ti g H locs ls hm hSt (lv_sub hl [0, 1, 2, 4, 5] rfl) hret hK566
    · have hm := hm.1 c_2
      refine lv_iload hx hb dL_law_361 (lv_at hl 5 rfl) ?_
      refine lv_if_le (tgt := 421) hx hb dL_law_363 (by decide) (fun c_3 => ?_) (fun c_3 => ?_)
      · have hm := hm.1 c_3
        exact k_L_law_421 C0 hXw hXs hst hcq hsq x3 x5 x6 nj ti g H locs ls hm hSt (lv_sub hl [0, 1, 2, 4, 5] rfl) hret hK566
      · have hm := hm.2 c_3
        refine lv_iload hx hb dL_law_366 (lv_at hl 4 rfl) ?_
        refine lv_bipush (v := 7) hx hb dL_law_368 (by decide) ?_
        refine lv_idiv hx hb dL_law_370 (by decide) ?_
        refine lv_iconst (v := 3) hx hb dL_law_371 (by decide) ?_
        refine lv_irem hx hb dL_law_372 (by decide) ?_
        refine lv_topi (fun x8_4 ex8_4 => ?_)
        have hm := hm x8_4 ex8_4
        refine lv_istore (lv' := [(8, .int x8_4), (0, .ref b), (1, .ref (ad 0)), (3, .int x3), (4, .int x4), (5, .int x5), (6, .int x6), (7, .int x7)]) hx hb dL_law_373 hl (by decide) rfl (fun ls hl => ?_)
        refine lv_aload_n hx hb dL_law_375 rfl (lv_at hl 2 rfl) ?_
        refine lv_iload hx hb dL_law_376 (lv_at hl 7 rfl) ?_
        have ha0 := hm.1
        have hm := hm.2
        obtain ⟨w0, ⟨hP, hD, hS⟩, hW0⟩ := hSt
        have hFc := va_freeSame hD hS hA
        refine va_calli (vx_runSW (As := [.ref (ad 0), .int x7]) (rest := []) ⟨hx, hb, hml, hown, hts⟩ (q_L_machine l dC dI cy ad H.size w0 nj ti g x7 hW0 ha0) (vx_cwSW 2 hts gL_law_L_machine rfl rfl rfl (by decide +kernel) ⟨Nat.le_of_ble_eq_true rfl, Nat.le_of_ble_eq_true rfl⟩) ⟨cPre_blind, fun U hU hW => ⟨rfl, cPre_at hP hK hD hN hU hW⟩⟩ rfl rfl hl.1 rfl (lv_room (Nat.le_of_ble_eq_true rfl)) dL_law_378 ⟨(show cq + 0 + 0 ≤ 600130 by omega), (show sq + 0 + 0 ≤ 7301080 by omega)⟩) hS (fun q _ h => hFc q h) hFc (fun r_5 u t H locs ht hvm hw hB hz1 hk1 hS => ?_)
        obtain ⟨hr, hWu⟩ := hw
        have hm := hm r_5 hr
        have hSt : stG dC dI cy ad A s nj ti g H locs := ⟨u, ⟨cPost_P ht hB, cPost_D hFc hB, hS⟩, hWu⟩
        refine lv_istore (lv' := [(9, .int r_5), (8, .int x8_4), (0, .ref b), (1, .ref (ad 0)), (3, .int x3), (4, .int x4), (5, .int x5), (6, .int x6), (7, .int x7)]) hx hb dL_law_381 hl (by decide) rfl (fun ls hl => ?_)
        refine lv_aload_n hx hb dL_law_383 rfl (lv_at hl 3 rfl) ?_
        refine lv_iload hx hb dL_law_384 (lv_at hl 8 rfl) ?_
        refine lv_iload hx hb dL_law_386 (lv_at hl 1 rfl) ?_
        have ha0 := hm.1
        have hm := hm.2
        have ha1 := hm.1
        have hm := hm.2
        obtain ⟨w0, ⟨hP, hD, hS⟩, hW0⟩ := hSt
        have hFc := va_freeSame hD hS hA
        refine va_calli (vx_runSW (As := [.ref (ad 0), .int x7, .int x8_4]) (rest := []) ⟨hx, hb, hml, hown, hts⟩ (q_L_assign l dC dI cy ad H.size w0 nj ti g x7 x8_4 hst hW0 ha0 ha1) (vx_cwSW 3 hts gL_law_L_assign rfl rfl rfl (by decide +kernel) ⟨Nat.le_of_ble_eq_true rfl, Nat.le_of_ble_eq_true rfl⟩) ⟨cPreX_blind, fun U hU hW => ⟨rfl, cPreX_at hP hK hD hN hU hW hXw hXs hS hFc⟩⟩ rfl rfl hl.1 rfl (lv_room (Nat.le_of_ble_eq_true rfl)) dL_law_388 ⟨(show cq + 0 + 3 ≤ 600130 by omega), (show sq + 0 + 18 ≤ 7301080 by omega)⟩) hS (fun q _ h => hFc q h) hFc (fun r_6 u t H locs ht hvm hw hB hz1 hk1 hS => ?_)
        obtain ⟨g_7, hr, hWu⟩ := hw
        have hm := hm r_6 g_7 hr
        have hSt : stG dC dI cy ad A s nj ti g_7 H locs := ⟨u, ⟨cPost_P ht hB, cPost_D hFc hB, hS⟩, hWu⟩
        refine lv_aload_n hx hb dL_law_391 rfl (lv_at hl 3 rfl) ?_
        refine lv_iload hx hb dL_law_392 (lv_at hl 8 rfl) ?_
        refine lv_iload hx hb dL_law_394 (lv_at hl 1 rfl) ?_
        have ha0 := hm.1
        have hm := hm.2
        have ha1 := hm.1
        have hm := hm.2
        obtain ⟨w0, ⟨hP, hD, hS⟩, hW0⟩ := hSt
        have hFc := va_freeSame hD hS hA
        refine va_calli (vx_runSW (As := [.ref (ad 0), .int x7, .int x8_4]) (rest := [.int r_6]) ⟨hx, hb, hml, hown, hts⟩ (q_L_time l dC dI cy ad H.size w0 nj ti g_7 x7 x8_4 hW0 ha0 ha1) (vx_cwSW 3 hts gL_law_L_time rfl rfl rfl (by decide +kernel) ⟨Nat.le_of_ble_eq_true rfl, Nat.le_of_ble_eq_true rfl⟩) ⟨cPre_blind, fun U hU hW => ⟨rfl, cPre_at hP hK hD hN hU hW⟩⟩ rfl rfl hl.1 rfl (lv_room (Nat.le_of_ble_eq_true rfl)) dL_law_396 ⟨(show cq + 3 + 0 ≤ 600130 by omega), (show sq + 18 + 0 ≤ 7301080 by omega)⟩) hS (fun q _ h => hFc q h) hFc (fun r_8 u t H locs ht hvm hw hB hz1 hk1 hS => ?_)
        obtain ⟨hr, hWu⟩ := hw
        have hm := hm r_8 hr
        have hSt : stG dC dI cy ad A s nj ti g_7 H locs := ⟨u, ⟨cPost_P ht hB, cPost_D hFc hB, hS⟩, hWu⟩
        refine lv_if_le (tgt := 407) hx hb dL_law_399 (by decide) (fun c_9 => ?_) (fun c_9 => ?_)
        · have hm := hm.1 c_9
          refine lv_bipush (v := -103) hx hb dL_law_407 (by decide) ?_
          refine lv_icmp_ne (tgt := 416) hx hb dL_law_409 (by decide) (fun c_10 => ?_) (fun c_10 => ?_)
          · have hm := hm.2 c_10
            refine lv_iconst (v := 0) hx hb dL_law_416 (by decide) ?_
            refine lv_istore_n (lv' := [(2, .int (0 : Int32)), (9, .int r_5), (8, .int x8_4), (0, .ref b), (1, .ref (ad 0)), (3, .int x3), (4, .int x4), (5, .int x5), (6, .int x6), (7, .int x7)]) hx hb dL_law_417 rfl hl (by decide) rfl (fun ls hl => ?_)
            refine lv_goto (tgt := 566) hx hb dL_law_418 (by decide) ?_
            exact hK566 (0 : Int32) x3 nj ti g_7 H locs ls hm hSt (lv_sub hl [3, 4, 0, 5] rfl)
          · have hm := hm.1 c_10
            refine lv_iconst (v := 1) hx hb dL_law_412 (by decide) ?_
            refine lv_goto (tgt := 417) hx hb dL_law_413 (by decide) ?_
            refine lv_istore_n (lv' := [(2, .int (1 : Int32)), (9, .int r_5), (8, .int x8_4), (0, .ref b), (1, .ref (ad 0)), (3, .int x3), (4, .int x4), (5, .int x5), (6, .int x6), (7, .int x7)]) hx hb dL_law_417 rfl hl (by decide) rfl (fun ls hl => ?_)
            refine lv_goto (tgt := 566) hx hb dL_law_418 (by decide) ?_
            exact hK566 (1 : Int32) x3 nj ti g_7 H locs ls hm hSt (lv_sub hl [3, 4, 0, 5] rfl)
        · have hm := hm.2 c_9
          refine lv_iload hx hb dL_law_402 (lv_at hl 0 rfl) ?_
          refine lv_goto (tgt := 409) hx hb dL_law_404 (by decide) ?_
          refine lv_icmp_ne (tgt := 416) hx hb dL_law_409 (by decide) (fun c_11 => ?_) (fun c_11 => ?_)
          · have hm := hm.2 c_11
            refine lv_iconst (v := 0) hx hb dL_law_416 (by decide) ?_
            refine lv_istore_n (lv' := [(2, .int (0 : Int32)), (9, .int r_5), (8, .int x8_4), (0, .ref b), (1, .ref (ad 0)), (3, .int x3), (4, .int x4), (5, .int x5), (6, .int x6), (7, .int x7)]) hx hb dL_law_417 rfl hl (by decide) rfl (fun ls hl => ?_)
            refine lv_goto (tgt := 566) hx hb dL_law_418 (by decide) ?_
            exact hK566 (0 : Int32) x3 nj ti g_7 H locs ls hm hSt (lv_sub hl [3, 4, 0, 5] rfl)
          · have hm := hm.1 c_11
            refine lv_iconst (v := 1) hx hb dL_law_412 (by decide) ?_
            refine lv_goto (tgt := 417) hx hb dL_law_413 (by decide) ?_
            refine lv_istore_n (lv' := [(2, .int (1 : Int32)), (9, .int r_5), (8, .int x8_4), (0, .ref b), (1, .ref (ad 0)), (3, .int x3), (4, .int x4), (5, .int x5), (6, .int x6), (7, .int x7)]) hx hb dL_law_417 rfl hl (by decide) rfl (fun ls hl => ?_)
            refine lv_goto (tgt := 566) hx hb dL_law_418 (by decide) ?_
            exact hK566 (1 : Int32) x3 nj ti g_7 H locs ls hm hSt (lv_sub hl [3, 4, 0, 5] rfl)
  · have hm := hm.1 c_1
    refine lv_aload_n hx hb dL_law_322 rfl (lv_at hl 1 rfl) ?_
    obtain ⟨w0, ⟨hP, hD, hS⟩, hW0⟩ := hSt
    have hFc := va_freeSame hD hS hA
    refine va_calli (va_runV (As := []) (rest := []) ⟨hx, hb, hml, hown, hts⟩ (q_X6_removeLast l dC dI cy ad H.size w0 nj ti g hW0 ) (cwV 0 hts gL_law_X6_removeLast rfl rfl rfl (by decide +kernel) ⟨Nat.le_of_ble_eq_true rfl, Nat.le_of_ble_eq_true rfl⟩) ⟨cPre_blind, va_recv hK hP (ci := 6) (q0 := 0) rfl hW0.recv.choose_spec, fun U hU hW => ⟨rfl, cPre_at hP hK hD hN hU hW⟩⟩ rfl rfl hl.1 rfl (lv_room (Nat.le_of_ble_eq_true rfl)) dL_law_323 ⟨(show cq + 0 + 0 ≤ 600130 by omega), (show sq + 0 + 0 ≤ 7301080 by omega)⟩) hS (fun q _ h => hFc q h) hFc (fun r_12 u t H locs ht hvm hw hB hz1 hk1 hS => ?_)
    obtain ⟨hr, hWu⟩ := hw
    obtain ⟨nj_13, en⟩ : ∃ z, z = nj - 1 := ⟨_, rfl⟩
    rw [← en] at hWu
    have hm := hm r_12 nj_13 hr
    have hSt : stG dC dI cy ad A s nj_13 ti g H locs := ⟨u, ⟨cPost_P ht hB, cPost_D hFc hB, hS⟩, hWu⟩
    refine lv_iload hx hb dL_law_326 (lv_at hl 5 rfl) ?_
    refine lv_if_ne (tgt := 335) hx hb dL_law_328 (by decide) (fun c_14 => ?_) (fun c_14 => ?_)
    · have hm := hm.2 c_14
      refine lv_iload hx hb dL_law_335 (lv_at hl 5 rfl) ?_
      refine lv_iconst (v := 1) hx hb dL_law_337 (by decide) ?_
      refine lv_isub hx hb dL_law_338 ?_
      refine lv_icmp_ne (tgt := 346) hx hb dL_law_339 (by decide) (fun c_15 => ?_) (fun c_15 => ?_)
      · have hm := hm.2 c_15
        refine lv_iconst (v := 0) hx hb dL_law_346 (by decide) ?_
        refine lv_istore_n (lv' := [(2, .int (0 : Int32)), (0, .ref b), (1, .ref (ad 0)), (3, .int x3), (4, .int x4), (5, .int x5), (6, .int x6), (7, .int x7)]) hx hb dL_law_347 rfl hl (by decide) rfl (fun ls hl => ?_)
        refine lv_goto (tgt := 566) hx hb dL_law_348 (by decide) ?_
        refine W.widen (k := cq + 3) (n := sq + 18) (by omega) (by omega) ?_
        exact hK566 (0 : Int32) x3 nj_13 ti g H locs ls hm hSt (lv_sub hl [1, 2, 0, 3] rfl)
      · have hm := hm.1 c_15
        refine lv_iconst (v := 1) hx hb dL_law_342 (by decide) ?_
        refine lv_goto (tgt := 347) hx hb dL_law_343 (by decide) ?_
        refine lv_istore_n (lv' := [(2, .int (1 : Int32)), (0, .ref b), (1, .ref (ad 0)), (3, .int x3), (4, .int x4), (5, .int x5), (6, .int x6), (7, .int x7)]) hx hb dL_law_347 rfl hl (by decide) rfl (fun ls hl => ?_)
        refine lv_goto (tgt := 566) hx hb dL_law_348 (by decide) ?_
        refine W.widen (k := cq + 3) (n := sq + 18) (by omega) (by omega) ?_
        exact hK566 (1 : Int32) x3 nj_13 ti g H locs ls hm hSt (lv_sub hl [1, 2, 0, 3] rfl)
    · have hm := hm.1 c_14
      refine lv_iconst (v := -1) hx hb dL_law_331 (by decide) ?_
      refine lv_goto (tgt := 339) hx hb dL_law_332 (by decide) ?_
      refine lv_icmp_ne (tgt := 346) hx hb dL_law_339 (by decide) (fun c_16 => ?_) (fun c_16 => ?_)
      · have hm := hm.2 c_16
        refine lv_iconst (v := 0) hx hb dL_law_346 (by decide) ?_
        refine lv_istore_n (lv' := [(2, .int (0 : Int32)), (0, .ref b), (1, .ref (ad 0)), (3, .int x3), (4, .int x4), (5, .int x5), (6, .int x6), (7, .int x7)]) hx hb dL_law_347 rfl hl (by decide) rfl (fun ls hl => ?_)
        refine lv_goto (tgt := 566) hx hb dL_law_348 (by decide) ?_
        refine W.widen (k := cq + 3) (n := sq + 18) (by omega) (by omega) ?_
        exact hK566 (0 : Int32) x3 nj_13 ti g H locs ls hm hSt (lv_sub hl [1, 2, 0, 3] rfl)
      · have hm := hm.1 c_16
        refine lv_iconst (v := 1) hx hb dL_law_342 (by decide) ?_
        refine lv_goto (tgt := 347) hx hb dL_law_343 (by decide) ?_
        refine lv_istore_n (lv' := [(2, .int (1 : Int32)), (0, .ref b), (1, .ref (ad 0)), (3, .int x3), (4, .int x4), (5, .int x5), (6, .int x6), (7, .int x7)]) hx hb dL_law_347 rfl hl (by decide) rfl (fun ls hl => ?_)
        refine lv_goto (tgt := 566) hx hb dL_law_348 (by decide) ?_
        refine W.widen (k := cq + 3) (n := sq + 18) (by omega) (by omega) ?_
        exact hK566 (1 : Int32) x3 nj_13 ti g H locs ls hm hSt (lv_sub hl [1, 2, 0, 3] rfl)

set_option maxHeartbeats 4000000 in
set_option maxRecDepth 100000 in
theorem k_L_law_117 {N : Nat} {Q : Int32 → Nat → (Nat → Int32) → (Nat → Nat) → Prop} {K566 : Int32 → Int32 → Nat → (Nat → Int32) → (Nat → Nat) → Prop} (C0 : cxM cL_law 12 (some .boolean) RL wsL_law p s m args meth c dC dI cy A) (hXw : xwC s) (hXs : xsC A s s.heap) (hst : l.stackTraces = false) (hcq : cq ≤ 600000) (hsq : sq ≤ 7300000) :
    ∀ (x3 : Int32) (x5 : Int32) (x6 : Int32) (s0 : Int32) (nj : Nat) (ti : Nat → Int32) (g : Nat → Nat) (H : Heap) (locs : List Loc) (ls : Array Slot) (hm : p_L_law_117 N Q K566 x3 x5 x6 s0 nj ti g) (hSt : stG dC dI cy ad A s nj ti g H locs) (hl : lv_has ls 12 [(0, .ref b), (1, .ref (ad 0)), (3, .int x3), (5, .int x5), (6, .int x6)]) (hret : ∀ (r : Int32) (nj : Nat) (ti : Nat → Int32) (g : Nat → Nat) (H : Heap) (locs : List Loc) (ls : Array Slot) (pc : Nat), decode cL_law pc = .ok (.ireturn, 1) → narrow .boolean (.int r) = .int r → stG dC dI cy ad A s nj ti g H locs → Q r nj ti g → W p l e room_1 s m args below meth c H locs (cq + 0) (sq + 0) Z (F0 m pc ls [.int r])) (hK566 : ∀ (x2 : Int32) (x3 : Int32) (nj : Nat) (ti : Nat → Int32) (g : Nat → Nat) (H : Heap) (locs : List Loc) (ls : Array Slot), K566 x2 x3 nj ti g → stG dC dI cy ad A s nj ti g H locs → lv_has ls 12 [(0, .ref b), (1, .ref (ad 0)), (2, .int x2), (3, .int x3)] → W p l e room_1 s m args below meth c H locs (cq + 3) (sq + 18) Z (F0 m 566 ls [])), W p l e room_1 s m args below meth c H locs (cq + 0) (sq + 0) Z (F0 m 117 ls [.int s0]) := by
  obtain ⟨hx, hb, hml, hr, hown, hts, hlocks, hK, hA, hN⟩ := id C0
  intro x3 x5 x6 s0 nj ti g H locs ls hm hSt hl hret hK566
  skip
  unfold p_L_law_117 at hm
  refine lv_istore (lv' := [(8, .int s0), (0, .ref b), (1, .ref (ad 0)), (3, .int x3), (5, .int x5), (6, .int x6)]) hx hb dL_law_117 hl (by decide) rfl (fun ls hl => ?_)
  refine lv_iload hx hb dL_law_119 (lv_at hl 4 rfl) ?_
  refine lv_bipush (v := 16) hx hb dL_law_121 (by decide) ?_
  refine lv_idiv hx hb dL_law_123 (by decide) ?_
  refine lv_iconst (v := 4) hx hb dL_law_124 (by decide) ?_
  refine lv_irem hx hb dL_law_125 (by decide) ?_
  refine lv_if_ne (tgt := 133) hx hb dL_law_126 (by decide) (fun c_1 => ?_) (fun c_1 => ?_)
  · have hm := hm.2 c_1
    refine lv_iconst (v := 1) hx hb dL_law_133 (by decide) ?_
    refine lv_iload hx hb dL_law_134 (lv_at hl 4 rfl) ?_
    refine lv_bipush (v := 64) hx hb dL_law_136 (by decide) ?_
    refine lv_idiv hx hb dL_law_138 (by decide) ?_
    refine lv_bipush (v := 9) hx hb dL_law_139 (by decide) ?_
    refine lv_irem hx hb dL_law_141 (by decide) ?_
    refine lv_iadd hx hb dL_law_142 ?_
    exact k_L_law_143 C0 hXw hXs hst hcq hsq x3 x5 x6 s0 ((1 : Int32) + ((x5 / (64 : Int32)) - (x5 / (64 : Int32)) / (9 : Int32) * (9 : Int32))) nj ti g H locs ls hm hSt (lv_sub hl [1, 2, 3, 4, 5, 0] rfl) hret hK566
  · have hm := hm.1 c_1
    refine lv_iconst (v := 0) hx hb dL_law_129 (by decide) ?_
    refine lv_goto (tgt := 143) hx hb dL_law_130 (by decide) ?_
    exact k_L_law_143 C0 hXw hXs hst hcq hsq x3 x5 x6 s0 (0 : Int32) nj ti g H locs ls hm hSt (lv_sub hl [1, 2, 3, 4, 5, 0] rfl) hret hK566

set_option maxHeartbeats 4000000 in
set_option maxRecDepth 100000 in
theorem k_L_law_74 {N : Nat} {Q : Int32 → Nat → (Nat → Int32) → (Nat → Nat) → Prop} {K566 : Int32 → Int32 → Nat → (Nat → Int32) → (Nat → Nat) → Prop} (C0 : cxM cL_law 12 (some .boolean) RL wsL_law p s m args meth c dC dI cy A) (hXw : xwC s) (hXs : xsC A s s.heap) (hst : l.stackTraces = false) (hcq : cq ≤ 600000) (hsq : sq ≤ 7300000) :
    ∀ (x3 : Int32) (x4 : Int32) (x5 : Int32) (x6 : Int32) (s0 : Int32) (nj : Nat) (ti : Nat → Int32) (g : Nat → Nat) (H : Heap) (locs : List Loc) (ls : Array Slot) (hm : p_L_law_74 N Q K566 x3 x4 x5 x6 s0 nj ti g) (hSt : stG dC dI cy ad A s nj ti g H locs) (hl : lv_has ls 12 [(0, .ref b), (1, .ref (ad 0)), (3, .int x3), (4, .int x4), (5, .int x5), (6, .int x6)]) (hret : ∀ (r : Int32) (nj : Nat) (ti : Nat → Int32) (g : Nat → Nat) (H : Heap) (locs : List Loc) (ls : Array Slot) (pc : Nat), decode cL_law pc = .ok (.ireturn, 1) → narrow .boolean (.int r) = .int r → stG dC dI cy ad A s nj ti g H locs → Q r nj ti g → W p l e room_1 s m args below meth c H locs (cq + 0) (sq + 0) Z (F0 m pc ls [.int r])) (hK566 : ∀ (x2 : Int32) (x3 : Int32) (nj : Nat) (ti : Nat → Int32) (g : Nat → Nat) (H : Heap) (locs : List Loc) (ls : Array Slot), K566 x2 x3 nj ti g → stG dC dI cy ad A s nj ti g H locs → lv_has ls 12 [(0, .ref b), (1, .ref (ad 0)), (2, .int x2), (3, .int x3)] → W p l e room_1 s m args below meth c H locs (cq + 3) (sq + 18) Z (F0 m 566 ls [])), W p l e room_1 s m args below meth c H locs (cq + 0) (sq + 0) Z (F0 m 74 ls [.int s0]) := by
  obtain ⟨hx, hb, hml, hr, hown, hts, hlocks, hK, hA, hN⟩ := id C0
  intro x3 x4 x5 x6 s0 nj ti g H locs ls hm hSt hl hret hK566
  skip
  unfold p_L_law_74 at hm
  refine lv_istore (lv' := [(7, .int s0), (0, .ref b), (1, .ref (ad 0)), (3, .int x3), (4, .int x4), (5, .int x5), (6, .int x6)]) hx hb dL_law_74 hl (by decide) rfl (fun ls hl => ?_)
  refine lv_iload hx hb dL_law_76 (lv_at hl 4 rfl) ?_
  refine lv_bipush (v := 8) hx hb dL_law_78 (by decide) ?_
  refine lv_irem hx hb dL_law_80 (by decide) ?_
  refine lv_iconst (v := 4) hx hb dL_law_81 (by decide) ?_
  refine lv_icmp_ge (tgt := 225) hx hb dL_law_82 (by decide) (fun c_1 => ?_) (fun c_1 => ?_)
  · have hm := hm.1 c_1
    refine lv_iload hx hb dL_law_225 (lv_at hl 4 rfl) ?_
    refine lv_bipush (v := 8) hx hb dL_law_227 (by decide) ?_
    refine lv_irem hx hb dL_law_229 (by decide) ?_
    refine lv_iconst (v := 4) hx hb dL_law_230 (by decide) ?_
    refine lv_icmp_ne (tgt := 313) hx hb dL_law_231 (by decide) (fun c_2 => ?_) (fun c_2 => ?_)
    · have hm := hm.2 c_2
      exact k_L_law_313 C0 hXw hXs hst hcq hsq x3 x4 x5 x6 s0 nj ti g H locs ls hm hSt (lv_sub hl [1, 2, 3, 4, 5, 6, 0] rfl) hret hK566
    · have hm := hm.1 c_2
      refine lv_iload hx hb dL_law_234 (lv_at hl 6 rfl) ?_
      refine lv_if_le (tgt := 313) hx hb dL_law_236 (by decide) (fun c_3 => ?_) (fun c_3 => ?_)
      · have hm := hm.1 c_3
        exact k_L_law_313 C0 hXw hXs hst hcq hsq x3 x4 x5 x6 s0 nj ti g H locs ls hm hSt (lv_sub hl [1, 2, 3, 4, 5, 6, 0] rfl) hret hK566
      · have hm := hm.2 c_3
        refine lv_iload hx hb dL_law_239 (lv_at hl 5 rfl) ?_
        refine lv_bipush (v := 7) hx hb dL_law_241 (by decide) ?_
        refine lv_idiv hx hb dL_law_243 (by decide) ?_
        refine lv_iconst (v := 3) hx hb dL_law_244 (by decide) ?_
        refine lv_irem hx hb dL_law_245 (by decide) ?_
        refine lv_topi (fun x8_4 ex8_4 => ?_)
        have hm := hm x8_4 ex8_4
        refine lv_istore (lv' := [(8, .int x8_4), (7, .int s0), (0, .ref b), (1, .ref (ad 0)), (3, .int x3), (4, .int x4), (5, .int x5), (6, .int x6)]) hx hb dL_law_246 hl (by decide) rfl (fun ls hl => ?_)
        refine lv_aload_n hx hb dL_law_248 rfl (lv_at hl 3 rfl) ?_
        refine lv_iload hx hb dL_law_249 (lv_at hl 1 rfl) ?_
        refine lv_iload hx hb dL_law_251 (lv_at hl 0 rfl) ?_
        have ha0 := hm.1
        have hm := hm.2
        have ha1 := hm.1
        have hm := hm.2
        obtain ⟨w0, ⟨hP, hD, hS⟩, hW0⟩ := hSt
        have hFc := va_freeSame hD hS hA
        refine va_calli (vx_runSW (As := [.ref (ad 0), .int s0, .int x8_4]) (rest := []) ⟨hx, hb, hml, hown, hts⟩ (q_L_time l dC dI cy ad H.size w0 nj ti g s0 x8_4 hW0 ha0 ha1) (vx_cwSW 3 hts gL_law_L_time rfl rfl rfl (by decide +kernel) ⟨Nat.le_of_ble_eq_true rfl, Nat.le_of_ble_eq_true rfl⟩) ⟨cPre_blind, fun U hU hW => ⟨rfl, cPre_at hP hK hD hN hU hW⟩⟩ rfl rfl hl.1 rfl (lv_room (Nat.le_of_ble_eq_true rfl)) dL_law_253 ⟨(show cq + 0 + 0 ≤ 600130 by omega), (show sq + 0 + 0 ≤ 7301080 by omega)⟩) hS (fun q _ h => hFc q h) hFc (fun r_5 u t H locs ht hvm hw hB hz1 hk1 hS => ?_)
        obtain ⟨hr, hWu⟩ := hw
        have hm := hm r_5 hr
        have hSt : stG dC dI cy ad A s nj ti g H locs := ⟨u, ⟨cPost_P ht hB, cPost_D hFc hB, hS⟩, hWu⟩
        refine lv_istore (lv' := [(9, .int r_5), (8, .int x8_4), (7, .int s0), (0, .ref b), (1, .ref (ad 0)), (3, .int x3), (4, .int x4), (5, .int x5), (6, .int x6)]) hx hb dL_law_256 hl (by decide) rfl (fun ls hl => ?_)
        refine lv_iload hx hb dL_law_258 (lv_at hl 7 rfl) ?_
        refine lv_bipush (v := 21) hx hb dL_law_260 (by decide) ?_
        refine lv_idiv hx hb dL_law_262 (by decide) ?_
        refine lv_bipush (v := 12) hx hb dL_law_263 (by decide) ?_
        refine lv_irem hx hb dL_law_265 (by decide) ?_
        refine lv_topi (fun x10_6 ex10_6 => ?_)
        have hm := hm x10_6 ex10_6
        refine lv_istore (lv' := [(10, .int x10_6), (9, .int r_5), (8, .int x8_4), (7, .int s0), (0, .ref b), (1, .ref (ad 0)), (3, .int x3), (4, .int x4), (5, .int x5), (6, .int x6)]) hx hb dL_law_266 hl (by decide) rfl (fun ls hl => ?_)
        refine lv_aload_n hx hb dL_law_268 rfl (lv_at hl 5 rfl) ?_
        refine lv_iload hx hb dL_law_269 (lv_at hl 3 rfl) ?_
        refine lv_iload hx hb dL_law_271 (lv_at hl 2 rfl) ?_
        refine lv_iload hx hb dL_law_273 (lv_at hl 0 rfl) ?_
        have ha0 := hm.1
        have hm := hm.2
        have ha1 := hm.1
        have hm := hm.2
        have ha2 := hm.1
        have hm := hm.2
        obtain ⟨w0, ⟨hP, hD, hS⟩, hW0⟩ := hSt
        have hFc := va_freeSame hD hS hA
        refine va_calli (vx_runSW (As := [.ref (ad 0), .int s0, .int x8_4, .int x10_6]) (rest := []) ⟨hx, hb, hml, hown, hts⟩ (q_L_setTime l dC dI cy ad H.size w0 nj ti g s0 x8_4 x10_6 hst hW0 ha0 ha1 ha2) (vx_cwSW 4 hts gL_law_L_setTime rfl rfl rfl (by decide +kernel) ⟨Nat.le_of_ble_eq_true rfl, Nat.le_of_ble_eq_true rfl⟩) ⟨cPreX_blind, fun U hU hW => ⟨rfl, cPreX_at hP hK hD hN hU hW hXw hXs hS hFc⟩⟩ rfl rfl hl.1 rfl (lv_room (Nat.le_of_ble_eq_true rfl)) dL_law_275 ⟨(show cq + 0 + 3 ≤ 600130 by omega), (show sq + 0 + 18 ≤ 7301080 by omega)⟩) hS (fun q _ h => hFc q h) hFc (fun r_7 u t H locs ht hvm hw hB hz1 hk1 hS => ?_)
        obtain ⟨ti_8, hr, hWu⟩ := hw
        have hm := hm r_7 ti_8 hr
        have hSt : stG dC dI cy ad A s nj ti_8 g H locs := ⟨u, ⟨cPost_P ht hB, cPost_D hFc hB, hS⟩, hWu⟩
        refine lv_iload hx hb dL_law_278 (lv_at hl 0 rfl) ?_
        refine lv_if_ne (tgt := 299) hx hb dL_law_280 (by decide) (fun c_9 => ?_) (fun c_9 => ?_)
        · have hm := hm.2 c_9
          refine lv_iload hx hb dL_law_299 (lv_at hl 1 rfl) ?_
          refine lv_icmp_ne (tgt := 308) hx hb dL_law_301 (by decide) (fun c_10 => ?_) (fun c_10 => ?_)
          · have hm := hm.2 c_10
            refine lv_iconst (v := 0) hx hb dL_law_308 (by decide) ?_
            refine lv_istore_n (lv' := [(2, .int (0 : Int32)), (10, .int x10_6), (9, .int r_5), (8, .int x8_4), (7, .int s0), (0, .ref b), (1, .ref (ad 0)), (3, .int x3), (4, .int x4), (5, .int x5), (6, .int x6)]) hx hb dL_law_309 rfl hl (by decide) rfl (fun ls hl => ?_)
            refine lv_goto (tgt := 566) hx hb dL_law_310 (by decide) ?_
            exact hK566 (0 : Int32) x3 nj ti_8 g H locs ls hm hSt (lv_sub hl [5, 6, 0, 7] rfl)
          · have hm := hm.1 c_10
            refine lv_iconst (v := 1) hx hb dL_law_304 (by decide) ?_
            refine lv_goto (tgt := 309) hx hb dL_law_305 (by decide) ?_
            refine lv_istore_n (lv' := [(2, .int (1 : Int32)), (10, .int x10_6), (9, .int r_5), (8, .int x8_4), (7, .int s0), (0, .ref b), (1, .ref (ad 0)), (3, .int x3), (4, .int x4), (5, .int x5), (6, .int x6)]) hx hb dL_law_309 rfl hl (by decide) rfl (fun ls hl => ?_)
            refine lv_goto (tgt := 566) hx hb dL_law_310 (by decide) ?_
            exact hK566 (1 : Int32) x3 nj ti_8 g H locs ls hm hSt (lv_sub hl [5, 6, 0, 7] rfl)
        · have hm := hm.1 c_9
          refine lv_aload_n hx hb dL_law_283 rfl (lv_at hl 5 rfl) ?_
          refine lv_iload hx hb dL_law_284 (lv_at hl 3 rfl) ?_
          have ha0 := hm.1
          have hm := hm.2
          obtain ⟨w0, ⟨hP, hD, hS⟩, hW0⟩ := hSt
          have hFc := va_freeSame hD hS hA
          refine va_calli (vx_runSW (As := [.ref (ad 0), .int s0]) (rest := [.int r_7]) ⟨hx, hb, hml, hown, hts⟩ (q_L_machine l dC dI cy ad H.size w0 nj ti_8 g s0 hW0 ha0) (vx_cwSW 2 hts gL_law_L_machine rfl rfl rfl (by decide +kernel) ⟨Nat.le_of_ble_eq_true rfl, Nat.le_of_ble_eq_true rfl⟩) ⟨cPre_blind, fun U hU hW => ⟨rfl, cPre_at hP hK hD hN hU hW⟩⟩ rfl rfl hl.1 rfl (lv_room (Nat.le_of_ble_eq_true rfl)) dL_law_286 ⟨(show cq + 3 + 0 ≤ 600130 by omega), (show sq + 18 + 0 ≤ 7301080 by omega)⟩) hS (fun q _ h => hFc q h) hFc (fun r_11 u t H locs ht hvm hw hB hz1 hk1 hS => ?_)
          obtain ⟨hr, hWu⟩ := hw
          have hm := hm r_11 hr
          have hSt : stG dC dI cy ad A s nj ti_8 g H locs := ⟨u, ⟨cPost_P ht hB, cPost_D hFc hB, hS⟩, hWu⟩
          refine lv_iload hx hb dL_law_289 (lv_at hl 2 rfl) ?_
          refine lv_icmp_ne (tgt := 299) hx hb dL_law_291 (by decide) (fun c_12 => ?_) (fun c_12 => ?_)
          · have hm := hm.2 c_12
            refine lv_iload hx hb dL_law_299 (lv_at hl 1 rfl) ?_
            refine lv_icmp_ne (tgt := 308) hx hb dL_law_301 (by decide) (fun c_13 => ?_) (fun c_13 => ?_)
            · have hm := hm.2 c_13
              refine lv_iconst (v := 0) hx hb dL_law_308 (by decide) ?_
              refine lv_istore_n (lv' := [(2, .int (0 : Int32)), (10, .int x10_6), (9, .int r_5), (8, .int x8_4), (7, .int s0), (0, .ref b), (1, .ref (ad 0)), (3, .int x3), (4, .int x4), (5, .int x5), (6, .int x6)]) hx hb dL_law_309 rfl hl (by decide) rfl (fun ls hl => ?_)
              refine lv_goto (tgt := 566) hx hb dL_law_310 (by decide) ?_
              exact hK566 (0 : Int32) x3 nj ti_8 g H locs ls hm hSt (lv_sub hl [5, 6, 0, 7] rfl)
            · have hm := hm.1 c_13
              refine lv_iconst (v := 1) hx hb dL_law_304 (by decide) ?_
              refine lv_goto (tgt := 309) hx hb dL_law_305 (by decide) ?_
              refine lv_istore_n (lv' := [(2, .int (1 : Int32)), (10, .int x10_6), (9, .int r_5), (8, .int x8_4), (7, .int s0), (0, .ref b), (1, .ref (ad 0)), (3, .int x3), (4, .int x4), (5, .int x5), (6, .int x6)]) hx hb dL_law_309 rfl hl (by decide) rfl (fun ls hl => ?_)
              refine lv_goto (tgt := 566) hx hb dL_law_310 (by decide) ?_
              exact hK566 (1 : Int32) x3 nj ti_8 g H locs ls hm hSt (lv_sub hl [5, 6, 0, 7] rfl)
          · have hm := hm.1 c_12
            refine lv_bipush (v := -103) hx hb dL_law_294 (by decide) ?_
            refine lv_goto (tgt := 301) hx hb dL_law_296 (by decide) ?_
            refine lv_icmp_ne (tgt := 308) hx hb dL_law_301 (by decide) (fun c_14 => ?_) (fun c_14 => ?_)
            · have hm := hm.2 c_14
              refine lv_iconst (v := 0) hx hb dL_law_308 (by decide) ?_
              refine lv_istore_n (lv' := [(2, .int (0 : Int32)), (10, .int x10_6), (9, .int r_5), (8, .int x8_4), (7, .int s0), (0, .ref b), (1, .ref (ad 0)), (3, .int x3), (4, .int x4), (5, .int x5), (6, .int x6)]) hx hb dL_law_309 rfl hl (by decide) rfl (fun ls hl => ?_)
              refine lv_goto (tgt := 566) hx hb dL_law_310 (by decide) ?_
              exact hK566 (0 : Int32) x3 nj ti_8 g H locs ls hm hSt (lv_sub hl [5, 6, 0, 7] rfl)
            · have hm := hm.1 c_14
              refine lv_iconst (v := 1) hx hb dL_law_304 (by decide) ?_
              refine lv_goto (tgt := 309) hx hb dL_law_305 (by decide) ?_
              refine lv_istore_n (lv' := [(2, .int (1 : Int32)), (10, .int x10_6), (9, .int r_5), (8, .int x8_4), (7, .int s0), (0, .ref b), (1, .ref (ad 0)), (3, .int x3), (4, .int x4), (5, .int x5), (6, .int x6)]) hx hb dL_law_309 rfl hl (by decide) rfl (fun ls hl => ?_)
              refine lv_goto (tgt := 566) hx hb dL_law_310 (by decide) ?_
              exact hK566 (1 : Int32) x3 nj ti_8 g H locs ls hm hSt (lv_sub hl [5, 6, 0, 7] rfl)
  · have hm := hm.2 c_1
    refine lv_iload hx hb dL_law_85 (lv_at hl 5 rfl) ?_
    refine lv_iconst (v := 4) hx hb dL_law_87 (by decide) ?_
    refine lv_irem hx hb dL_law_88 (by decide) ?_
    refine lv_if_ne (tgt := 96) hx hb dL_law_89 (by decide) (fun c_15 => ?_) (fun c_15 => ?_)
    · have hm := hm.2 c_15
      refine lv_iconst (v := 1) hx hb dL_law_96 (by decide) ?_
      refine lv_iload hx hb dL_law_97 (lv_at hl 5 rfl) ?_
      refine lv_iconst (v := 4) hx hb dL_law_99 (by decide) ?_
      refine lv_idiv hx hb dL_law_100 (by decide) ?_
      refine lv_iload hx hb dL_law_101 (lv_at hl 5 rfl) ?_
      refine lv_iconst (v := 3) hx hb dL_law_103 (by decide) ?_
      refine lv_irem hx hb dL_law_104 (by decide) ?_
      refine lv_if_ne (tgt := 113) hx hb dL_law_105 (by decide) (fun c_16 => ?_) (fun c_16 => ?_)
      · have hm := hm.2 c_16
        refine lv_bipush (v := 9) hx hb dL_law_113 (by decide) ?_
        refine lv_irem hx hb dL_law_115 (by decide) ?_
        refine lv_iadd hx hb dL_law_116 ?_
        exact k_L_law_117 C0 hXw hXs hst hcq hsq x3 x5 x6 ((1 : Int32) + ((x5 / (4 : Int32)) - (x5 / (4 : Int32)) / (9 : Int32) * (9 : Int32))) nj ti g H locs ls hm hSt (lv_sub hl [1, 2, 3, 5, 6] rfl) hret hK566
      · have hm := hm.1 c_16
        refine lv_bipush (v := 50) hx hb dL_law_108 (by decide) ?_
        refine lv_goto (tgt := 115) hx hb dL_law_110 (by decide) ?_
        refine lv_irem hx hb dL_law_115 (by decide) ?_
        refine lv_iadd hx hb dL_law_116 ?_
        exact k_L_law_117 C0 hXw hXs hst hcq hsq x3 x5 x6 ((1 : Int32) + ((x5 / (4 : Int32)) - (x5 / (4 : Int32)) / (50 : Int32) * (50 : Int32))) nj ti g H locs ls hm hSt (lv_sub hl [1, 2, 3, 5, 6] rfl) hret hK566
    · have hm := hm.1 c_15
      refine lv_iconst (v := 0) hx hb dL_law_92 (by decide) ?_
      refine lv_goto (tgt := 117) hx hb dL_law_93 (by decide) ?_
      exact k_L_law_117 C0 hXw hXs hst hcq hsq x3 x5 x6 (0 : Int32) nj ti g H locs ls hm hSt (lv_sub hl [1, 2, 3, 5, 6] rfl) hret hK566

set_option maxHeartbeats 4000000 in
set_option maxRecDepth 100000 in
theorem k_L_law_45 {N : Nat} {Q : Int32 → Nat → (Nat → Int32) → (Nat → Nat) → Prop} {K566 : Int32 → Int32 → Nat → (Nat → Int32) → (Nat → Nat) → Prop} (C0 : cxM cL_law 12 (some .boolean) RL wsL_law p s m args meth c dC dI cy A) (hXw : xwC s) (hXs : xsC A s s.heap) (hst : l.stackTraces = false) (hcq : cq ≤ 600000) (hsq : sq ≤ 7300000) :
    ∀ (x3 : Int32) (s0 : Int32) (nj : Nat) (ti : Nat → Int32) (g : Nat → Nat) (H : Heap) (locs : List Loc) (ls : Array Slot) (hm : p_L_law_45 N Q K566 x3 s0 nj ti g) (hSt : stG dC dI cy ad A s nj ti g H locs) (hl : lv_has ls 12 [(0, .ref b), (1, .ref (ad 0)), (3, .int x3)]) (hret : ∀ (r : Int32) (nj : Nat) (ti : Nat → Int32) (g : Nat → Nat) (H : Heap) (locs : List Loc) (ls : Array Slot) (pc : Nat), decode cL_law pc = .ok (.ireturn, 1) → narrow .boolean (.int r) = .int r → stG dC dI cy ad A s nj ti g H locs → Q r nj ti g → W p l e room_1 s m args below meth c H locs (cq + 0) (sq + 0) Z (F0 m pc ls [.int r])) (hK566 : ∀ (x2 : Int32) (x3 : Int32) (nj : Nat) (ti : Nat → Int32) (g : Nat → Nat) (H : Heap) (locs : List Loc) (ls : Array Slot), K566 x2 x3 nj ti g → stG dC dI cy ad A s nj ti g H locs → lv_has ls 12 [(0, .ref b), (1, .ref (ad 0)), (2, .int x2), (3, .int x3)] → W p l e room_1 s m args below meth c H locs (cq + 3) (sq + 18) Z (F0 m 566 ls [])), W p l e room_1 s m args below meth c H locs (cq + 0) (sq + 0) Z (F0 m 45 ls [.int s0]) := by
  obtain ⟨hx, hb, hml, hr, hown, hts, hlocks, hK, hA, hN⟩ := id C0
  intro x3 s0 nj ti g H locs ls hm hSt hl hret hK566
  skip
  unfold p_L_law_45 at hm
  refine lv_istore (lv' := [(4, .int s0), (0, .ref b), (1, .ref (ad 0)), (3, .int x3)]) hx hb dL_law_45 hl (by decide) rfl (fun ls hl => ?_)
  refine lv_iload hx hb dL_law_47 (lv_at hl 0 rfl) ?_
  refine lv_bipush (v := 8) hx hb dL_law_49 (by decide) ?_
  refine lv_idiv hx hb dL_law_51 (by decide) ?_
  refine lv_topi (fun x5_1 ex5_1 => ?_)
  have hm := hm x5_1 ex5_1
  refine lv_istore (lv' := [(5, .int x5_1), (4, .int s0), (0, .ref b), (1, .ref (ad 0)), (3, .int x3)]) hx hb dL_law_52 hl (by decide) rfl (fun ls hl => ?_)
  refine lv_aload_n hx hb dL_law_54 rfl (lv_at hl 3 rfl) ?_
  obtain ⟨w0, ⟨hP, hD, hS⟩, hW0⟩ := hSt
  have hFc := va_freeSame hD hS hA
  refine va_calli (va_runV (As := []) (rest := []) ⟨hx, hb, hml, hown, hts⟩ (q_X6_jobs l dC dI cy ad H.size w0 nj ti g hW0 ) (cwV 0 hts gL_law_X6_jobs rfl rfl rfl (by decide +kernel) ⟨Nat.le_of_ble_eq_true rfl, Nat.le_of_ble_eq_true rfl⟩) ⟨cPre_blind, va_recv hK hP (ci := 6) (q0 := 0) rfl hW0.recv.choose_spec, fun U hU hW => ⟨rfl, cPre_at hP hK hD hN hU hW⟩⟩ rfl rfl hl.1 rfl (lv_room (Nat.le_of_ble_eq_true rfl)) dL_law_55 ⟨(show cq + 0 + 0 ≤ 600130 by omega), (show sq + 0 + 0 ≤ 7301080 by omega)⟩) hS (fun q _ h => hFc q h) hFc (fun r_2 u t H locs ht hvm hw hB hz1 hk1 hS => ?_)
  obtain ⟨hr, hWu⟩ := hw
  have hm := hm r_2 hr
  have hSt : stG dC dI cy ad A s nj ti g H locs := ⟨u, ⟨cPost_P ht hB, cPost_D hFc hB, hS⟩, hWu⟩
  refine lv_istore (lv' := [(6, .int r_2), (5, .int x5_1), (4, .int s0), (0, .ref b), (1, .ref (ad 0)), (3, .int x3)]) hx hb dL_law_58 hl (by decide) rfl (fun ls hl => ?_)
  refine lv_iload hx hb dL_law_60 (lv_at hl 0 rfl) ?_
  refine lv_if_ne (tgt := 69) hx hb dL_law_62 (by decide) (fun c_3 => ?_) (fun c_3 => ?_)
  · have hm := hm.2 c_3
    refine lv_iload hx hb dL_law_69 (lv_at hl 1 rfl) ?_
    refine lv_iload hx hb dL_law_71 (lv_at hl 0 rfl) ?_
    have hz_4 := hm.1
    have hm := hm.2
    refine lv_irem hx hb dL_law_73 hz_4 ?_
    exact k_L_law_74 C0 hXw hXs hst hcq hsq x3 s0 x5_1 r_2 (x5_1 - x5_1 / r_2 * r_2) nj ti g H locs ls hm hSt (lv_sub hl [3, 4, 5, 2, 1, 0] rfl) hret hK566
  · have hm := hm.1 c_3
    refine lv_iconst (v := 0) hx hb dL_law_65 (by decide) ?_
    refine lv_goto (tgt := 74) hx hb dL_law_66 (by decide) ?_
    exact k_L_law_74 C0 hXw hXs hst hcq hsq x3 s0 x5_1 r_2 (0 : Int32) nj ti g H locs ls hm hSt (lv_sub hl [3, 4, 5, 2, 1, 0] rfl) hret hK566

