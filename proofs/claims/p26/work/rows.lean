section
-- ===== PART A: goes FIRST, ahead of the names: the tables' words, and 'selects' of the private methods out of them =====
/-- a private method of a class that the tables say can be made, by its rows of tables_1 -/
def lw_okq (q : MethodName × Nat) : Prop := (q.1.cls ≠ "java/lang/invoke/MethodHandle" ∧ q.1.cls ≠ "java/lang/invoke/VarHandle") ∧ Cond.instantiable q.1.cls q.2 ∈ tables_1 ∧ Cond.privateMethod q.1 ∈ tables_1 ∧ Cond.instanceMethod q.1 ∈ tables_1
theorem lw_p0 : lw_okq (⟨"UnlikeUnion", "forgetResults", "()V"⟩, 7) := ⟨⟨by decide +kernel, by decide +kernel⟩, List.mem_of_getElem? (i := 16) (by decide +kernel), List.mem_of_getElem? (i := 183) (by decide +kernel), List.mem_of_getElem? (i := 184) (by decide +kernel)⟩
theorem lw_p1 : lw_okq (⟨"UnlikeUnion", "refreshDivision", "()V"⟩, 7) := ⟨⟨by decide +kernel, by decide +kernel⟩, List.mem_of_getElem? (i := 16) (by decide +kernel), List.mem_of_getElem? (i := 195) (by decide +kernel), List.mem_of_getElem? (i := 196) (by decide +kernel)⟩
theorem lw_p2 : lw_okq (⟨"UnlikeUnion$Division", "findLeast", "(LUnlikeUnion$Jobs;)V"⟩, 6) := ⟨⟨by decide +kernel, by decide +kernel⟩, List.mem_of_getElem? (i := 89) (by decide +kernel), List.mem_of_getElem? (i := 203) (by decide +kernel), List.mem_of_getElem? (i := 204) (by decide +kernel)⟩
theorem lw_p3 : lw_okq (⟨"UnlikeUnion$Tableau", "clear", "(I)V"⟩, 5) := ⟨⟨by decide +kernel, by decide +kernel⟩, List.mem_of_getElem? (i := 95) (by decide +kernel), List.mem_of_getElem? (i := 211) (by decide +kernel), List.mem_of_getElem? (i := 212) (by decide +kernel)⟩
theorem lw_p4 : lw_okq (⟨"UnlikeUnion$Tableau", "layJob", "(LUnlikeUnion$Jobs;II)Z"⟩, 5) := ⟨⟨by decide +kernel, by decide +kernel⟩, List.mem_of_getElem? (i := 95) (by decide +kernel), List.mem_of_getElem? (i := 219) (by decide +kernel), List.mem_of_getElem? (i := 220) (by decide +kernel)⟩
theorem lw_p5 : lw_okq (⟨"UnlikeUnion$Tableau", "clearBasic", "(I)Z"⟩, 5) := ⟨⟨by decide +kernel, by decide +kernel⟩, List.mem_of_getElem? (i := 95) (by decide +kernel), List.mem_of_getElem? (i := 227) (by decide +kernel), List.mem_of_getElem? (i := 228) (by decide +kernel)⟩
theorem lw_p6 : lw_okq (⟨"UnlikeUnion$Tableau", "admitExcess", "()V"⟩, 5) := ⟨⟨by decide +kernel, by decide +kernel⟩, List.mem_of_getElem? (i := 95) (by decide +kernel), List.mem_of_getElem? (i := 231) (by decide +kernel), List.mem_of_getElem? (i := 232) (by decide +kernel)⟩
theorem lw_p7 : lw_okq (⟨"UnlikeUnion$Tableau", "rowOf", "(I)I"⟩, 5) := ⟨⟨by decide +kernel, by decide +kernel⟩, List.mem_of_getElem? (i := 95) (by decide +kernel), List.mem_of_getElem? (i := 240) (by decide +kernel), List.mem_of_getElem? (i := 241) (by decide +kernel)⟩
theorem lw_p8 : lw_okq (⟨"UnlikeUnion$Tableau", "columnWithSign", "(II)I"⟩, 5) := ⟨⟨by decide +kernel, by decide +kernel⟩, List.mem_of_getElem? (i := 95) (by decide +kernel), List.mem_of_getElem? (i := 244) (by decide +kernel), List.mem_of_getElem? (i := 245) (by decide +kernel)⟩
theorem lw_p9 : lw_okq (⟨"UnlikeUnion$Tableau", "enter", "(I)Z"⟩, 5) := ⟨⟨by decide +kernel, by decide +kernel⟩, List.mem_of_getElem? (i := 95) (by decide +kernel), List.mem_of_getElem? (i := 248) (by decide +kernel), List.mem_of_getElem? (i := 249) (by decide +kernel)⟩
theorem lw_p10 : lw_okq (⟨"UnlikeUnion$Tableau", "leavingRow", "(I)I"⟩, 5) := ⟨⟨by decide +kernel, by decide +kernel⟩, List.mem_of_getElem? (i := 95) (by decide +kernel), List.mem_of_getElem? (i := 252) (by decide +kernel), List.mem_of_getElem? (i := 253) (by decide +kernel)⟩
theorem lw_p11 : lw_okq (⟨"UnlikeUnion$Division", "canKeep", "(LUnlikeUnion$Jobs;I)Z"⟩, 6) := ⟨⟨by decide +kernel, by decide +kernel⟩, List.mem_of_getElem? (i := 89) (by decide +kernel), List.mem_of_getElem? (i := 263) (by decide +kernel), List.mem_of_getElem? (i := 264) (by decide +kernel)⟩
theorem lw_p12 : lw_okq (⟨"UnlikeUnion$Division", "findShares", "(LUnlikeUnion$Jobs;)V"⟩, 6) := ⟨⟨by decide +kernel, by decide +kernel⟩, List.mem_of_getElem? (i := 89) (by decide +kernel), List.mem_of_getElem? (i := 267) (by decide +kernel), List.mem_of_getElem? (i := 268) (by decide +kernel)⟩
theorem lw_p13 : lw_okq (⟨"UnlikeUnion$Tableau", "hold", "(I)V"⟩, 5) := ⟨⟨by decide +kernel, by decide +kernel⟩, List.mem_of_getElem? (i := 95) (by decide +kernel), List.mem_of_getElem? (i := 276) (by decide +kernel), List.mem_of_getElem? (i := 277) (by decide +kernel)⟩
theorem lw_p14 : lw_okq (⟨"UnlikeUnion$OwnPlan", "rank", "(LUnlikeUnion$Jobs;)I"⟩, 5) := ⟨⟨by decide +kernel, by decide +kernel⟩, List.mem_of_getElem? (i := 45) (by decide +kernel), List.mem_of_getElem? (i := 320) (by decide +kernel), List.mem_of_getElem? (i := 321) (by decide +kernel)⟩
theorem lw_p15 : lw_okq (⟨"UnlikeUnion$OwnPlan", "meetMoves", "(LUnlikeUnion$Jobs;I)V"⟩, 5) := ⟨⟨by decide +kernel, by decide +kernel⟩, List.mem_of_getElem? (i := 45) (by decide +kernel), List.mem_of_getElem? (i := 327) (by decide +kernel), List.mem_of_getElem? (i := 328) (by decide +kernel)⟩
def lw_privs_1 : List (MethodName × Nat) := [(⟨"UnlikeUnion", "forgetResults", "()V"⟩, 7), (⟨"UnlikeUnion", "refreshDivision", "()V"⟩, 7), (⟨"UnlikeUnion$Division", "findLeast", "(LUnlikeUnion$Jobs;)V"⟩, 6), (⟨"UnlikeUnion$Tableau", "clear", "(I)V"⟩, 5), (⟨"UnlikeUnion$Tableau", "layJob", "(LUnlikeUnion$Jobs;II)Z"⟩, 5), (⟨"UnlikeUnion$Tableau", "clearBasic", "(I)Z"⟩, 5), (⟨"UnlikeUnion$Tableau", "admitExcess", "()V"⟩, 5), (⟨"UnlikeUnion$Tableau", "rowOf", "(I)I"⟩, 5), (⟨"UnlikeUnion$Tableau", "columnWithSign", "(II)I"⟩, 5), (⟨"UnlikeUnion$Tableau", "enter", "(I)Z"⟩, 5), (⟨"UnlikeUnion$Tableau", "leavingRow", "(I)I"⟩, 5), (⟨"UnlikeUnion$Division", "canKeep", "(LUnlikeUnion$Jobs;I)Z"⟩, 6), (⟨"UnlikeUnion$Division", "findShares", "(LUnlikeUnion$Jobs;)V"⟩, 6), (⟨"UnlikeUnion$Tableau", "hold", "(I)V"⟩, 5), (⟨"UnlikeUnion$OwnPlan", "rank", "(LUnlikeUnion$Jobs;)I"⟩, 5), (⟨"UnlikeUnion$OwnPlan", "meetMoves", "(LUnlikeUnion$Jobs;I)V"⟩, 5)]
theorem lw_r1 : ∀ q ∈ lw_privs_1, lw_okq q := List.forall_mem_cons.mpr ⟨lw_p0, List.forall_mem_cons.mpr ⟨lw_p1, List.forall_mem_cons.mpr ⟨lw_p2, List.forall_mem_cons.mpr ⟨lw_p3, List.forall_mem_cons.mpr ⟨lw_p4, List.forall_mem_cons.mpr ⟨lw_p5, List.forall_mem_cons.mpr ⟨lw_p6, List.forall_mem_cons.mpr ⟨lw_p7, List.forall_mem_cons.mpr ⟨lw_p8, List.forall_mem_cons.mpr ⟨lw_p9, List.forall_mem_cons.mpr ⟨lw_p10, List.forall_mem_cons.mpr ⟨lw_p11, List.forall_mem_cons.mpr ⟨lw_p12, List.forall_mem_cons.mpr ⟨lw_p13, List.forall_mem_cons.mpr ⟨lw_p14, List.forall_mem_cons.mpr ⟨lw_p15, fun _ h => absurd h List.not_mem_nil⟩⟩⟩⟩⟩⟩⟩⟩⟩⟩⟩⟩⟩⟩⟩⟩
theorem lw_p16 : lw_okq (⟨"UnlikeUnion$OwnPlan", "meet", "(IIII)V"⟩, 5) := ⟨⟨by decide +kernel, by decide +kernel⟩, List.mem_of_getElem? (i := 45) (by decide +kernel), List.mem_of_getElem? (i := 332) (by decide +kernel), List.mem_of_getElem? (i := 333) (by decide +kernel)⟩
theorem lw_p17 : lw_okq (⟨"UnlikeUnion$OwnPlan", "meetSwaps", "(LUnlikeUnion$Jobs;I)V"⟩, 5) := ⟨⟨by decide +kernel, by decide +kernel⟩, List.mem_of_getElem? (i := 45) (by decide +kernel), List.mem_of_getElem? (i := 336) (by decide +kernel), List.mem_of_getElem? (i := 337) (by decide +kernel)⟩
theorem lw_p18 : lw_okq (⟨"UnlikeUnion$OwnPlan", "swap", "(II)V"⟩, 5) := ⟨⟨by decide +kernel, by decide +kernel⟩, List.mem_of_getElem? (i := 45) (by decide +kernel), List.mem_of_getElem? (i := 340) (by decide +kernel), List.mem_of_getElem? (i := 341) (by decide +kernel)⟩
theorem lw_p19 : lw_okq (⟨"java/lang/Throwable", "fillInStackTrace", "(I)Ljava/lang/Throwable;"⟩, 6) := ⟨⟨by decide +kernel, by decide +kernel⟩, List.mem_of_getElem? (i := 403) (by decide +kernel), List.mem_of_getElem? (i := 401) (by decide +kernel), List.mem_of_getElem? (i := 402) (by decide +kernel)⟩
theorem lw_p20 : lw_okq (⟨"UnlikeUnion", "requireJob", "(I)V"⟩, 7) := ⟨⟨by decide +kernel, by decide +kernel⟩, List.mem_of_getElem? (i := 16) (by decide +kernel), List.mem_of_getElem? (i := 458) (by decide +kernel), List.mem_of_getElem? (i := 459) (by decide +kernel)⟩
theorem lw_p21 : lw_okq (⟨"UnlikeUnion", "refreshSearch", "()V"⟩, 7) := ⟨⟨by decide +kernel, by decide +kernel⟩, List.mem_of_getElem? (i := 16) (by decide +kernel), List.mem_of_getElem? (i := 564) (by decide +kernel), List.mem_of_getElem? (i := 565) (by decide +kernel)⟩
theorem lw_p22 : lw_okq (⟨"UnlikeUnion$PlanSearch", "clearLoads", "()V"⟩, 4) := ⟨⟨by decide +kernel, by decide +kernel⟩, List.mem_of_getElem? (i := 68) (by decide +kernel), List.mem_of_getElem? (i := 572) (by decide +kernel), List.mem_of_getElem? (i := 573) (by decide +kernel)⟩
theorem lw_p23 : lw_okq (⟨"UnlikeUnion$PlanSearch", "greatest", "()I"⟩, 4) := ⟨⟨by decide +kernel, by decide +kernel⟩, List.mem_of_getElem? (i := 68) (by decide +kernel), List.mem_of_getElem? (i := 579) (by decide +kernel), List.mem_of_getElem? (i := 580) (by decide +kernel)⟩
theorem lw_p24 : lw_okq (⟨"UnlikeUnion$PlanSearch", "keep", "(I)V"⟩, 4) := ⟨⟨by decide +kernel, by decide +kernel⟩, List.mem_of_getElem? (i := 68) (by decide +kernel), List.mem_of_getElem? (i := 584) (by decide +kernel), List.mem_of_getElem? (i := 585) (by decide +kernel)⟩
def lw_privs_2 : List (MethodName × Nat) := [(⟨"UnlikeUnion$OwnPlan", "meet", "(IIII)V"⟩, 5), (⟨"UnlikeUnion$OwnPlan", "meetSwaps", "(LUnlikeUnion$Jobs;I)V"⟩, 5), (⟨"UnlikeUnion$OwnPlan", "swap", "(II)V"⟩, 5), (⟨"java/lang/Throwable", "fillInStackTrace", "(I)Ljava/lang/Throwable;"⟩, 6), (⟨"UnlikeUnion", "requireJob", "(I)V"⟩, 7), (⟨"UnlikeUnion", "refreshSearch", "()V"⟩, 7), (⟨"UnlikeUnion$PlanSearch", "clearLoads", "()V"⟩, 4), (⟨"UnlikeUnion$PlanSearch", "greatest", "()I"⟩, 4), (⟨"UnlikeUnion$PlanSearch", "keep", "(I)V"⟩, 4)]
theorem lw_r2 : ∀ q ∈ lw_privs_2, lw_okq q := List.forall_mem_cons.mpr ⟨lw_p16, List.forall_mem_cons.mpr ⟨lw_p17, List.forall_mem_cons.mpr ⟨lw_p18, List.forall_mem_cons.mpr ⟨lw_p19, List.forall_mem_cons.mpr ⟨lw_p20, List.forall_mem_cons.mpr ⟨lw_p21, List.forall_mem_cons.mpr ⟨lw_p22, List.forall_mem_cons.mpr ⟨lw_p23, List.forall_mem_cons.mpr ⟨lw_p24, fun _ h => absurd h List.not_mem_nil⟩⟩⟩⟩⟩⟩⟩⟩⟩
def lw_privs : List (MethodName × Nat) := lw_privs_1 ++ (lw_privs_2)
def lw_tbl : List Cond := k2_sels lw_privs ++ tables_1
theorem lw_privs_ok : ∀ q ∈ lw_privs, lw_okq q := by
  show ∀ q ∈ lw_privs_1 ++ (lw_privs_2), lw_okq q
  exact List.forall_mem_append.mpr ⟨lw_r1, lw_r2⟩
/-- the streams that the claim lets the run draw from -/
abbrev lw_cs : List Choice := [Jvm.Choice.named "NaN.bits"]
theorem lw_bits : nanBits ∈ lw_cs := by first | decide | exact List.mem_cons_self | simp [lw_cs, nanBits]
-- ===== end of PART A; then your names; then what follows =====
/-! ===== BEGIN words of one list among another's, by their places ===== -/
theorem goodIn_r {big : List Cond} (ws : List Cond) (ps : List Nat) (hp : ws = ps.filterMap (fun i => big[i]?)) (h : ws.all goodWord = true) : GoodIn big ws := by
  intro w hw
  have h1 := List.all_eq_true.mp h w hw
  rw [hp] at hw
  obtain ⟨i, -, hi⟩ := List.mem_filterMap.mp hw
  have hm : w ∈ big := by first | exact List.mem_of_getElem? hi | exact List.getElem?_mem hi
  exact ⟨hm, good_of_word h1⟩
theorem goodIn_app {big a b : List Cond} (ha : GoodIn big a) (hb : GoodIn big b) : GoodIn big (a ++ b) := fun w h => (List.mem_append.mp h).elim (ha w) (hb w)
theorem goodIn_ca {big a b : List Cond} {c : Cond} (ha : GoodIn big (c :: a)) (hb : GoodIn big b) : GoodIn big (c :: (a ++ b)) := fun w h => (List.mem_cons.mp h).elim (fun e => ha w (List.mem_cons.mpr (Or.inl e))) (fun h => (List.mem_append.mp h).elim (fun h => ha w (List.mem_cons.mpr (Or.inr h))) (hb w))
theorem goodIn_sub {big ws : List Cond} (hm : ∀ w ∈ ws, w ∈ big) (h : ws.all goodWord = true) : GoodIn big ws := fun w hw => ⟨hm w hw, good_of_word (List.all_eq_true.mp h w hw)⟩
/-! ===== END ===== -/

/-- what the tables say of arrays of arrays of a type, whatever the call's arguments -/
def va_AOA (ty : FieldType) (s : State) : Prop := ∀ args : Array Value, (Jvm.Cond.arrayOver (.array ty)).before args s = true
theorem va_AOA.use {ty : FieldType} {s : State} {args : Array Value} (h : va_AOA ty s) : (Jvm.Cond.arrayOver (.array ty)).before args s = true := h args

/-! ===== BEGIN new T[n][m]: the outer array a place, the inner ones among the pooled ===== -/
/-- f, but v at every address of l -/
def vr_up {α : Type} (f : Nat → α) (l : List Nat) (v : α) : Nat → α := fun a => if a ∈ l then v else f a
theorem vr_up_in {α : Type} {f : Nat → α} {l : List Nat} {v : α} {a : Nat} (h : a ∈ l) : vr_up f l v a = v := if_pos h
theorem vr_up_ne {α : Type} {f : Nat → α} {l : List Nat} {v : α} {a : Nat} (h : a ∉ l) : vr_up f l v a = f a := if_neg h
theorem vr_rows {L l : List Nat} {f : Nat → va_E} {e : va_E} (h : ∀ a, a ∈ l → a ∉ L) : va_pl L f ++ l.map (fun a => (a, e)) = va_pl (L ++ l) (vr_up f l e) := by
  unfold va_pl
  rw [List.map_append]
  congr 1
  · apply List.map_congr_left
    intro a ha
    rw [vr_up_ne (fun q => h a q ha)]
  · apply List.map_congr_left
    intro a ha
    rw [vr_up_in ha]
theorem vr_lay {X rows : va_W} {x : Nat × va_E} {pl : va_W} {D : va_G} {cl : List vw_C} {H : Heap} (hP : va_P D cl (((X ++ pl) ++ [x]) ++ rows) H) : va_P D cl ((X ++ [x]) ++ (pl ++ rows)) H := by
  rw [List.append_assoc (X ++ pl)] at hP
  have h := va_P.swap hP
  rw [← List.append_assoc X] at h
  have h2 := va_P.swap h
  rw [List.append_assoc (X ++ [x])] at h2
  exact h2
theorem vr_layD {X rows : va_W} {x : Nat × va_E} {pl : va_W} {A : Nat → Prop} (hD : va_D A (((X ++ pl) ++ [x]) ++ rows)) : va_D A ((X ++ [x]) ++ (pl ++ rows)) := by
  rw [List.append_assoc (X ++ pl)] at hD
  have h := va_D.swap hD
  rw [← List.append_assoc X] at h
  have h2 := va_D.swap h
  rw [List.append_assoc (X ++ [x])] at h2
  exact h2
theorem vr_outer (c : ClassId) (N h0 : Nat) : ∀ i : Nat, Jvm.Free.Multi.outerC c N h0 i = arrV c N (fun j => va_rf (if j < i then some (h0 + 1 + j) else none))
  | 0 => by
    show ({ cls := c, slots := Array.replicate N .null, vm := .none } : Cell) = _
    rw [arrV_new]
    refine congrArg (arrV c N) (funext fun j => ?_)
    simp [va_rf]
  | i + 1 => by
    show (Jvm.Free.Multi.outerC c N h0 i).setSlot i (.ref (h0 + 1 + i)) = _
    rw [vr_outer c N h0 i, arrV_store]
    refine congrArg (arrV c N) (funext fun j => ?_)
    by_cases e : j = i
    · subst e
      simp [updV, va_rf]
    · by_cases h : j < i
      · simp [updV, e, h, Nat.lt_succ_of_lt h]
      · simp [updV, e, h, show ¬ j < i + 1 by omega]
section VGM
variable {p : Program} {l : Launch} {e : Env} {R : Room} {s : State} {m : MethodId} {args : Array Value} {below : List Frame} {meth : Method} {c : Code} {H : Heap} {locs : List Loc} {cells slots : Nat} {Q : State → Prop}
variable {cc : ByteArray} {pc : Nat} {ls : Array Slot} {rest : List Value} {D : va_G} {cl : List vw_C} {A : Nat → Prop} {a : Nat} {tys : List (ClassId × FieldType)} {ws : va_W} {H0 : Heap}
theorem va_mna {X : va_W} {L : List Nat} {f : Nat → va_E} {cc : ByteArray} (hexec : p.tables.exec = Jvm.exec) (hb : c.code = cc) {own : String} {index : Nat} {ty : FieldType} {cy : ClassId} (hown : s.vm.findClass own = some m.cls) (hclink : (Cond.classLink own index ("[" ++ (FieldType.array ty).toString)).before args s = true) (hover : va_AOA ty s) (harr : (Cond.arrayClass ty).before args s = true) (hcy : s.vm.findClass (FieldType.array ty).toString = some cy)
    (hK : va_K D cl tys s) (hP : va_P D cl (X ++ va_pl L f) H) (hD : va_D A (X ++ va_pl L f)) (hS : va_S A H0 H locs) (hA : ∀ q, H0.size ≤ q → A q) {n k : Int32} {N' K' : Nat} {z : vp_A} (hn : ¬ n < 0) (hk : ¬ k < 0) (hN : n.toNatClampNeg = N') (hM : k.toNatClampNeg = K')
    (hb1 : N' * 4 ≤ 536870912) (hb2 : K' * componentBytes ty ≤ 536870912) (hb3 : K' ≤ 536870912) (hdf : fits ty (defaultValue ty) = true) (hdd : (defaultValue ty).isDefault = true) (hcells : cells + (1 + N') ≤ R.cells) (hslots : slots + (N' + N' * K') ≤ R.slots) (hz : ∀ c : ClassId, Jvm.Free.Multi.innerC c K' (defaultValue ty) = vp_cell c z) (hdg : decode cc pc = .ok (.multianewarray index 2, 4))
    (kk : ∀ (q : Nat) (r : Nat → Nat) (cA : ClassId) (H1 : Heap), (∀ i j : Nat, i < N' → j < N' → r i = r j → i = j) → (∀ i : Nat, i < N' → r i ∉ L) → va_K D cl (tys ++ [(cA, .array ty)]) s →
      va_P D cl ((X ++ [(q, .inl (cA, N', .inr (.inr (.inr (.inr (fun i => if i < N' then some (r i) else none))))))]) ++ va_pl (L ++ (List.range N').map r) (vr_up f ((List.range N').map r) (.inl (cy, z)))) H1 → va_D A ((X ++ [(q, .inl (cA, N', .inr (.inr (.inr (.inr (fun i => if i < N' then some (r i) else none))))))]) ++ va_pl (L ++ (List.range N').map r) (vr_up f ((List.range N').map r) (.inl (cy, z)))) → va_S A H0 H1 locs →
      W p l e R s m args below meth c H1 locs (cells + 1 + N') (slots + N' + N' * K') Q (F0 m (pc + 4) ls (.ref q :: rest))) : W p l e R s m args below meth c H locs cells slots Q (F0 m pc ls (.int k :: .int n :: rest)) := by
  subst hN
  subst hM
  intro T hT Xs
  obtain ⟨vm₁, cA, comp, -, fA, fC, hO, -, X', step⟩ := Xs.multianewarray2F hexec hown hclink (va_AOA.use hover) harr (g := F0 m pc ls (.int k :: .int n :: rest)) rfl (by rw [hb]; exact hdg) rfl hn hk hb1 hb2 hb3 hdf hdd hcells hslots
  have ec : some cy = some comp := hcy.symm.trans fC
  cases ec
  generalize hF : Jvm.Free.Multi.fill (T.setVm vm₁) cA cy n.toNatClampNeg k.toNatClampNeg (defaultValue ty) n.toNatClampNeg = F at X' step
  have hTh : (T.setVm vm₁).heap = H := hT
  obtain ⟨f1, f2, -, -⟩ := Jvm.Free.Multi.fill_facts (T.setVm vm₁) cA cy n.toNatClampNeg k.toNatClampNeg (defaultValue ty) n.toNatClampNeg
  rw [hF, hTh] at f1 f2
  have hold : ∀ x : Nat, x < H.size → F.heap[x]? = H[x]? := fun x hx => by
    have := Jvm.Free.Multi.fill_old (T.setVm vm₁) cA cy n.toNatClampNeg k.toNatClampNeg (defaultValue ty) (a := x) (by rw [hTh]; exact hx) n.toNatClampNeg
    rw [hF, hTh] at this
    exact this
  have hrow : ∀ j : Nat, j < n.toNatClampNeg → F.heap[H.size + 1 + j]? = some (vp_cell cy z) := fun j hj => by
    have := Jvm.Free.Multi.fill_inner (T.setVm vm₁) cA cy n.toNatClampNeg k.toNatClampNeg (defaultValue ty) n.toNatClampNeg j hj
    rw [hF, hTh, hz] at this
    exact this
  have hout : Jvm.Free.Multi.outerC cA n.toNatClampNeg H.size n.toNatClampNeg = vp_cell cA (n.toNatClampNeg, .inr (.inr (.inr (.inr (fun i => if i < n.toNatClampNeg then some (H.size + 1 + i) else none))))) := by
    rw [vp_cell_q]
    exact vr_outer cA n.toNatClampNeg H.size n.toNatClampNeg
  rw [hout] at f2
  have hlt : ∀ a, a ∈ L → a < H.size := fun a ha => by
    obtain ⟨k9, hk9⟩ := va_pl_get (X := X) (f := f) ha
    exact (hP k9 _ hk9).lt
  have hnl : ∀ i : Nat, i < n.toNatClampNeg → H.size + 1 + i ∉ L := fun i _ h => by
    have := hlt _ h
    omega
  have hnm : ∀ a, a ∈ (List.range n.toNatClampNeg).map (fun i => H.size + 1 + i) → a ∉ L := fun a ha h => by
    obtain ⟨i, -, rfl⟩ := List.mem_map.mp ha
    have := hlt _ h
    omega
  have hP0 : va_P D cl (X ++ va_pl L f) F.heap := hP.kept (fun k9 x hx => hold x.1 ((hP k9 x hx).lt))
  have hP1 : va_P D cl ((X ++ va_pl L f) ++ [(H.size, .inl (cA, n.toNatClampNeg, .inr (.inr (.inr (.inr (fun i => if i < n.toNatClampNeg then some (H.size + 1 + i) else none))))))]) F.heap := hP0.app (fun k9 x hx => by
    have h0 : k9 < 1 := (List.getElem?_eq_some_iff.mp hx).1
    rw [show k9 = 0 by omega] at hx
    cases hx
    exact f2)
  have hP2 : va_P D cl (((X ++ va_pl L f) ++ [(H.size, .inl (cA, n.toNatClampNeg, .inr (.inr (.inr (.inr (fun i => if i < n.toNatClampNeg then some (H.size + 1 + i) else none))))))]) ++ ((List.range n.toNatClampNeg).map (fun i => H.size + 1 + i)).map (fun a => (a, .inl (cy, z)))) F.heap := hP1.app (fun k9 x hx => by
    obtain ⟨a, ha, rfl⟩ := List.mem_map.mp (List.mem_of_getElem? hx)
    obtain ⟨i, hi, rfl⟩ := List.mem_map.mp ha
    exact hrow i (List.mem_range.mp hi))
  have hD2 : va_D A (((X ++ va_pl L f) ++ [(H.size, .inl (cA, n.toNatClampNeg, .inr (.inr (.inr (.inr (fun i => if i < n.toNatClampNeg then some (H.size + 1 + i) else none))))))]) ++ ((List.range n.toNatClampNeg).map (fun i => H.size + 1 + i)).map (fun a => (a, .inl (cy, z)))) := by
    have hD1 := hD.push (e := .inl (cA, n.toNatClampNeg, .inr (.inr (.inr (.inr (fun i => if i < n.toNatClampNeg then some (H.size + 1 + i) else none)))))) hP rfl (hA _ hS.1)
    generalize hW1 : (X ++ va_pl L f) ++ [(H.size, .inl (cA, n.toNatClampNeg, .inr (.inr (.inr (.inr (fun i => if i < n.toNatClampNeg then some (H.size + 1 + i) else none))))))] = W1 at hD1 hP1 ⊢
    have hle : ∀ (k9 : Nat) (x : Nat × va_E), W1[k9]? = some x → x.1 ≤ H.size := fun k9 x hx => by
      rw [← hW1] at hx
      by_cases hl : k9 < (X ++ va_pl L f).length
      · rw [List.getElem?_append_left hl] at hx
        exact Nat.le_of_lt ((hP k9 x hx).lt)
      · rw [List.getElem?_append_right (by omega)] at hx
        have h0 : k9 - (X ++ va_pl L f).length < 1 := (List.getElem?_eq_some_iff.mp hx).1
        rw [show k9 - (X ++ va_pl L f).length = 0 by omega] at hx
        cases hx
        exact Nat.le_refl _
    have hr : ∀ (k9 : Nat) (x : Nat × va_E), (((List.range n.toNatClampNeg).map (fun i => H.size + 1 + i)).map (fun a => ((a, .inl (cy, z)) : Nat × va_E)))[k9]? = some x → x.1 = H.size + 1 + k9 := fun k9 x hx => by
      rw [List.getElem?_map, List.getElem?_map] at hx
      by_cases h9 : k9 < n.toNatClampNeg
      · rw [List.getElem?_range h9] at hx
        cases hx
        rfl
      · have hn0 : (List.range n.toNatClampNeg)[k9]? = none := List.getElem?_eq_none (by rw [List.length_range]; omega)
        rw [hn0] at hx
        cases hx
    refine ⟨fun i j x y hi hj hxy => ?_, fun k9 x hx => ?_⟩
    · by_cases h1 : i < W1.length <;> by_cases h2 : j < W1.length
      · rw [List.getElem?_append_left h1] at hi
        rw [List.getElem?_append_left h2] at hj
        exact hD1.1 i j x y hi hj hxy
      · rw [List.getElem?_append_left h1] at hi
        rw [List.getElem?_append_right (by omega)] at hj
        have := hle _ _ hi
        have := hr _ _ hj
        omega
      · rw [List.getElem?_append_right (by omega)] at hi
        rw [List.getElem?_append_left h2] at hj
        have := hle _ _ hj
        have := hr _ _ hi
        omega
      · rw [List.getElem?_append_right (by omega)] at hi hj
        have := hr _ _ hi
        have := hr _ _ hj
        omega
    · by_cases h1 : k9 < W1.length
      · rw [List.getElem?_append_left h1] at hx
        exact hD1.2 k9 x hx
      · rw [List.getElem?_append_right (by omega)] at hx
        have := hr _ _ hx
        exact hA _ (by have := hS.1; omega)
  have hAr : ArrOfT s cA (.array ty) := fun N9 z9 => by
    obtain ⟨-, k9, hk9, cm9, hkk9⟩ := (hO 0 0 0).1
    exact ⟨(fun q hq => by cases hq), k9, hk9, cm9, hkk9⟩
  have hK2 : va_K D cl (tys ++ [(cA, .array ty)]) s := ⟨hK.1, fun k9 x hx => by
    by_cases hl : k9 < tys.length
    · rw [List.getElem?_append_left hl] at hx
      exact hK.2 k9 x hx
    · rw [List.getElem?_append_right (by omega)] at hx
      have h0 : k9 - tys.length < 1 := (List.getElem?_eq_some_iff.mp hx).1
      rw [show k9 - tys.length = 0 by omega] at hx
      cases hx
      exact ⟨hAr, fA⟩⟩
  obtain ⟨t, a1, b1⟩ := kk H.size (fun i => H.size + 1 + i) cA F.heap (fun i j _ _ h => by have h9 : H.size + 1 + i = H.size + 1 + j := h; omega) hnl hK2 (by rw [← vr_rows hnm]; exact vr_lay hP2) (by rw [← vr_rows hnm]; exact vr_layD hD2) ⟨by rw [f1]; have := hS.1; omega, fun x h1 h2 => (hold x (Nat.lt_of_lt_of_le h1 hS.1)).trans (hS.2.1 x h1 h2), hS.2.2⟩ F rfl X'
  refine ⟨t, step t ?_, b1⟩
  have e : T.heap.size = H.size := by rw [hT]
  rw [e]
  exact a1
end VGM
/-! ===== END ===== -/

/-! ===== BEGIN exceptions that leave a method, and their catching by the caller (launches without stack traces) ===== -/
section VXA
/-! The laws vx_back, vx_callV, vx_callS, vx_callSW, vx_throw0, vx_throwS follow proofs of the library, with one case more: JvmDerived/Free/Laws.lean (Back.of_free), Shelf42/LK1.lean (callV, callS), Shelf/KitTraced.lean (throwNew0V, throwNewS). -/
/-- where a method has thrown q: the class by its name, the cell, what was written, the world -/
def vx_T (XC : String → State → State → Prop) (st : State) (q : Addr) (t : State) (mc ms : Nat) (free : Addr → Prop) : Prop :=
  ∃ (E : String) (ce : Cell) (L : List Loc), XC E st t ∧ t.heap[q]? = some ce ∧ ce.vm = .none ∧ st.vm.findClass E = some ce.cls ∧ st.WarmedH t.vm ∧ st.sameButNew ({ t with vm := st.vm } : State) L mc ms ∧ ∀ z ∈ L, free z.base
def vx_Q (Qc : Array Value → State → Outcome → State → Prop) (XC : String → State → State → Prop) (mc ms : Nat) (free : Addr → Prop) : Array Value → State → Outcome → State → Prop := fun a st o t =>
  (Qc a st o t ∧ ∃ L, FrameEnd st o t L mc ms ∧ ∀ q ∈ L, free q.base) ∨ ∃ q, o = .threw q ∧ vx_T XC st q t mc ms free
/-- a callee that returns or throws -/
def vx_Met (l : Launch) (y : MethodName) (ws : List Cond) (rm : Room) (Pc : Array Value → State → Prop) (Qc : Array Value → State → Outcome → State → Prop) (XC : String → State → State → Prop) (mc ms : Nat) (free : Addr → Prop) : Prop :=
  MetFree l y (headSpec ws rm) Pc (fun _ _ _ _ _ => True) (vx_Q Qc XC mc ms free)
def vx_Post (XC : String → State → State → Prop) (mc ms : Nat) (free : Addr → Prop) : Pt → Array Value → Addr → Pt → Prop := fun A a q B =>
  ∃ (g : JFrame) (mk : MethodId) (t : State) (L : List Loc) (E : String) (ce : Cell), B.U.heap = t.heap ∧ B.U.vm = t.vm ∧ XC E (A.U.calling g mk a) t ∧ t.heap[q]? = some ce ∧ ce.vm = .none ∧ A.U.vm.findClass E = some ce.cls ∧ B.locs = A.locs ++ L ∧ (∀ z ∈ L, free z.base) ∧ B.cells = A.cells + mc ∧ B.slots = A.slots + ms
def vx_Back (l : Launch) (R : Room) (p : Program) (e : Env) (below : List Frame) (s : State) (sargs : Array Value) (y : MethodName) (len W9 : Nat)
    (Pre : Pt → Array Value → Prop) (Post : Pt → Array Value → Option Value → Pt → Prop) (PostX : Pt → Array Value → Addr → Pt → Prop) : Prop :=
  ∀ (m : MethodId) (meth : Method) (c : Code) (A : Pt) (g : JFrame) (ig : Instr) (mk : MethodId) (a : Array Value),
    Stand p l e R s m sargs below meth c A.U A.locs A.cells A.slots → g.method = m → g.locals.size = c.maxLocals → decode c.code g.pc = .ok (ig, len) →
    2 * g.monitorRoom + (g.stack.map fun v => v.category).sum ≤ W9 → A.U.methodNamed? y = some mk → Pre A a →
    (∃ (v : Option Value) (B : Pt), Stand p l e R s m sargs below meth c B.U B.locs B.cells B.slots ∧ Post A a v B ∧
      Steps p.tables e below (doInvoke e (A.U.setTop g) [] mk a).1 (B.U.setTop { g with pc := g.pc + len, stack := v.toList ++ g.stack })) ∨
    (∃ (q : Addr) (B : Pt), Stand p l e R s m sargs below meth c B.U B.locs B.cells B.slots ∧ PostX A a q B ∧
      Steps p.tables e below (doInvoke e (A.U.setTop g) [] mk a).1 ((B.U.setTop g).pushFrame (.throwing q)))
section Payer
variable {l : Launch} {R : Room} {p : Program} {e : Env} {below : List Frame} {s : State} {sargs : Array Value} {y : MethodName} {len W9 : Nat}
theorem vx_back {ws : List Cond} {rm : Room} {Pc : Array Value → State → Prop} {Qc : Array Value → State → Outcome → State → Prop} {XC : String → State → State → Prop} {mc ms : Nat} {free : Addr → Prop} {bytes : ByteArray} {maxL : Nat} {ret : Option FieldType}
    (hM : vx_Met l y ws rm Pc Qc XC mc ms free) (hblind : FrameBlind Pc) (hrc : rm.cells = mc) (hrs : rm.slots = ms)
    (hframes : rm.frames + 1 ≤ R.frames) (hlocals : W9 + (maxL + 11) + rm.locals ≤ R.locals)
    (hws : ∀ w ∈ ws, ∀ a' U, s.WarmedH U.vm → w.before a' U = true) (hcode : Cond.code y bytes maxL ret ∈ ws) (hinit : ∀ a' U, s.WarmedH U.vm → (Cond.initialized y.cls).before a' U = true) :
    vx_Back l R p e below s sargs y len W9 (PreOf R mc ms Pc) (PostOf Qc mc ms free) (vx_Post XC mc ms free) := by
  intro m meth c A g ig mk a X hg hsize hdg hW hn hp
  have h1 : (headSpec ws rm).pre.before a A.U = true := atoms_intro fun w hw => hws w hw _ _ X.warmed
  have h2 : (Cond.code y bytes maxL ret).before a A.U = true := hws _ hcode _ _ X.warmed
  have h3 : (Cond.initialized y.cls).before a A.U = true := hinit _ _ X.warmed
  have h4 : A.cells + (headSpec ws rm).room.cells ≤ R.cells := by rw [show (headSpec ws rm).room.cells = mc from hrc]; exact hp.1
  have h5 : A.slots + (headSpec ws rm).room.slots ≤ R.slots := by rw [show (headSpec ws rm).room.slots = ms from hrs]; exact hp.2.1
  have hPc : Pc a (A.U.calling g mk a) := hblind _ _ _ _ hp.2.2
  obtain ⟨U, Ls, c0, s0⟩ := A
  dsimp only [Pt.U, Pt.locs, Pt.cells, Pt.slots] at h1 h2 h3 h4 h5 X hn hPc ⊢
  obtain ⟨methY, cY, hmY, hcY, -, hlY, -, -, -, -⟩ := Cond.code_spec hn h2
  obtain ⟨kY, hkY, -⟩ := className_of_methodNamed hn
  have hinitY : kY.init = .initialized := Cond.initialized_spec (findClass_of_methodNamed hn) hkY h3
  have h : At U g.method c below := by rw [hg]; exact X.here
  have hlocals9 : W9 + (maxL + 11) + (headSpec ws rm).room.locals ≤ R.locals := hlocals
  have happ : (headSpec ws rm).appliesLoose y e.platform (U.calling g mk a) = true :=
    Spec.appliesLoose_calling (g := g) h hdg hn hkY hinitY
      (X.room_calling (g := g) (R' := (headSpec ws rm).room) hsize hmY hcY hframes (by rw [hlY]; omega) h4 h5) h1
  obtain ⟨mid, hmid⟩ := h.above
  have hfr : (U.setTop g).frames = (.java g :: mid) ++ below := by rw [State.frames_setTop' g h.top, hmid]; rfl
  obtain ⟨o, s₂, hsteps, -, hend, hq⟩ := Steps.callFree hM p X.admits X.cas X.clock (acts := []) hfr happ hPc trivial
  have hq' : vx_Q Qc XC mc ms free a (U.calling g mk a) o s₂ := hq
  rw [State.frames_setTop' g h.top] at hend
  obtain ⟨g₀, hg0⟩ := Option.isSome_iff_exists.mp h.top
  obtain ⟨r, hr⟩ := State.topJava?_eq_some.mp hg0
  have hr' : (({ U with heap := s₂.heap, slotsUsed := s₂.slotsUsed } : State).setVm s₂.vm).frames = .java g₀ :: r := hr
  rcases hq' with ⟨hqc, L, hfe, hL⟩ | ⟨q, rfl, E, ce, L, hx, hce, hcv, hcl, hW₂, hsm, hL⟩
  · obtain ⟨⟨v, rfl⟩, hW₂, e2, q2, q3, q4, q5, q6⟩ := id hfe
    have e3 : s₂ = ({ (U.calling g mk a).setFrames s₂.frames with heap := s₂.heap, slotsUsed := s₂.slotsUsed } : State).setVm s₂.vm := by
      have : s₂ = ({ s₂ with vm := (U.calling g mk a).vm } : State).setVm s₂.vm := rfl
      rw [e2] at this
      exact this
    obtain ⟨c₂, i₂, len₂, hc₂, hd₂, hf₂⟩ := hend
    have hW' : U.WarmedH s₂.vm := hW₂
    have hcc : c₂ = c := by
      have h1 : s₂.code? g.method = U.code? g.method := by
        rw [State.code?_eq, State.code?_eq, hW'.alike.method?]
      exact Option.some.inj (hc₂.symm.trans (h1.trans h.code))
    subst hcc
    have hlen : len₂ = len := by rw [hdg] at hd₂; cases hd₂; rfl
    subst hlen
    have hs₂ : s₂ = (({ U with heap := s₂.heap, slotsUsed := s₂.slotsUsed } : State).setVm s₂.vm).setTop { g with pc := g.pc + len₂, stack := v.toList ++ g.stack } := by
      refine e3.trans ?_
      rw [hf₂, State.calling_eq h.top, State.setFrames_setFrames, State.setTop_of_frames _ hr', hr]
      rfl
    have hsame : U.sameButNew ({ U with heap := s₂.heap, slotsUsed := s₂.slotsUsed } : State) L mc ms := by
      refine ⟨?_, q2, q3, q4, q5, q6⟩
      obtain ⟨t, ht, -⟩ := State.frames_cons hr
      show ({ U with heap := s₂.heap, slotsUsed := s₂.slotsUsed } : State) = { U.setFrames U.frames with heap := s₂.heap, slotsUsed := s₂.slotsUsed }
      rw [State.setFrames_self ht]
    subst hg
    refine Or.inl ⟨v, ⟨(({ U with heap := s₂.heap, slotsUsed := s₂.slotsUsed } : State).setVm s₂.vm), Ls ++ L, c0 + mc, s0 + ms⟩,
      ⟨X.admits, X.cas, X.clock, X.frames, X.room, X.hears, X.method, X.code, (X.here.setHeapUsed s₂.heap s₂.slotsUsed).setVm hW'.alike, X.tail, State.WarmedH.trans X.warmed hW', X.limits, X.bytes, X.same.trans (hsame.setVm s.vm)⟩,
      ⟨g, mk, s₂, L, rfl, rfl, hqc, rfl, hL, rfl, rfl⟩, ?_⟩
    show Steps p.tables e below _ ((({ U with heap := s₂.heap, slotsUsed := s₂.slotsUsed } : State).setVm s₂.vm).setTop { g with pc := g.pc + len₂, stack := v.toList ++ g.stack })
    rw [← hs₂]
    exact hsteps
  · obtain ⟨e2, q2, q3, q4, q5, q6⟩ := id hsm
    have e3 : s₂ = ({ (U.calling g mk a).setFrames s₂.frames with heap := s₂.heap, slotsUsed := s₂.slotsUsed } : State).setVm s₂.vm := by
      have : s₂ = ({ s₂ with vm := (U.calling g mk a).vm } : State).setVm s₂.vm := rfl
      rw [e2] at this
      exact this
    have hf₂ : s₂.frames = .throwing q :: .java g :: U.frames.tail := hend
    have hW' : U.WarmedH s₂.vm := hW₂
    have hs₂ : s₂ = ((({ U with heap := s₂.heap, slotsUsed := s₂.slotsUsed } : State).setVm s₂.vm).setTop g).pushFrame (.throwing q) := by
      refine e3.trans ?_
      rw [hf₂, State.calling_eq h.top, State.setFrames_setFrames, State.pushFrame, State.frames_setTop _ hr', State.setTop_of_frames _ hr', State.setFrames_setFrames, hr]
      rfl
    have hsame : U.sameButNew ({ U with heap := s₂.heap, slotsUsed := s₂.slotsUsed } : State) L mc ms := by
      refine ⟨?_, q2, q3, q4, q5, q6⟩
      obtain ⟨t, ht, -⟩ := State.frames_cons hr
      show ({ U with heap := s₂.heap, slotsUsed := s₂.slotsUsed } : State) = { U.setFrames U.frames with heap := s₂.heap, slotsUsed := s₂.slotsUsed }
      rw [State.setFrames_self ht]
    subst hg
    refine Or.inr ⟨q, ⟨(({ U with heap := s₂.heap, slotsUsed := s₂.slotsUsed } : State).setVm s₂.vm), Ls ++ L, c0 + mc, s0 + ms⟩,
      ⟨X.admits, X.cas, X.clock, X.frames, X.room, X.hears, X.method, X.code, (X.here.setHeapUsed s₂.heap s₂.slotsUsed).setVm hW'.alike, X.tail, State.WarmedH.trans X.warmed hW', X.limits, X.bytes, X.same.trans (hsame.setVm s.vm)⟩,
      ⟨g, mk, s₂, L, E, ce, rfl, rfl, hx, hce, hcv, hcl, rfl, hL, rfl, rfl⟩, ?_⟩
    show Steps p.tables e below _ (((({ U with heap := s₂.heap, slotsUsed := s₂.slotsUsed } : State).setVm s₂.vm).setTop g).pushFrame (.throwing q))
    rw [← hs₂]
    exact hsteps
end Payer
section Calls
variable {p : Program} {l : Launch} {e : Env} {R : Room} {s : State} {m : MethodId} {args : Array Value} {below : List Frame} {meth : Method} {c : Code} {T : State} {locs : List Loc} {cells slots : Nat}
theorem vx_callV (X : Stand p l e R s m args below meth c T locs cells slots) (hexec : p.tables.exec = Jvm.exec) {own C : String} {index : Nat} {y : MethodName} {bytes : ByteArray} {maxL : Nat} {ret : Option FieldType}
    (hown : s.vm.findClass own = some m.cls) (hlink : (Cond.methodLink own index y).before args s = true) (hinst : (Cond.instanceMethod y).before args s = true) (hsel : (Cond.selects C y y).before args s = true)
    (hcode : (Cond.code y bytes maxL ret).before args s = true) (hy : y.cls ≠ "java/lang/invoke/MethodHandle" ∧ y.cls ≠ "java/lang/invoke/VarHandle")
    {W9 : Nat} {Pre : Pt → Array Value → Prop} {Post : Pt → Array Value → Option Value → Pt → Prop} {PostX : Pt → Array Value → Addr → Pt → Prop} (hK : vx_Back l R p e below s args y 3 W9 Pre Post PostX)
    {b : Addr} {cellB : Cell} (hcell : T.heap[b]? = some cellB) (hobj : cellB.vm.isStatics = false) (hcls : s.vm.findClass C = some cellB.cls)
    {g : JFrame} (hg : g.method = m) (hsize : g.locals.size = c.maxLocals) {argsL rest : List Value} (hlen : ∀ sig, parseMethodDescriptor y.desc = some sig → argsL.length = sig.parameters.length)
    (hstack : g.stack = argsL.reverse ++ .ref b :: rest) (hW : 2 * g.monitorRoom + (rest.map fun v => v.category).sum ≤ W9) (hdg : decode c.code g.pc = .ok (.invokevirtual index, 3))
    (hpre : ∀ vm₁, s.WarmedH vm₁ → Pre ⟨T.setVm vm₁, locs, cells, slots⟩ (Value.ref b :: argsL).toArray) :
    (∃ (v : Option Value) (vm₁ : Vm) (B : Pt), s.WarmedH vm₁ ∧ Stand p l e R s m args below meth c B.U B.locs B.cells B.slots ∧ Post ⟨T.setVm vm₁, locs, cells, slots⟩ (Value.ref b :: argsL).toArray v B ∧
      ∀ target, Steps p.tables e below (B.U.setTop { g with pc := g.pc + 3, stack := v.toList ++ rest }) target → Steps p.tables e below (T.setTop g) target) ∨
    (∃ (q : Addr) (vm₁ : Vm) (B : Pt), s.WarmedH vm₁ ∧ Stand p l e R s m args below meth c B.U B.locs B.cells B.slots ∧ PostX ⟨T.setVm vm₁, locs, cells, slots⟩ (Value.ref b :: argsL).toArray q B ∧
      Steps p.tables e below (T.setTop g) ((B.U.setTop { g with stack := rest }).pushFrame (.throwing q))) := by
  obtain ⟨mk, methM, hnamed, hmethM, hstM, habM⟩ := Cond.instanceMethod_spec hinst
  obtain ⟨methM', cM, hmethM', -, -, -, -, -, -, hsigM⟩ := Cond.code_spec hnamed hcode
  cases hmethM.symm.trans hmethM'
  obtain ⟨c2, r2, m2, q1, q2, q3, q4, kP, hkP, hkPi⟩ := Cond.selects_spec hsel
  cases hcls.symm.trans q1
  cases (State.methodFound?_of_named hnamed hy).symm.trans q2
  cases hnamed.symm.trans q3
  have hselP : selectMethod e.platform s.vm cellB.cls mk = .method mk := by rw [Launch.admits_selectMethod X.admits]; exact q4
  obtain ⟨vm₁, X₁, hstep₁⟩ := X.invokevirtual hexec hown hlink hnamed hmethM hstM hkP hkPi hy (a := b) (cell := cellB) hcell
    (fun z h => by rw [h] at hobj; cases hobj) hselP hmethM habM hkP hkPi (g := g) hg (argsL := argsL) (rest := rest) (hlen _ hsigM) hstack hdg
  rcases hK m meth c ⟨T.setVm vm₁, locs, cells, slots⟩ { g with stack := rest } (.invokevirtual index) mk (Value.ref b :: argsL).toArray X₁ hg hsize hdg hW (X₁.named hnamed) (hpre vm₁ X₁.warmed) with ⟨v, B, X', hpost, hsteps⟩ | ⟨q, B, X', hpost, hsteps⟩
  · exact Or.inl ⟨v, vm₁, B, X₁.warmed, X', hpost, fun target h => hstep₁ _ fun acts => by rw [doInvoke_state]; exact hsteps.trans h⟩
  · exact Or.inr ⟨q, vm₁, B, X₁.warmed, X', hpost, hstep₁ _ fun acts => by rw [doInvoke_state]; exact hsteps⟩
theorem vx_callS (X : Stand p l e R s m args below meth c T locs cells slots) (hexec : p.tables.exec = Jvm.exec) {own : String} {index : Nat} {y : MethodName} {bytes : ByteArray} {maxL : Nat} {ret : Option FieldType}
    (hown : s.vm.findClass own = some m.cls) (hlink : (Cond.methodLink own index y).before args s = true) (hstat : (Cond.static y).before args s = true) (hinit : (Cond.initialized y.cls).before args s = true)
    (hcode : (Cond.code y bytes maxL ret).before args s = true) (hy : y.cls ≠ "java/lang/invoke/MethodHandle" ∧ y.cls ≠ "java/lang/invoke/VarHandle")
    {W9 : Nat} {Pre : Pt → Array Value → Prop} {Post : Pt → Array Value → Option Value → Pt → Prop} {PostX : Pt → Array Value → Addr → Pt → Prop} (hK : vx_Back l R p e below s args y 3 W9 Pre Post PostX)
    {g : JFrame} (hg : g.method = m) (hsize : g.locals.size = c.maxLocals) {argsL rest : List Value} (hlen : ∀ sig, parseMethodDescriptor y.desc = some sig → argsL.length = sig.parameters.length)
    (hstack : g.stack = argsL.reverse ++ rest) (hW : 2 * g.monitorRoom + (rest.map fun v => v.category).sum ≤ W9) (hdg : decode c.code g.pc = .ok (.invokestatic index, 3))
    (hpre : ∀ vm₁, s.WarmedH vm₁ → Pre ⟨T.setVm vm₁, locs, cells, slots⟩ argsL.toArray) :
    (∃ (v : Option Value) (vm₁ : Vm) (B : Pt), s.WarmedH vm₁ ∧ Stand p l e R s m args below meth c B.U B.locs B.cells B.slots ∧ Post ⟨T.setVm vm₁, locs, cells, slots⟩ argsL.toArray v B ∧
      ∀ target, Steps p.tables e below (B.U.setTop { g with pc := g.pc + 3, stack := v.toList ++ rest }) target → Steps p.tables e below (T.setTop g) target) ∨
    (∃ (q : Addr) (vm₁ : Vm) (B : Pt), s.WarmedH vm₁ ∧ Stand p l e R s m args below meth c B.U B.locs B.cells B.slots ∧ PostX ⟨T.setVm vm₁, locs, cells, slots⟩ argsL.toArray q B ∧
      Steps p.tables e below (T.setTop g) ((B.U.setTop { g with stack := rest }).pushFrame (.throwing q))) := by
  obtain ⟨mk, hnamed⟩ := Cond.code_named hcode
  obtain ⟨methM, cM, hmethM, -, -, -, -, -, -, hsigM⟩ := Cond.code_spec hnamed hcode
  have hstatic : methM.isStatic = true := Cond.static_spec hnamed hmethM hstat
  obtain ⟨kP, hkP, -⟩ := className_of_methodNamed hnamed
  have hinitP : kP.init = .initialized := Cond.initialized_spec (findClass_of_methodNamed hnamed) hkP hinit
  obtain ⟨vm₁, X₁, hstep₁⟩ := X.invokestatic hexec hown hlink hnamed hmethM hstatic hkP hinitP hy (g := g) hg (argsL := argsL) (rest := rest) (hlen _ hsigM) hstack hdg
  rcases hK m meth c ⟨T.setVm vm₁, locs, cells, slots⟩ { g with stack := rest } (.invokestatic index) mk argsL.toArray X₁ hg hsize hdg hW (X₁.named hnamed) (hpre vm₁ X₁.warmed) with ⟨v, B, X', hpost, hsteps⟩ | ⟨q, B, X', hpost, hsteps⟩
  · exact Or.inl ⟨v, vm₁, B, X₁.warmed, X', hpost, fun target h => hstep₁ _ fun acts => by rw [doInvoke_state]; exact hsteps.trans h⟩
  · exact Or.inr ⟨q, vm₁, B, X₁.warmed, X', hpost, hstep₁ _ fun acts => by rw [doInvoke_state]; exact hsteps⟩
end Calls
theorem vx_cls {s : State} {T : State} {vm₁ : Vm} {E : String} {k : ClassId} (hW : s.WarmedH vm₁) (h : (T.setVm vm₁).vm.findClass E = some k) : s.vm.findClass E = some k := by
  have h1 : vm₁.findClass E = some k := h
  rw [hW.alike.findClass] at h1
  exact h1
/-- the method's frame g, with q thrown over it -/
def vx_W (p : Program) (l : Launch) (e : Env) (R : Room) (s : State) (m : MethodId) (args : Array Value) (below : List Frame) (meth : Method) (c : Code) (H : Heap) (locs : List Loc) (cells slots : Nat) (Q : State → Prop) (g : JFrame) (q : Addr) : Prop :=
  ∀ T : State, T.heap = H → Stand p l e R s m args below meth c T locs cells slots → ∃ t, Steps p.tables e below ((T.setTop g).pushFrame (.throwing q)) t ∧ Q t
def vx_Run (p : Program) (l : Launch) (e : Env) (R : Room) (s : State) (m : MethodId) (args : Array Value) (below : List Frame) (meth : Method) (c : Code) (H : Heap) (locs : List Loc) (cells slots mc ms : Nat) (g : JFrame) (rest : List Value) (Qa : State → Outcome → State → Prop) (XC : String → State → State → Prop) (free : Addr → Prop) : Prop :=
  ∀ T : State, T.heap = H → Stand p l e R s m args below meth c T locs cells slots →
    (∃ (v : Option Value) (st₀ t T' : State) (L : List Loc), st₀.heap = H ∧ Stand p l e R s m args below meth c T' (locs ++ L) (cells + mc) (slots + ms) ∧ (∀ q ∈ L, free q.base) ∧ T'.heap = t.heap ∧ T'.vm = t.vm ∧ Qa st₀ (.returned v) t ∧
      Goes p e below T g T' { g with pc := g.pc + 3, stack := v.toList ++ rest }) ∨
    (∃ (q : Addr) (st₀ t T' : State) (L : List Loc) (E : String) (ce : Cell), st₀.heap = H ∧ Stand p l e R s m args below meth c T' (locs ++ L) (cells + mc) (slots + ms) ∧ (∀ z ∈ L, free z.base) ∧ T'.heap = t.heap ∧ T'.vm = t.vm ∧ XC E st₀ t ∧ t.heap[q]? = some ce ∧ ce.vm = .none ∧ s.vm.findClass E = some ce.cls ∧
      Steps p.tables e below (T.setTop g) ((T'.setTop { g with stack := rest }).pushFrame (.throwing q)))
def vx_X {S : Type} (px : S → Prop) (B : String → S → State → Prop) (A : Nat → Prop) : String → State → State → Prop := fun E st t => ∃ u : S, px u ∧ B E u t ∧ va_F A st t
section Runs
variable {p : Program} {l : Launch} {e : Env} {R : Room} {s : State} {m : MethodId} {args : Array Value} {below : List Frame} {meth : Method} {c : Code} {H : Heap} {locs : List Loc} {cells slots : Nat}
variable {y : MethodName} {bytes cc : ByteArray} {maxL nL mc ms n index : Nat} {ret : Option FieldType} {ws : List Cond} {rm : Room} {Pc : Array Value → State → Prop} {Qc : Array Value → State → Outcome → State → Prop} {XC : String → State → State → Prop} {free : Addr → Prop} {Ts : List Cond} {own C : String} {b : Addr} {As rest : List Value} {g : JFrame}
theorem vx_callBack (cb : CallB R s args own index y bytes maxL ret ws rm mc ms n) (hM : vx_Met l y ws rm Pc Qc XC mc ms free) (hbl : FrameBlind Pc) : vx_Back l R p e below s args y 3 8 (PreOf R mc ms Pc) (PostOf Qc mc ms free) (vx_Post XC mc ms free) := by
  obtain ⟨hrc, hrs, hfr, hlo, hws, hcw, -, hini, -⟩ := cb
  exact vx_back (bytes := bytes) (maxL := maxL) (ret := ret) hM hbl hrc hrs hfr hlo hws hcw (fun a' U hW => word_at hW (Or.inl (by first | rfl | simp [Cond.onTables, Cond.keeps, Cond.steady])) hini)
theorem vx_runV (S : CallFix p m c cc nL s args Ts own) (hM : vx_Met l y ws rm Pc Qc XC mc ms free) (cw : CallW R s args own C index y bytes maxL ret ws rm mc ms n) (hp : PreV s H C b Pc As)
    (hg : g.method = m) (hn : As.length = n) (hsize : g.locals.size = nL) (hstack : g.stack = As.reverse ++ .ref b :: rest) (hW : 2 * g.monitorRoom + (rest.map fun v => v.category).sum ≤ 8) (hdg : decode cc g.pc = .ok (.invokevirtual index, 3)) (hf : cells + mc ≤ R.cells ∧ slots + ms ≤ R.slots) :
    vx_Run p l e R s m args below meth c H locs cells slots mc ms g rest (Qc (Value.ref b :: As).toArray) XC free := by
  have hK : vx_Back l R p e below s args y 3 8 (PreOf R mc ms Pc) (PostOf Qc mc ms free) (vx_Post XC mc ms free) := vx_callBack cw.1 hM hp.1
  obtain ⟨⟨-, -, -, -, -, -, hcode, -, hy, hlen, hl⟩, hin, hse⟩ := cw
  obtain ⟨hx, hb, hml, ho, -⟩ := S
  obtain ⟨-, ⟨cellB, hcB, hoB, hclB⟩, hPc⟩ := hp
  intro T hT X
  rcases vx_callV X hx (C := C) (bytes := bytes) (maxL := maxL) (ret := ret) ho hl hin hse hcode hy hK (by rw [hT]; exact hcB) hoB hclB hg (hsize.trans hml.symm) (argsL := As) (rest := rest) (fun sig h => hn.trans (hlen sig h)) hstack hW (by rw [hb]; exact hdg)
    (fun vm₁ hW₁ => ⟨hf.1, hf.2, hPc (T.setVm vm₁) hT hW₁⟩) with ⟨v, vm₁, ⟨U', l2, c2, s2⟩, hW₁, X', ⟨g', mk, t, L, e1, e2, hq, h1, hL, h2, h3⟩, st⟩ | ⟨q, vm₁, ⟨U', l2, c2, s2⟩, hW₁, X', ⟨g', mk, t, L, E, ce, e1, e2, hq, hce, hcv, hcl, h1, hL, h2, h3⟩, st⟩
  · dsimp only [Pt.U, Pt.locs, Pt.cells, Pt.slots] at X' e1 e2 h1 h2 h3 st
    subst h1; subst h2; subst h3
    exact Or.inl ⟨v, (T.setVm vm₁).calling g' mk (Value.ref b :: As).toArray, t, U', L, hT, X', hL, e1, e2, hq, st⟩
  · dsimp only [Pt.U, Pt.locs, Pt.cells, Pt.slots] at X' e1 e2 h1 h2 h3 st hcl
    subst h1; subst h2; subst h3
    exact Or.inr ⟨q, (T.setVm vm₁).calling g' mk (Value.ref b :: As).toArray, t, U', L, E, ce, hT, X', hL, e1, e2, hq, hce, hcv, vx_cls hW₁ hcl, st⟩
theorem vx_runS (S : CallFix p m c cc nL s args Ts own) (hM : vx_Met l y ws rm Pc Qc XC mc ms free) (cw : CallB R s args own index y bytes maxL ret ws rm mc ms n ∧ (Cond.static y).before args s = true) (hp : PreS s H Pc As)
    (hg : g.method = m) (hn : As.length = n) (hsize : g.locals.size = nL) (hstack : g.stack = As.reverse ++ rest) (hW : 2 * g.monitorRoom + (rest.map fun v => v.category).sum ≤ 8) (hdg : decode cc g.pc = .ok (.invokestatic index, 3)) (hf : cells + mc ≤ R.cells ∧ slots + ms ≤ R.slots) :
    vx_Run p l e R s m args below meth c H locs cells slots mc ms g rest (Qc As.toArray) XC free := by
  have hK : vx_Back l R p e below s args y 3 8 (PreOf R mc ms Pc) (PostOf Qc mc ms free) (vx_Post XC mc ms free) := vx_callBack cw.1 hM hp.1
  obtain ⟨⟨-, -, -, -, -, -, hcode, hini, hy, hlen, hl⟩, hstt⟩ := cw
  obtain ⟨hx, hb, hml, ho, -⟩ := S
  intro T hT X
  rcases vx_callS X hx (bytes := bytes) (maxL := maxL) (ret := ret) ho hl hstt hini hcode hy hK hg (hsize.trans hml.symm) (argsL := As) (rest := rest) (fun sig h => hn.trans (hlen sig h)) hstack hW (by rw [hb]; exact hdg)
    (fun vm₁ hW₁ => ⟨hf.1, hf.2, hp.2 (T.setVm vm₁) hT hW₁⟩) with ⟨v, vm₁, ⟨U', l2, c2, s2⟩, hW₁, X', ⟨g', mk, t, L, e1, e2, hq, h1, hL, h2, h3⟩, st⟩ | ⟨q, vm₁, ⟨U', l2, c2, s2⟩, hW₁, X', ⟨g', mk, t, L, E, ce, e1, e2, hq, hce, hcv, hcl, h1, hL, h2, h3⟩, st⟩
  · dsimp only [Pt.U, Pt.locs, Pt.cells, Pt.slots] at X' e1 e2 h1 h2 h3 st
    subst h1; subst h2; subst h3
    exact Or.inl ⟨v, (T.setVm vm₁).calling g' mk As.toArray, t, U', L, hT, X', hL, e1, e2, hq, st⟩
  · dsimp only [Pt.U, Pt.locs, Pt.cells, Pt.slots] at X' e1 e2 h1 h2 h3 st hcl
    subst h1; subst h2; subst h3
    exact Or.inr ⟨q, (T.setVm vm₁).calling g' mk As.toArray, t, U', L, E, ce, hT, X', hL, e1, e2, hq, hce, hcv, vx_cls hW₁ hcl, st⟩
end Runs
section Rows
variable {p : Program} {l : Launch} {e : Env} {R : Room} {s : State} {m : MethodId} {args : Array Value} {below : List Frame} {meth : Method} {c : Code} {H : Heap} {locs : List Loc} {cells slots : Nat} {Q : State → Prop}
variable {mc ms : Nat} {free : Addr → Prop} {A0 A1 : Nat → Prop} {H0 : Heap} {a : Array Value} {pc : Nat} {ls : Array Slot} {st0 rest : List Value}
theorem vx_keep {st₀ t T' : State} {L : List Loc} (h0 : st₀.heap = H) (e1 : T'.heap = t.heap) (hS : va_S A0 H0 H locs) (hA : ∀ q, q < H.size → A1 q → A0 q) (hf : ∀ q, free q → A0 q) (hL : ∀ q ∈ L, free q.base) (hF : va_F A1 st₀ t) :
    H.size ≤ T'.heap.size ∧ (∀ q : Nat, q < H.size → ¬ A1 q → T'.heap[q]? = H[q]?) ∧ va_S A0 H0 T'.heap (locs ++ L) := by
  obtain ⟨hz, hk⟩ := hF
  rw [h0] at hz hk
  exact ⟨by rw [e1]; exact hz, fun q h1 h2 => by rw [e1]; exact hk q h1 h2,
    ⟨Nat.le_trans hS.1 (by rw [e1]; exact hz), fun q h1 h2 => by rw [e1, hk q (Nat.lt_of_lt_of_le h1 hS.1) (fun z => h2 (hA q (Nat.lt_of_lt_of_le h1 hS.1) z))]; exact hS.2.1 q h1 h2, fun q hq => by
      rcases List.mem_append.mp hq with h | h
      · exact hS.2.2 q h
      · exact hf _ (hL q h)⟩⟩
theorem vx_calli {S SX : Type} {post : Int32 → S → Prop} {px : SX → Prop} {B : S → State → Prop} {BX : String → SX → State → Prop} {AX : Nat → Prop} (hr : vx_Run p l e R s m args below meth c H locs cells slots mc ms (F0 m pc ls st0) rest (va_Qi post B A1 a) (vx_X px BX AX) free) (hS : va_S A0 H0 H locs) (hA : ∀ q, q < H.size → A1 q → A0 q) (hf : ∀ q, free q → A0 q) (hAX : ∀ q, q < H.size → AX q → A0 q)
    (kx : ∀ (E : String) (ce : Cell) (q9 : Addr) (u : SX) (t : State) (H1 : Heap) (locs1 : List Loc), t.heap = H1 → s.vm.Alike t.vm → px u → BX E u t → H.size ≤ H1.size → (∀ q : Nat, q < H.size → ¬ AX q → H1[q]? = H[q]?) → va_S A0 H0 H1 locs1 → H1[q9]? = some ce → ce.vm = .none → s.vm.findClass E = some ce.cls → vx_W p l e R s m args below meth c H1 locs1 (cells + mc) (slots + ms) Q (F0 m pc ls rest) q9)
    (kk : ∀ (r : Int32) (u : S) (t : State) (H1 : Heap) (locs1 : List Loc), t.heap = H1 → s.vm.Alike t.vm → post r u → B u t → H.size ≤ H1.size → (∀ q : Nat, q < H.size → ¬ A1 q → H1[q]? = H[q]?) → va_S A0 H0 H1 locs1 → W p l e R s m args below meth c H1 locs1 (cells + mc) (slots + ms) Q (F0 m (pc + 3) ls (.int r :: rest))) : W p l e R s m args below meth c H locs cells slots Q (F0 m pc ls st0) := by
  intro T hT X
  rcases hr T hT X with ⟨v, st₀, t, T', L, h0, X', hL, e1, e2, ⟨⟨r, u, hv, hp, hb⟩, hF⟩, st⟩ | ⟨q, st₀, t, T', L, E, ce, h0, X', hL, e1, e2, ⟨u, hp, hb, hF⟩, hce, hcv, hcl, st⟩
  · cases hv
    obtain ⟨k1, k2, k3⟩ := vx_keep h0 e1 hS hA hf hL hF
    obtain ⟨t2, a1, b1⟩ := kk r u t T'.heap (locs ++ L) e1.symm (by rw [← e2]; exact X'.warmed.alike) hp hb k1 k2 k3 T' rfl X'
    exact ⟨t2, st t2 a1, b1⟩
  · obtain ⟨k1, k2, k3⟩ := vx_keep h0 e1 hS hAX hf hL hF
    obtain ⟨t2, a1, b1⟩ := kx E ce q u t T'.heap (locs ++ L) e1.symm (by rw [← e2]; exact X'.warmed.alike) hp hb k1 k2 k3 (by rw [e1]; exact hce) hcv hcl T' rfl X'
    exact ⟨t2, st.trans a1, b1⟩
theorem vx_calll {S SX : Type} {post : Int64 → S → Prop} {px : SX → Prop} {B : S → State → Prop} {BX : String → SX → State → Prop} {AX : Nat → Prop} (hr : vx_Run p l e R s m args below meth c H locs cells slots mc ms (F0 m pc ls st0) rest (va_Ql post B A1 a) (vx_X px BX AX) free) (hS : va_S A0 H0 H locs) (hA : ∀ q, q < H.size → A1 q → A0 q) (hf : ∀ q, free q → A0 q) (hAX : ∀ q, q < H.size → AX q → A0 q)
    (kx : ∀ (E : String) (ce : Cell) (q9 : Addr) (u : SX) (t : State) (H1 : Heap) (locs1 : List Loc), t.heap = H1 → s.vm.Alike t.vm → px u → BX E u t → H.size ≤ H1.size → (∀ q : Nat, q < H.size → ¬ AX q → H1[q]? = H[q]?) → va_S A0 H0 H1 locs1 → H1[q9]? = some ce → ce.vm = .none → s.vm.findClass E = some ce.cls → vx_W p l e R s m args below meth c H1 locs1 (cells + mc) (slots + ms) Q (F0 m pc ls rest) q9)
    (kk : ∀ (r : Int64) (u : S) (t : State) (H1 : Heap) (locs1 : List Loc), t.heap = H1 → s.vm.Alike t.vm → post r u → B u t → H.size ≤ H1.size → (∀ q : Nat, q < H.size → ¬ A1 q → H1[q]? = H[q]?) → va_S A0 H0 H1 locs1 → W p l e R s m args below meth c H1 locs1 (cells + mc) (slots + ms) Q (F0 m (pc + 3) ls (.long r :: rest))) : W p l e R s m args below meth c H locs cells slots Q (F0 m pc ls st0) := by
  intro T hT X
  rcases hr T hT X with ⟨v, st₀, t, T', L, h0, X', hL, e1, e2, ⟨⟨r, u, hv, hp, hb⟩, hF⟩, st⟩ | ⟨q, st₀, t, T', L, E, ce, h0, X', hL, e1, e2, ⟨u, hp, hb, hF⟩, hce, hcv, hcl, st⟩
  · cases hv
    obtain ⟨k1, k2, k3⟩ := vx_keep h0 e1 hS hA hf hL hF
    obtain ⟨t2, a1, b1⟩ := kk r u t T'.heap (locs ++ L) e1.symm (by rw [← e2]; exact X'.warmed.alike) hp hb k1 k2 k3 T' rfl X'
    exact ⟨t2, st t2 a1, b1⟩
  · obtain ⟨k1, k2, k3⟩ := vx_keep h0 e1 hS hAX hf hL hF
    obtain ⟨t2, a1, b1⟩ := kx E ce q u t T'.heap (locs ++ L) e1.symm (by rw [← e2]; exact X'.warmed.alike) hp hb k1 k2 k3 (by rw [e1]; exact hce) hcv hcl T' rfl X'
    exact ⟨t2, st.trans a1, b1⟩
theorem vx_callf {S SX : Type} {post : UInt32 → S → Prop} {px : SX → Prop} {B : S → State → Prop} {BX : String → SX → State → Prop} {AX : Nat → Prop} (hr : vx_Run p l e R s m args below meth c H locs cells slots mc ms (F0 m pc ls st0) rest (va_Qf post B A1 a) (vx_X px BX AX) free) (hS : va_S A0 H0 H locs) (hA : ∀ q, q < H.size → A1 q → A0 q) (hf : ∀ q, free q → A0 q) (hAX : ∀ q, q < H.size → AX q → A0 q)
    (kx : ∀ (E : String) (ce : Cell) (q9 : Addr) (u : SX) (t : State) (H1 : Heap) (locs1 : List Loc), t.heap = H1 → s.vm.Alike t.vm → px u → BX E u t → H.size ≤ H1.size → (∀ q : Nat, q < H.size → ¬ AX q → H1[q]? = H[q]?) → va_S A0 H0 H1 locs1 → H1[q9]? = some ce → ce.vm = .none → s.vm.findClass E = some ce.cls → vx_W p l e R s m args below meth c H1 locs1 (cells + mc) (slots + ms) Q (F0 m pc ls rest) q9)
    (kk : ∀ (r : UInt32) (u : S) (t : State) (H1 : Heap) (locs1 : List Loc), t.heap = H1 → s.vm.Alike t.vm → post r u → B u t → H.size ≤ H1.size → (∀ q : Nat, q < H.size → ¬ A1 q → H1[q]? = H[q]?) → va_S A0 H0 H1 locs1 → W p l e R s m args below meth c H1 locs1 (cells + mc) (slots + ms) Q (F0 m (pc + 3) ls (.float r :: rest))) : W p l e R s m args below meth c H locs cells slots Q (F0 m pc ls st0) := by
  intro T hT X
  rcases hr T hT X with ⟨v, st₀, t, T', L, h0, X', hL, e1, e2, ⟨⟨r, u, hv, hp, hb⟩, hF⟩, st⟩ | ⟨q, st₀, t, T', L, E, ce, h0, X', hL, e1, e2, ⟨u, hp, hb, hF⟩, hce, hcv, hcl, st⟩
  · cases hv
    obtain ⟨k1, k2, k3⟩ := vx_keep h0 e1 hS hA hf hL hF
    obtain ⟨t2, a1, b1⟩ := kk r u t T'.heap (locs ++ L) e1.symm (by rw [← e2]; exact X'.warmed.alike) hp hb k1 k2 k3 T' rfl X'
    exact ⟨t2, st t2 a1, b1⟩
  · obtain ⟨k1, k2, k3⟩ := vx_keep h0 e1 hS hAX hf hL hF
    obtain ⟨t2, a1, b1⟩ := kx E ce q u t T'.heap (locs ++ L) e1.symm (by rw [← e2]; exact X'.warmed.alike) hp hb k1 k2 k3 (by rw [e1]; exact hce) hcv hcl T' rfl X'
    exact ⟨t2, st.trans a1, b1⟩
theorem vx_calld {S SX : Type} {post : UInt64 → S → Prop} {px : SX → Prop} {B : S → State → Prop} {BX : String → SX → State → Prop} {AX : Nat → Prop} (hr : vx_Run p l e R s m args below meth c H locs cells slots mc ms (F0 m pc ls st0) rest (va_Qd post B A1 a) (vx_X px BX AX) free) (hS : va_S A0 H0 H locs) (hA : ∀ q, q < H.size → A1 q → A0 q) (hf : ∀ q, free q → A0 q) (hAX : ∀ q, q < H.size → AX q → A0 q)
    (kx : ∀ (E : String) (ce : Cell) (q9 : Addr) (u : SX) (t : State) (H1 : Heap) (locs1 : List Loc), t.heap = H1 → s.vm.Alike t.vm → px u → BX E u t → H.size ≤ H1.size → (∀ q : Nat, q < H.size → ¬ AX q → H1[q]? = H[q]?) → va_S A0 H0 H1 locs1 → H1[q9]? = some ce → ce.vm = .none → s.vm.findClass E = some ce.cls → vx_W p l e R s m args below meth c H1 locs1 (cells + mc) (slots + ms) Q (F0 m pc ls rest) q9)
    (kk : ∀ (r : UInt64) (u : S) (t : State) (H1 : Heap) (locs1 : List Loc), t.heap = H1 → s.vm.Alike t.vm → post r u → B u t → H.size ≤ H1.size → (∀ q : Nat, q < H.size → ¬ A1 q → H1[q]? = H[q]?) → va_S A0 H0 H1 locs1 → W p l e R s m args below meth c H1 locs1 (cells + mc) (slots + ms) Q (F0 m (pc + 3) ls (.double r :: rest))) : W p l e R s m args below meth c H locs cells slots Q (F0 m pc ls st0) := by
  intro T hT X
  rcases hr T hT X with ⟨v, st₀, t, T', L, h0, X', hL, e1, e2, ⟨⟨r, u, hv, hp, hb⟩, hF⟩, st⟩ | ⟨q, st₀, t, T', L, E, ce, h0, X', hL, e1, e2, ⟨u, hp, hb, hF⟩, hce, hcv, hcl, st⟩
  · cases hv
    obtain ⟨k1, k2, k3⟩ := vx_keep h0 e1 hS hA hf hL hF
    obtain ⟨t2, a1, b1⟩ := kk r u t T'.heap (locs ++ L) e1.symm (by rw [← e2]; exact X'.warmed.alike) hp hb k1 k2 k3 T' rfl X'
    exact ⟨t2, st t2 a1, b1⟩
  · obtain ⟨k1, k2, k3⟩ := vx_keep h0 e1 hS hAX hf hL hF
    obtain ⟨t2, a1, b1⟩ := kx E ce q u t T'.heap (locs ++ L) e1.symm (by rw [← e2]; exact X'.warmed.alike) hp hb k1 k2 k3 (by rw [e1]; exact hce) hcv hcl T' rfl X'
    exact ⟨t2, st.trans a1, b1⟩
theorem vx_callv {S SX : Type} {post : S → Prop} {px : SX → Prop} {B : S → State → Prop} {BX : String → SX → State → Prop} {AX : Nat → Prop} (hr : vx_Run p l e R s m args below meth c H locs cells slots mc ms (F0 m pc ls st0) rest (va_Qv post B A1 a) (vx_X px BX AX) free) (hS : va_S A0 H0 H locs) (hA : ∀ q, q < H.size → A1 q → A0 q) (hf : ∀ q, free q → A0 q) (hAX : ∀ q, q < H.size → AX q → A0 q)
    (kx : ∀ (E : String) (ce : Cell) (q9 : Addr) (u : SX) (t : State) (H1 : Heap) (locs1 : List Loc), t.heap = H1 → s.vm.Alike t.vm → px u → BX E u t → H.size ≤ H1.size → (∀ q : Nat, q < H.size → ¬ AX q → H1[q]? = H[q]?) → va_S A0 H0 H1 locs1 → H1[q9]? = some ce → ce.vm = .none → s.vm.findClass E = some ce.cls → vx_W p l e R s m args below meth c H1 locs1 (cells + mc) (slots + ms) Q (F0 m pc ls rest) q9)
    (kk : ∀ (u : S) (t : State) (H1 : Heap) (locs1 : List Loc), t.heap = H1 → s.vm.Alike t.vm → post u → B u t → H.size ≤ H1.size → (∀ q : Nat, q < H.size → ¬ A1 q → H1[q]? = H[q]?) → va_S A0 H0 H1 locs1 → W p l e R s m args below meth c H1 locs1 (cells + mc) (slots + ms) Q (F0 m (pc + 3) ls (rest))) : W p l e R s m args below meth c H locs cells slots Q (F0 m pc ls st0) := by
  intro T hT X
  rcases hr T hT X with ⟨v, st₀, t, T', L, h0, X', hL, e1, e2, ⟨⟨u, hv, hp, hb⟩, hF⟩, st⟩ | ⟨q, st₀, t, T', L, E, ce, h0, X', hL, e1, e2, ⟨u, hp, hb, hF⟩, hce, hcv, hcl, st⟩
  · cases hv
    obtain ⟨k1, k2, k3⟩ := vx_keep h0 e1 hS hA hf hL hF
    obtain ⟨t2, a1, b1⟩ := kk u t T'.heap (locs ++ L) e1.symm (by rw [← e2]; exact X'.warmed.alike) hp hb k1 k2 k3 T' rfl X'
    exact ⟨t2, st t2 a1, b1⟩
  · obtain ⟨k1, k2, k3⟩ := vx_keep h0 e1 hS hAX hf hL hF
    obtain ⟨t2, a1, b1⟩ := kx E ce q u t T'.heap (locs ++ L) e1.symm (by rw [← e2]; exact X'.warmed.alike) hp hb k1 k2 k3 (by rw [e1]; exact hce) hcv hcl T' rfl X'
    exact ⟨t2, st.trans a1, b1⟩
/-- caught by the row x of this method's table; the rows ahead don't take it -/
theorem vx_catch {own name : String} {E : String} {ce : Cell} {q : Addr} (hown : s.vm.findClass own = some m.cls) (pre : List ExceptionTableEntry) (x : ExceptionTableEntry) (suf : List ExceptionTableEntry) (hsplit : c.exceptionTable.toList = pre ++ x :: suf)
    (hpass : ∀ z ∈ pre, covers z pc = false ∨ (z.catchType ≠ 0 ∧ ∃ nm : String, (Cond.classLink own z.catchType nm).before args s = true ∧ va_Nc E nm s)) (hx : covers x pc = true) (h0 : x.catchType ≠ 0)
    (hlink : (Cond.classLink own x.catchType name).before args s = true) (hcast : (Cond.castable E name).before args s = true) (hcell : H[q]? = some ce) (hv : ce.vm = .none) (hcl : s.vm.findClass E = some ce.cls)
    (kk : W p l e R s m args below meth c H locs cells slots Q (F0 m x.handlerPc ls [.ref q])) : vx_W p l e R s m args below meth c H locs cells slots Q (F0 m pc ls rest) q := by
  intro T hT X
  have hpl : e.platform.magicAccessors = ({} : Platform).magicAccessors := by rw [X.admits.platform]
  obtain ⟨c3, c4, hc3, hc4, hasg⟩ := Cond.castable_spec hcast
  cases Option.some.inj (hc3.symm.trans hcl)
  obtain ⟨c5, hc5, hcl5⟩ := Cond.classLink_spec hown hlink e.platform hpl
  cases Option.some.inj (hc4.symm.trans hc5)
  obtain ⟨vm', X', st⟩ := X.thenCaughtThrough q (g := F0 m pc ls rest) rfl (Steps.refl _) (by rw [hT]; exact hcell) (by rw [hv]; rfl) (by obtain ⟨k9, h9, -⟩ := Vm.findClass_spec hcl; exact ⟨k9, h9⟩) pre x suf hsplit
    (fun z hz => by
      rcases hpass z hz with h | ⟨hz0, nm, hl1, hn1⟩
      · exact Or.inl h
      · obtain ⟨c6, hc6, hcl6⟩ := Cond.classLink_spec hown hl1 e.platform hpl
        obtain ⟨a8, b8, h1, h2, h3⟩ := hn1
        cases Option.some.inj (h1.symm.trans hcl)
        cases Option.some.inj (h2.symm.trans hc6)
        exact Or.inr ⟨hz0, _, hcl6, h3⟩) hx (Or.inr ⟨h0, c4, hcl5, hasg⟩)
  obtain ⟨t, a1, b1⟩ := kk (T.setVm vm') hT X'
  exact ⟨t, st.trans a1, b1⟩
end Rows
section Ends
variable {p : Program} {l : Launch} {e : Env} {R : Room} {s : State} {m : MethodId} {args : Array Value} {below : List Frame} {meth : Method} {c : Code} {H : Heap} {locs : List Loc} {cells slots : Nat} {Q : State → Prop}
variable {mc ms : Nat} {free : Addr → Prop} {A0 A1 : Nat → Prop} {H0 : Heap} {a : Array Value} {ls : Array Slot} {st0 rest : List Value}
variable {Qc : Array Value → State → Outcome → State → Prop} {XC : String → State → State → Prop}
/-- what a body that may throw owes at its end -/
def vx_MQ (below : List Frame) (Qc : Array Value → State → Outcome → State → Prop) (XC : String → State → State → Prop) (a : Array Value) (s : State) (mc ms : Nat) (free : Addr → Prop) : State → Prop := fun t =>
  ∃ o, t.status = .running ∧ Ended t below o ∧ vx_Q Qc XC mc ms free a s o t
theorem vx_ret {g : JFrame} {mc ms : Nat} (k : W p l e R s m args below meth c H locs cells slots (MQ below Qc args s mc ms free) g) : W p l e R s m args below meth c H locs cells slots (vx_MQ below Qc XC args s mc ms free) g := by
  intro T hT X
  obtain ⟨t, a1, o, b1, b2, b3, b4⟩ := k T hT X
  exact ⟨t, a1, o, b1, b2, Or.inl ⟨b3, b4⟩⟩
/-- not caught here: it goes on to the caller -/
theorem vx_widen {g : JFrame} {q : Addr} {k n : Nat} (h1 : cells ≤ k) (h2 : slots ≤ n) (kk : vx_W p l e R s m args below meth c H locs k n Q g q) : vx_W p l e R s m args below meth c H locs cells slots Q g q := fun T hT X => kk T hT (stand_widen X h1 h2)
theorem vx_out {pc : Nat} {E : String} {ce : Cell} {q : Addr} {mc ms : Nat} (hout : ∀ x ∈ c.exceptionTable.toList, covers x pc = false) (hlocks : meth.locks = false) (hcell : H[q]? = some ce) (hv : ce.vm = .none) (hcl : s.vm.findClass E = some ce.cls)
    (hx : ∀ t : State, t.heap = H → s.vm.Alike t.vm → XC E s t) (hf : ∀ z ∈ locs, free z.base) (hc : cells ≤ mc) (hs : slots ≤ ms) :
    vx_W p l e R s m args below meth c H locs cells slots (vx_MQ below Qc XC args s mc ms free) (F0 m pc ls rest) q := by
  intro T hT X
  obtain ⟨st1, hrun, hend, hW, hsm⟩ := X.leaveThrown q (g := F0 m pc ls rest) rfl rfl rfl hout hlocks
  have hcell9 : (T.setFrames (.throwing q :: below)).heap[q]? = some ce := by
    show T.heap[q]? = some ce
    rw [hT]; exact hcell
  exact ⟨_, st1, .threw q, hrun, hend, Or.inr ⟨q, rfl, E, ce, locs, hx _ hT hW.alike, hcell9, hv, hcl, hW, hsm.mono hc hs, hf⟩⟩
theorem vx_frame {U : State} {k n : Nat} (h : s.sameButNew ({ U with vm := s.vm } : State) locs k n) : s.heap.size ≤ U.heap.size ∧ ∀ q : Nat, q < s.heap.size → (∀ z ∈ locs, z.base ≠ q) → U.heap[q]? = s.heap[q]? := by
  obtain ⟨-, h2, -, -, -, h6⟩ := h
  refine ⟨h2, fun q hq hz => ?_⟩
  obtain ⟨c9, e1, e2, e3, e4⟩ := h6 q _ (Array.getElem?_eq_getElem hq)
  have hs : c9.slots = (s.heap[q]).slots := Array.ext_getElem? fun i => e4 i fun hm => hz _ hm rfl
  have h9 : c9 = s.heap[q] := by
    rw [hs] at e2
    exact e2
  have e5 : U.heap[q]? = some c9 := e1
  rw [e5, h9, Array.getElem?_eq_getElem hq]
/-- the words of a throw but the four that speak of the heap -/
def vx_no (w : Cond) : Bool := decide (w ≠ .isRef (.static Bundle.tN "UNASSIGNED_STACK" Bundle.steD)) && decide (w ≠ .isRef (.static Bundle.tN "SUPPRESSED_SENTINEL" Bundle.listD)) && decide (w ≠ .laysStatic Bundle.tN "UNASSIGNED_STACK" Bundle.steD) && decide (w ≠ .laysStatic Bundle.tN "SUPPRESSED_SENTINEL" Bundle.listD)
def vx_at0 (own : String) (ic : Nat) (X : String) (names : List String) : List Cond := (Bundle.ownAtoms0 own ic X names).filter vx_no
def vx_atS (own : String) (ic : Nat) (X : String) (names : List String) : List Cond := (Bundle.ownAtoms own ic X names).filter vx_no
/-- a word that the tables alone decide, or a good one -/
def vx_ot (w : Cond) : Bool := w.onTables || goodWord w
theorem vx_ot_at {args a' : Array Value} {s U : State} {w : Cond} (hW : s.WarmedH U.vm) (hvm : s.vm = U.vm) (hg : vx_ot w = true) (h : w.before args s = true) : w.before a' U = true := by
  simp only [vx_ot, Bool.or_eq_true] at hg
  rcases hg with hg | hg
  · exact va_tabs hg hvm h
  · exact word_at hW (good_of_word hg) h
/-- a list's words: the good ones out of the method's own list, the others by premises of their own -/
theorem vx_hat {args : Array Value} {s : State} {L B : List Cond} (h1 : ∀ w ∈ L.filter goodWord, w.before args s = true) (h2 : ∀ w ∈ L.filter (fun w => !goodWord w), w ∈ B) (h3 : ∀ w ∈ B, w.before args s = true) : ∀ w ∈ L, w.before args s = true := by
  intro w hw
  by_cases g : goodWord w = true
  · exact h1 w (List.mem_filter.mpr ⟨hw, g⟩)
  · refine h3 w (h2 w (List.mem_filter.mpr ⟨hw, ?_⟩))
    show (!goodWord w) = true
    cases hgw : goodWord w
    · rfl
    · exact absurd hgw g
theorem vx_c {args : Array Value} {s : State} {w : Cond} {B : List Cond} (h : w.before args s = true) (t : ∀ w ∈ B, w.before args s = true) : ∀ w' ∈ w :: B, w'.before args s = true := fun w' h' => (List.mem_cons.mp h').elim (fun e => by rw [e]; exact h) (t w')
theorem vx_n {args : Array Value} {s : State} : ∀ w ∈ ([] : List Cond), w.before args s = true := fun _ h => nomatch h
theorem vx_own {args : Array Value} {s : State} {L : List Cond} (h1 : ∀ w ∈ L.filter vx_no, w.before args s = true)
    (hU : (Cond.isRef (.static Bundle.tN "UNASSIGNED_STACK" Bundle.steD)).before args s = true) (hN : (Cond.isRef (.static Bundle.tN "SUPPRESSED_SENTINEL" Bundle.listD)).before args s = true)
    (lU : (Cond.laysStatic Bundle.tN "UNASSIGNED_STACK" Bundle.steD).before args s = true) (lN : (Cond.laysStatic Bundle.tN "SUPPRESSED_SENTINEL" Bundle.listD).before args s = true) : ∀ w ∈ L, w.before args s = true := by
  intro w hw
  by_cases e1 : w = .isRef (.static Bundle.tN "UNASSIGNED_STACK" Bundle.steD)
  · rw [e1]; exact hU
  · by_cases e2 : w = .isRef (.static Bundle.tN "SUPPRESSED_SENTINEL" Bundle.listD)
    · rw [e2]; exact hN
    · by_cases e3 : w = .laysStatic Bundle.tN "UNASSIGNED_STACK" Bundle.steD
      · rw [e3]; exact lU
      · by_cases e4 : w = .laysStatic Bundle.tN "SUPPRESSED_SENTINEL" Bundle.listD
        · rw [e4]; exact lN
        · exact h1 w (List.mem_filter.mpr ⟨hw, by unfold vx_no; rw [decide_eq_true e1, decide_eq_true e2, decide_eq_true e3, decide_eq_true e4]; rfl⟩)
/-- where a static field lies, its class's statics cell in H -/
def vx_L (C n d : String) (A : Nat → Prop) (U : State) (H : Heap) : Prop := ∃ (c : ClassId) (k : Class) (i : Nat) (f : Field) (a : Nat) (cell : Cell), U.vm.findClass C = some c ∧ U.fieldFound? C n d = some (c, k, i, f) ∧ f.isStatic = true ∧ k.statics = some a ∧ H[a]? = some cell ∧ cell.vm.isStatics = true ∧ cell.cls = c ∧ f.slot < cell.slots.size ∧ k.staticTypes[f.slot]? = some f.type ∧ ¬ A a
theorem vx_L.moved {C n d : String} {A : Nat → Prop} {u U : State} {H : Heap} (hvm : u.vm.Alike U.vm) (h : vx_L C n d A u H) : vx_L C n d A U H := by
  obtain ⟨c, k, i, f, a, cell, h1, h2, h3, h4, h5, h6, h7, h8, h9, h10⟩ := h
  obtain ⟨k', hi', he⟩ := State.fieldFound?_setVm hvm h2
  exact ⟨c, k', i, f, a, cell, by rw [hvm.findClass]; exact h1, hi', h3, by rw [he]; exact h4, h5, h6, h7, h8, by rw [he]; exact h9, h10⟩
theorem vx_L.kept {C n d : String} {A : Nat → Prop} {U : State} {H H1 : Heap} (h : vx_L C n d A U H) (hq : ∀ a : Nat, a < H.size → ¬ A a → H1[a]? = H[a]?) : vx_L C n d A U H1 := by
  obtain ⟨c, k, i, f, a, cell, h1, h2, h3, h4, h5, h6, h7, h8, h9, h10⟩ := h
  exact ⟨c, k, i, f, a, cell, h1, h2, h3, h4, by rw [hq a (Array.getElem?_eq_some_iff.mp h5).1 h10]; exact h5, h6, h7, h8, h9, h10⟩
theorem vx_L.narrow {C n d : String} {A B : Nat → Prop} {U : State} {H : Heap} (h : vx_L C n d A U H) (hAB : ∀ q, B q → A q) : vx_L C n d B U H := by
  obtain ⟨c, k, i, f, a, cell, h1, h2, h3, h4, h5, h6, h7, h8, h9, h10⟩ := h
  exact ⟨c, k, i, f, a, cell, h1, h2, h3, h4, h5, h6, h7, h8, h9, fun z => h10 (hAB _ z)⟩
theorem vx_L.word {C n d : String} {A : Nat → Prop} {s : State} {args : Array Value} (h : vx_L C n d A s s.heap) : (Cond.laysStatic C n d).before args s = true := by
  obtain ⟨c, k, i, f, a, cell, h1, h2, h3, h4, h5, h6, h7, h8, h9, -⟩ := h
  show (Cond.laysStatic C n d).holds args s none s [] = true
  exact Cond.laysStatic_of h1 h2 h3 h4 h5 h6 h7 h8 h9
/-- .. and what it holds: null or some reference -/
def vx_Zq (C n d : String) (A : Nat → Prop) (U : State) (H : Heap) : Prop := va_Zq C n d A U H ∧ vx_L C n d A U H
theorem vx_Zq.moved {C n d : String} {A : Nat → Prop} {u U : State} {H : Heap} (hvm : u.vm.Alike U.vm) (h : vx_Zq C n d A u H) : vx_Zq C n d A U H := ⟨va_Zq.moved hvm h.1, vx_L.moved hvm h.2⟩
theorem vx_Zq.kept {C n d : String} {A : Nat → Prop} {U : State} {H H1 : Heap} (h : vx_Zq C n d A U H) (hq : ∀ a : Nat, a < H.size → ¬ A a → H1[a]? = H[a]?) : vx_Zq C n d A U H1 := ⟨va_Zq.kept h.1 hq, vx_L.kept h.2 hq⟩
theorem vx_Zq.narrow {C n d : String} {A B : Nat → Prop} {U : State} {H : Heap} (h : vx_Zq C n d A U H) (hAB : ∀ q, B q → A q) : vx_Zq C n d B U H := ⟨va_Zq.narrow h.1 hAB, vx_L.narrow h.2 hAB⟩
theorem vx_Zqof {args : Array Value} {s : State} {C n d : String} {A : Nat → Prop} (hl : (Cond.laysStatic C n d).before args s = true) (hini : (Cond.initialized C).before args s = true) (h : (Cond.isRef (.static C n d)).before args s = true) (hA : ∀ a : Nat, a < s.heap.size → ¬ A a) : vx_Zq C n d A s s.heap := by
  refine ⟨va_Zqof hl hini h hA, ?_⟩
  obtain ⟨c, k, i, f, a, cell, h1, h2, h3, h4, h5, h6, h7, h8, h9⟩ := Cond.laysStatic_spec hl
  exact ⟨c, k, i, f, a, cell, h1, h2, h3, h4, h5, h6, h7, h8, h9, hA a (Array.getElem?_eq_some_iff.mp h5).1⟩
theorem vx_isRef {C n d : String} {v : Value} {A : Nat → Prop} {s : State} {args : Array Value} (h : va_Z C n d v A s s.heap) (hv : v.isRef = true) : (Cond.isRef (.static C n d)).before args s = true := by
  obtain ⟨cf, kf, fi, f, a, cell, h1, h2, h3, h4, h5, h6, h7, -⟩ := h
  have he : (Term.static C n d).eval args s none [] s = some v := by
    simp [Term.eval, State.fieldNamed?, h1, h2, h4, h5, h6, h7]
  simp only [Cond.before, Cond.holds, Cond.value, he]
  cases v <;> simp_all [Value.isRef]
theorem vx_isRefq {C n d : String} {A : Nat → Prop} {s : State} {args : Array Value} (h : va_Zq C n d A s s.heap) : (Cond.isRef (.static C n d)).before args s = true := by
  rcases h with h | ⟨t, h⟩
  · exact vx_isRef h rfl
  · exact vx_isRef h rfl
/-- the same frame, seen from here: as if the method were called anew in this heap -/
theorem vx_rebase {T : State} (X : Stand p l e R s m args below meth c T locs cells slots) {R' : Room} (hf : R'.frames ≤ R.frames) (hl : R'.locals ≤ R.locals) (hc : cells + R'.cells ≤ R.cells) (hs : slots + R'.slots ≤ R.slots) :
    Stand p l e R' ((T.setVm s.vm).setFrames (.invoking m args :: below)) m args below meth c T [] 0 0 := by
  have htop : (T.setVm s.vm).topJava?.isSome := X.here.top
  have hF : ((T.setVm s.vm).setFrames (.invoking m args :: below)).frames = .invoking m args :: below := State.frames_setFrames _ (State.cur_lt_of_top htop)
  obtain ⟨g₀, hg0⟩ := Option.isSome_iff_exists.mp htop
  obtain ⟨r, hr⟩ := State.topJava?_eq_some.mp hg0
  have hl9 : e.platform.stackLimits (T.setVm s.vm).me = e.platform.stackLimits s.me := X.limits
  have hb9 : (T.setVm s.vm).me.stackBytes = s.me.stackBytes := X.bytes
  refine ⟨X.admits, X.cas, X.clock, hF, ?_, X.hears, X.method, X.code, X.here, X.tail, X.warmed, ?_, ?_, ?_⟩
  · have h := X.room
    have hU : ((T.setVm s.vm).setFrames (.invoking m args :: below)).localsInUse = s.localsInUse := by
      rw [State.localsInUse_invoking hF (meth := meth) (c := c) X.method X.code, State.localsInUse_invoking X.frames X.method X.code]
    simp only [State.hasRoom, Bool.and_eq_true, decide_eq_true_eq] at h ⊢
    obtain ⟨⟨⟨⟨h1, h2, h3, h4, h5, h6⟩, h7⟩, h8⟩, h9⟩ := h
    rw [X.frames, List.length_cons] at h2 h3
    have q1 := X.heapSize
    have q2 := X.used
    simp only [hF, hU, List.length_cons, State.stackLimits_setFrames, State.stackBytes_setFrames, hl9, hb9]
    refine ⟨⟨⟨⟨by omega, by omega, by omega, by omega, by omega, h6⟩, ?_⟩, ?_⟩, X.book⟩
    · show T.heap.size + R'.cells ≤ e.platform.maxCells
      omega
    · show T.slotsUsed + R'.slots ≤ e.platform.maxSlots
      omega
  · rw [State.stackLimits_setFrames]; rfl
  · rw [State.stackBytes_setFrames]; rfl
  · refine ⟨?_, Nat.le_refl _, Nat.le_refl _, ?_, ?_, fun a c9 h9 => ⟨c9, h9, rfl, rfl, fun _ _ => rfl⟩⟩
    · obtain ⟨t, ht, -⟩ := State.frames_cons hr
      show T.setVm s.vm = { ((T.setVm s.vm).setFrames (.invoking m args :: below)).setFrames (T.setVm s.vm).frames with heap := T.heap, slotsUsed := T.slotsUsed }
      rw [State.setFrames_setFrames, State.setFrames_self ht]
      rfl
    · show T.slotsUsed = T.slotsUsed + ((T.heap.toList.drop T.heap.size).map (·.slots.size)).sum
      rw [List.drop_eq_nil_of_le (Nat.le_of_eq Array.length_toList)]
      rfl
    · show ((T.heap.toList.drop T.heap.size).map (·.slots.size)).sum ≤ 0
      rw [List.drop_eq_nil_of_le (Nat.le_of_eq Array.length_toList)]
      exact Nat.le_refl _
/-- 'throw new E()': new; dup; invokespecial; athrow -/
theorem vx_throw0 {cc : ByteArray} {pc : Nat} (hexec : p.tables.exec = Jvm.exec) (hb : c.code = cc) (hl : l.stackTraces = false) {own cls : String} {names : List String} {ik ic mc ms : Nat} {A : Nat → Prop}
    (hown : s.vm.findClass own = some m.cls) (hcls : Bundle.fit cls = true) (hnames : ∀ n ∈ names, Bundle.fit n = true)
    (hk : (Cond.classLink own ik cls).before args s = true) (hini : (Cond.initialized cls).before args s = true) (hat : ∀ w ∈ vx_at0 own ic cls names, w.before args s = true)
    (hgood : ∀ w ∈ Cond.classLink own ik cls :: Cond.initialized cls :: vx_at0 own ic cls names, vx_ot w = true)
    (hU : vx_Zq Bundle.tN "UNASSIGNED_STACK" Bundle.steD A s s.heap) (hN : vx_Zq Bundle.tN "SUPPRESSED_SENTINEL" Bundle.listD A s s.heap) (hS : va_S A s.heap H locs) (hsize : ls.size = c.maxLocals)
    (d0 : decode cc pc = .ok (.new ik, 3)) (d3 : decode cc (pc + 3) = .ok (.dup, 1)) (d4 : decode cc (pc + 4) = .ok (.invokespecial ic, 3)) (d7 : decode cc (pc + 7) = .ok (.athrow, 1))
    (hout : ∀ x ∈ c.exceptionTable.toList, covers x (pc + 7) = false)
    (hRframes : names.length + 3 < R.frames) (hRlocals : (rest.map fun v => v.category).sum + (13 * (names.length + 1) + 42) ≤ R.locals) (hRcells : cells + 1 ≤ R.cells) (hRslots : slots + 6 ≤ R.slots) (hlocks : meth.locks = false)
    (hx : ∀ t : State, s.vm.Alike t.vm → H.size ≤ t.heap.size → (∀ q : Nat, q < H.size → t.heap[q]? = H[q]?) → XC cls s t)
    (hf : ∀ z ∈ locs, free z.base) (hc : cells + 1 ≤ mc) (hs : slots + 6 ≤ ms) :
    W p l e R s m args below meth c H locs cells slots (vx_MQ below Qc XC args s mc ms free) (F0 m pc ls rest) := by
  intro T hT X
  have htr : e.platform.stackTraces = false := (show e.platform.stackTraces = l.stackTraces by rw [X.admits.platform]).trans hl
  have Y := vx_rebase X (R' := { frames := R.frames, locals := R.locals, cells := 1, slots := 6 }) (Nat.le_refl _) (Nat.le_refl _) hRcells hRslots
  obtain ⟨s', hA⟩ : ∃ z, z = (T.setVm s.vm).setFrames (.invoking m args :: below) := ⟨_, rfl⟩
  rw [← hA] at Y
  have hvm : s'.vm = s.vm := by rw [hA]; rfl
  have hhp : s'.heap = H := by rw [hA]; exact hT
  have hW0 : s.WarmedH s'.vm := by rw [hvm]; exact State.WarmedH.refl s
  have hat' : ∀ w ∈ vx_at0 own ic cls names, w.before args s' = true := fun w hw => vx_ot_at hW0 hvm.symm (hgood w (List.mem_cons_of_mem _ (List.mem_cons_of_mem _ hw))) (hat w hw)
  have hk' : (Cond.classLink own ik cls).before args s' = true := vx_ot_at hW0 hvm.symm (hgood _ List.mem_cons_self) hk
  have hini' : (Cond.initialized cls).before args s' = true := vx_ot_at hW0 hvm.symm (hgood _ (List.mem_cons_of_mem _ List.mem_cons_self)) hini
  have hU' : vx_Zq Bundle.tN "UNASSIGNED_STACK" Bundle.steD A s' s'.heap := by rw [hhp]; exact vx_Zq.moved hW0.alike (hU.kept hS.2.1)
  have hN' : vx_Zq Bundle.tN "SUPPRESSED_SENTINEL" Bundle.listD A s' s'.heap := by rw [hhp]; exact vx_Zq.moved hW0.alike (hN.kept hS.2.1)
  have h : ∀ w ∈ Bundle.ownAtoms0 own ic cls names, w.before args s' = true := vx_own hat' (vx_isRefq hU'.1) (vx_isRefq hN'.1) hU'.2.word hN'.2.word
  have hown' : s'.vm.findClass own = some m.cls := by rw [hvm]; exact hown
  have hins : (Cond.instantiable cls 6).before args s' = true := h _ (by simp [Bundle.ownAtoms0])
  obtain ⟨vm₁, cX, kX, hfX, hkX, -, -, X₁, st1⟩ := Y.newCold hexec (own := own) (C := cls) (index := ik) (n := 6) hown' hk' hins hini'
    (g := F0 m pc ls rest) rfl (by rw [hb]; exact d0) (Nat.le_refl _) (Nat.le_refl _)
  generalize hT1 : (T.setVm vm₁).pushCell { cls := cX, slots := kX.instanceTypes.map defaultValue, vm := .none } = T1 at X₁ st1
  have hcat : (Value.ref T.heap.size).category = 1 := rfl
  have hcellA : T1.heap[T.heap.size]? = some (freshCell cX kX) := by rw [← hT1]; exact State.heap_pushCell_size _ _
  have d3' : decode c.code (pc + 3) = .ok (.dup, 1) := by rw [hb]; exact d3
  obtain ⟨U, hsteps, hrun, hend, hW, hsame, ce, hce, hO⟩ := X₁.ctorThrow0 hexec htr (own := own) (cls := cls) (names := names) (ic := ic) hown' hcls hnames h (fun x hx => nomatch hx) hfX hkX hcellA (by rw [hhp, hT]; exact Nat.le_refl _)
    (g := { method := m, pc := pc + 4, locals := ls, stack := .ref T.heap.size :: .ref T.heap.size :: rest, locked := none }) rfl hsize rfl rfl (rest := rest) rfl
    (by rw [hb]; exact d4) (by rw [hb]; exact d7) hout hRframes (by simp only [List.map_cons, List.sum_cons, hcat]; omega) hlocks
  obtain ⟨f1, f2⟩ := vx_frame hsame
  rw [hhp] at f1 f2
  have hWs : s.WarmedH U.vm := State.WarmedH.trans hW0 hW
  have hcl : s.vm.findClass cls = some ce.cls := by
    have h9 := hO.cls
    rw [hvm] at h9
    exact h9
  have hall : s.sameButNew ({ U with vm := s.vm } : State) locs mc ms := by
    subst hA
    obtain ⟨e1, e2⟩ := hsame
    rw [State.setFrames_setFrames] at e1
    have h2 : (T.setVm s.vm).sameButNew ({ U with vm := s.vm } : State) [] (0 + 1) (0 + 6) := ⟨e1, e2⟩
    have h3 := X.same.trans h2
    rw [List.append_nil] at h3
    exact h3.mono hc hs
  refine ⟨U, ?_, .threw T.heap.size, hrun, hend, Or.inr ⟨T.heap.size, rfl, cls, ce, locs, hx U hWs.alike f1 (fun q hq => f2 q hq (fun z hz => nomatch hz)), hce, hO.vm, hcl, hWs, hall, hf⟩⟩
  refine st1 _ ?_
  show Steps p.tables e below (T1.setTop { method := m, pc := pc + 3, locals := ls, stack := .ref T.heap.size :: rest, locked := none }) _
  jvm_step X₁.here [X₁.here.top, hexec, d3', Value.category]
  exact hsteps
/-- 'throw new E("text")': new; dup; ldc; invokespecial; athrow -/
theorem vx_throwS {cc : ByteArray} {pc : Nat} (hexec : p.tables.exec = Jvm.exec) (hb : c.code = cc) (hl : l.stackTraces = false) {own cls text : String} {names : List String} {ik is ic mc ms sa : Nat} {A : Nat → Prop}
    (hown : s.vm.findClass own = some m.cls) (hcls : Bundle.fit cls = true) (hnames : ∀ n ∈ names, Bundle.fit n = true)
    (hk : (Cond.classLink own ik cls).before args s = true) (hini : (Cond.initialized cls).before args s = true) (hstr : vk_R own is text sa s) (hat : ∀ w ∈ vx_atS own ic cls names, w.before args s = true)
    (hgood : ∀ w ∈ Cond.classLink own ik cls :: Cond.initialized cls :: vx_atS own ic cls names, vx_ot w = true)
    (hU : vx_Zq Bundle.tN "UNASSIGNED_STACK" Bundle.steD A s s.heap) (hN : vx_Zq Bundle.tN "SUPPRESSED_SENTINEL" Bundle.listD A s s.heap) (hS : va_S A s.heap H locs) (hsize : ls.size = c.maxLocals)
    (d0 : decode cc pc = .ok (.new ik, 3)) (d3 : decode cc (pc + 3) = .ok (.dup, 1)) (d4 : decode cc (pc + 4) = .ok (.ldc is, 2)) (d6 : decode cc (pc + 6) = .ok (.invokespecial ic, 3)) (d9 : decode cc (pc + 9) = .ok (.athrow, 1))
    (hout : ∀ x ∈ c.exceptionTable.toList, covers x (pc + 9) = false)
    (hRframes : names.length + 3 < R.frames) (hRlocals : (rest.map fun v => v.category).sum + (13 * (names.length + 1) + 43) ≤ R.locals) (hRcells : cells + 1 ≤ R.cells) (hRslots : slots + 6 ≤ R.slots) (hlocks : meth.locks = false)
    (hx : ∀ t : State, s.vm.Alike t.vm → H.size ≤ t.heap.size → (∀ q : Nat, q < H.size → t.heap[q]? = H[q]?) → XC cls s t)
    (hf : ∀ z ∈ locs, free z.base) (hc : cells + 1 ≤ mc) (hs : slots + 6 ≤ ms) :
    W p l e R s m args below meth c H locs cells slots (vx_MQ below Qc XC args s mc ms free) (F0 m pc ls rest) := by
  intro T hT X
  have htr : e.platform.stackTraces = false := (show e.platform.stackTraces = l.stackTraces by rw [X.admits.platform]).trans hl
  have Y := vx_rebase X (R' := { frames := R.frames, locals := R.locals, cells := 1, slots := 6 }) (Nat.le_refl _) (Nat.le_refl _) hRcells hRslots
  obtain ⟨s', hA⟩ : ∃ z, z = (T.setVm s.vm).setFrames (.invoking m args :: below) := ⟨_, rfl⟩
  rw [← hA] at Y
  have hvm : s'.vm = s.vm := by rw [hA]; rfl
  have hhp : s'.heap = H := by rw [hA]; exact hT
  have hW0 : s.WarmedH s'.vm := by rw [hvm]; exact State.WarmedH.refl s
  have hat' : ∀ w ∈ vx_atS own ic cls names, w.before args s' = true := fun w hw => vx_ot_at hW0 hvm.symm (hgood w (List.mem_cons_of_mem _ (List.mem_cons_of_mem _ hw))) (hat w hw)
  have hk' : (Cond.classLink own ik cls).before args s' = true := vx_ot_at hW0 hvm.symm (hgood _ List.mem_cons_self) hk
  have hini' : (Cond.initialized cls).before args s' = true := vx_ot_at hW0 hvm.symm (hgood _ (List.mem_cons_of_mem _ List.mem_cons_self)) hini
  have hU' : vx_Zq Bundle.tN "UNASSIGNED_STACK" Bundle.steD A s' s'.heap := by rw [hhp]; exact vx_Zq.moved hW0.alike (hU.kept hS.2.1)
  have hN' : vx_Zq Bundle.tN "SUPPRESSED_SENTINEL" Bundle.listD A s' s'.heap := by rw [hhp]; exact vx_Zq.moved hW0.alike (hN.kept hS.2.1)
  have h : ∀ w ∈ Bundle.ownAtoms own ic cls names, w.before args s' = true := vx_own hat' (vx_isRefq hU'.1) (vx_isRefq hN'.1) hU'.2.word hN'.2.word
  have hown' : s'.vm.findClass own = some m.cls := by rw [hvm]; exact hown
  have hins : (Cond.instantiable cls 6).before args s' = true := h _ (by simp [Bundle.ownAtoms])
  obtain ⟨vm₁, cX, kX, hfX, hkX, -, -, X₁, st1⟩ := Y.newCold hexec (own := own) (C := cls) (index := ik) (n := 6) hown' hk' hins hini'
    (g := F0 m pc ls rest) rfl (by rw [hb]; exact d0) (Nat.le_refl _) (Nat.le_refl _)
  generalize hT1 : (T.setVm vm₁).pushCell { cls := cX, slots := kX.instanceTypes.map defaultValue, vm := .none } = T1 at X₁ st1
  have hcat : (Value.ref T.heap.size).category = 1 := rfl
  have hcellA : T1.heap[T.heap.size]? = some (freshCell cX kX) := by rw [← hT1]; exact State.heap_pushCell_size _ _
  have d3' : decode c.code (pc + 3) = .ok (.dup, 1) := by rw [hb]; exact d3
  have d4' : decode c.code (pc + 4) = .ok (.ldc is, 2) := by rw [hb]; exact d4
  have hstr' : vk_R own is text sa s' := vk_R.warm hW0 hstr
  obtain ⟨U, hsteps, hrun, hend, hW, hsame, ce, hce, hO⟩ := X₁.ctorThrowS hexec htr (own := own) (cls := cls) (names := names) (ic := ic) hown' hcls hnames h (fun x hx => nomatch hx) hfX hkX hcellA (by rw [hhp, hT]; exact Nat.le_refl _) (msg := .ref sa) rfl
    (g := { method := m, pc := pc + 6, locals := ls, stack := .ref sa :: .ref T.heap.size :: .ref T.heap.size :: rest, locked := none }) rfl hsize rfl rfl (rest := rest) rfl
    (by rw [hb]; exact d6) (by rw [hb]; exact d9) hout hRframes (by simp only [List.map_cons, List.sum_cons, hcat]; omega) hlocks
  obtain ⟨f1, f2⟩ := vx_frame hsame
  rw [hhp] at f1 f2
  have hWs : s.WarmedH U.vm := State.WarmedH.trans hW0 hW
  have hcl : s.vm.findClass cls = some ce.cls := by
    have h9 := hO.cls
    rw [hvm] at h9
    exact h9
  have hall : s.sameButNew ({ U with vm := s.vm } : State) locs mc ms := by
    subst hA
    obtain ⟨e1, e2⟩ := hsame
    rw [State.setFrames_setFrames] at e1
    have h2 : (T.setVm s.vm).sameButNew ({ U with vm := s.vm } : State) [] (0 + 1) (0 + 6) := ⟨e1, e2⟩
    have h3 := X.same.trans h2
    rw [List.append_nil] at h3
    exact h3.mono hc hs
  refine ⟨U, ?_, .threw T.heap.size, hrun, hend, Or.inr ⟨T.heap.size, rfl, cls, ce, locs, hx U hWs.alike f1 (fun q hq => f2 q hq (fun z hz => nomatch hz)), hce, hO.vm, hcl, hWs, hall, hf⟩⟩
  refine st1 _ ?_
  show Steps p.tables e below (T1.setTop { method := m, pc := pc + 3, locals := ls, stack := .ref T.heap.size :: rest, locked := none }) _
  jvm_step X₁.here [X₁.here.top, hexec, d3', Value.category]
  exact X₁.ldcString hexec (own := own) (text := text) (index := is) (a := sa) hown' hstr'.1 hstr'.2
    (g := { method := m, pc := pc + 4, locals := ls, stack := .ref T.heap.size :: .ref T.heap.size :: rest, locked := none }) rfl d4' _ hsteps
/-- 'throw new E("text")', the text by a wide index -/
theorem vx_throwSW {cc : ByteArray} {pc : Nat} (hexec : p.tables.exec = Jvm.exec) (hb : c.code = cc) (hl : l.stackTraces = false) {own cls text : String} {names : List String} {ik is ic mc ms sa : Nat} {A : Nat → Prop}
    (hown : s.vm.findClass own = some m.cls) (hcls : Bundle.fit cls = true) (hnames : ∀ n ∈ names, Bundle.fit n = true)
    (hk : (Cond.classLink own ik cls).before args s = true) (hini : (Cond.initialized cls).before args s = true) (hstr : vk_R own is text sa s) (hat : ∀ w ∈ vx_atS own ic cls names, w.before args s = true)
    (hgood : ∀ w ∈ Cond.classLink own ik cls :: Cond.initialized cls :: vx_atS own ic cls names, vx_ot w = true)
    (hU : vx_Zq Bundle.tN "UNASSIGNED_STACK" Bundle.steD A s s.heap) (hN : vx_Zq Bundle.tN "SUPPRESSED_SENTINEL" Bundle.listD A s s.heap) (hS : va_S A s.heap H locs) (hsize : ls.size = c.maxLocals)
    (d0 : decode cc pc = .ok (.new ik, 3)) (d3 : decode cc (pc + 3) = .ok (.dup, 1)) (d4 : decode cc (pc + 4) = .ok (.ldc_w is, 3)) (d7 : decode cc (pc + 7) = .ok (.invokespecial ic, 3)) (d10 : decode cc (pc + 10) = .ok (.athrow, 1))
    (hout : ∀ x ∈ c.exceptionTable.toList, covers x (pc + 10) = false)
    (hRframes : names.length + 3 < R.frames) (hRlocals : (rest.map fun v => v.category).sum + (13 * (names.length + 1) + 43) ≤ R.locals) (hRcells : cells + 1 ≤ R.cells) (hRslots : slots + 6 ≤ R.slots) (hlocks : meth.locks = false)
    (hx : ∀ t : State, s.vm.Alike t.vm → H.size ≤ t.heap.size → (∀ q : Nat, q < H.size → t.heap[q]? = H[q]?) → XC cls s t)
    (hf : ∀ z ∈ locs, free z.base) (hc : cells + 1 ≤ mc) (hs : slots + 6 ≤ ms) :
    W p l e R s m args below meth c H locs cells slots (vx_MQ below Qc XC args s mc ms free) (F0 m pc ls rest) := by
  intro T hT X
  have htr : e.platform.stackTraces = false := (show e.platform.stackTraces = l.stackTraces by rw [X.admits.platform]).trans hl
  have Y := vx_rebase X (R' := { frames := R.frames, locals := R.locals, cells := 1, slots := 6 }) (Nat.le_refl _) (Nat.le_refl _) hRcells hRslots
  obtain ⟨s', hA⟩ : ∃ z, z = (T.setVm s.vm).setFrames (.invoking m args :: below) := ⟨_, rfl⟩
  rw [← hA] at Y
  have hvm : s'.vm = s.vm := by rw [hA]; rfl
  have hhp : s'.heap = H := by rw [hA]; exact hT
  have hW0 : s.WarmedH s'.vm := by rw [hvm]; exact State.WarmedH.refl s
  have hat' : ∀ w ∈ vx_atS own ic cls names, w.before args s' = true := fun w hw => vx_ot_at hW0 hvm.symm (hgood w (List.mem_cons_of_mem _ (List.mem_cons_of_mem _ hw))) (hat w hw)
  have hk' : (Cond.classLink own ik cls).before args s' = true := vx_ot_at hW0 hvm.symm (hgood _ List.mem_cons_self) hk
  have hini' : (Cond.initialized cls).before args s' = true := vx_ot_at hW0 hvm.symm (hgood _ (List.mem_cons_of_mem _ List.mem_cons_self)) hini
  have hU' : vx_Zq Bundle.tN "UNASSIGNED_STACK" Bundle.steD A s' s'.heap := by rw [hhp]; exact vx_Zq.moved hW0.alike (hU.kept hS.2.1)
  have hN' : vx_Zq Bundle.tN "SUPPRESSED_SENTINEL" Bundle.listD A s' s'.heap := by rw [hhp]; exact vx_Zq.moved hW0.alike (hN.kept hS.2.1)
  have h : ∀ w ∈ Bundle.ownAtoms own ic cls names, w.before args s' = true := vx_own hat' (vx_isRefq hU'.1) (vx_isRefq hN'.1) hU'.2.word hN'.2.word
  have hown' : s'.vm.findClass own = some m.cls := by rw [hvm]; exact hown
  have hins : (Cond.instantiable cls 6).before args s' = true := h _ (by simp [Bundle.ownAtoms])
  obtain ⟨vm₁, cX, kX, hfX, hkX, -, -, X₁, st1⟩ := Y.newCold hexec (own := own) (C := cls) (index := ik) (n := 6) hown' hk' hins hini'
    (g := F0 m pc ls rest) rfl (by rw [hb]; exact d0) (Nat.le_refl _) (Nat.le_refl _)
  generalize hT1 : (T.setVm vm₁).pushCell { cls := cX, slots := kX.instanceTypes.map defaultValue, vm := .none } = T1 at X₁ st1
  have hcat : (Value.ref T.heap.size).category = 1 := rfl
  have hcellA : T1.heap[T.heap.size]? = some (freshCell cX kX) := by rw [← hT1]; exact State.heap_pushCell_size _ _
  have d3' : decode c.code (pc + 3) = .ok (.dup, 1) := by rw [hb]; exact d3
  have d4' : decode c.code (pc + 4) = .ok (.ldc_w is, 3) := by rw [hb]; exact d4
  have hstr' : vk_R own is text sa s' := vk_R.warm hW0 hstr
  obtain ⟨U, hsteps, hrun, hend, hW, hsame, ce, hce, hO⟩ := X₁.ctorThrowS hexec htr (own := own) (cls := cls) (names := names) (ic := ic) hown' hcls hnames h (fun x hx => nomatch hx) hfX hkX hcellA (by rw [hhp, hT]; exact Nat.le_refl _) (msg := .ref sa) rfl
    (g := { method := m, pc := pc + 7, locals := ls, stack := .ref sa :: .ref T.heap.size :: .ref T.heap.size :: rest, locked := none }) rfl hsize rfl rfl (rest := rest) rfl
    (by rw [hb]; exact d7) (by rw [hb]; exact d10) hout hRframes (by simp only [List.map_cons, List.sum_cons, hcat]; omega) hlocks
  obtain ⟨f1, f2⟩ := vx_frame hsame
  rw [hhp] at f1 f2
  have hWs : s.WarmedH U.vm := State.WarmedH.trans hW0 hW
  have hcl : s.vm.findClass cls = some ce.cls := by
    have h9 := hO.cls
    rw [hvm] at h9
    exact h9
  have hall : s.sameButNew ({ U with vm := s.vm } : State) locs mc ms := by
    subst hA
    obtain ⟨e1, e2⟩ := hsame
    rw [State.setFrames_setFrames] at e1
    have h2 : (T.setVm s.vm).sameButNew ({ U with vm := s.vm } : State) [] (0 + 1) (0 + 6) := ⟨e1, e2⟩
    have h3 := X.same.trans h2
    rw [List.append_nil] at h3
    exact h3.mono hc hs
  refine ⟨U, ?_, .threw T.heap.size, hrun, hend, Or.inr ⟨T.heap.size, rfl, cls, ce, locs, hx U hWs.alike f1 (fun q hq => f2 q hq (fun z hz => nomatch hz)), hce, hO.vm, hcl, hWs, hall, hf⟩⟩
  refine st1 _ ?_
  show Steps p.tables e below (T1.setTop { method := m, pc := pc + 3, locals := ls, stack := .ref T.heap.size :: rest, locked := none }) _
  jvm_step X₁.here [X₁.here.top, hexec, d3', Value.category]
  exact X₁.ldcStringW hexec (own := own) (text := text) (index := is) (a := sa) hown' hstr'.1 hstr'.2
    (g := { method := m, pc := pc + 4, locals := ls, stack := .ref T.heap.size :: .ref T.heap.size :: rest, locked := none }) rfl d4' _ hsteps
end Ends
section Bodies
variable {l : Launch}
theorem vx_ofW {y : MethodName} {ws ws' : List Cond} {rm : Room} {Pc : Array Value → State → Prop} {Qc : Array Value → State → Outcome → State → Prop} {XC : String → State → State → Prop} {mc ms : Nat} {free : Addr → Prop} {cc : ByteArray} {maxL : Nat} {ret : Option FieldType}
    (hy : plainName y.cls = true) (hw : ws = Cond.code y cc maxL ret :: ws')
    (body : ∀ p e s m args below meth c s₁, BodyLoose p l y (headSpec ws rm) cc maxL ret e s m args below meth c s₁ → c.maxLocals = maxL → (∀ x ∈ c.exceptionTable.toList, False) → Pc args s →
      W p l e (headSpec ws rm).room s m args below meth c s.heap [] 0 0 (vx_MQ below Qc XC args s mc ms free) (entryFrame m args maxL)) : vx_Met l y ws rm Pc Qc XC mc ms free := by
  refine MetFree.of_bodyS (code := cc) (maxLocals := maxL) (ret := ret) hy ?_ ?_
  · intro args s m h hn
    obtain ⟨meth, c, h1, h2, h3, h4, h5, h6, -, -⟩ := Cond.code_spec hn (atoms_spec (ws := ws) h _ (by rw [hw]; exact List.mem_cons_self))
    exact ⟨meth, c, h1, h2, h3, h4, h5, h6⟩
  · intro p e s m args below meth c s₁ B hml hP _
    have hh0 : s₁.heap = s.heap := by rw [B.state]; rfl
    have ht : ∀ x ∈ c.exceptionTable.toList, False := by
      obtain ⟨meth9, c9, h1, h2, -, -, -, -, h7, -⟩ := Cond.code_spec B.named (atoms_spec (ws := ws) B.pre _ (by rw [hw]; exact List.mem_cons_self))
      cases Option.some.inj (h1.symm.trans B.method)
      cases Option.some.inj (h2.symm.trans (Stand.of_body B).code)
      intro x hx
      rw [Array.isEmpty_iff.mp h7] at hx
      cases hx
    obtain ⟨t, a1, o, b1, b2, b3⟩ := body p e s m args below meth c s₁ B hml ht hP s₁ hh0 (Stand.of_body B)
    exact ⟨t, o, a1, b1, b2, b3⟩
/-- the table of a body with handlers -/
theorem vx_table {p : Program} {x y : MethodName} {S : Spec} {cc bytes : ByteArray} {maxL maxL' : Nat} {ret ret' : Option FieldType} {e : Env} {s s₁ : State} {m : MethodId} {args : Array Value} {below : List Frame} {meth : Method} {c : Code} {hh : List (Nat × Nat × Nat × Nat)}
    (B : BodyLoose p l y S cc maxL ret e s m args below meth c s₁) (h : (Cond.codeWith y bytes maxL' ret' hh).before args s = true) : c.exceptionTable.toList = tableOf hh := by
  obtain ⟨m9, meth9, c9, hn9, h1, h2, -, -, h6, -⟩ := Cond.codeWith_spec h
  cases Option.some.inj (hn9.symm.trans B.named)
  cases Option.some.inj (h1.symm.trans B.method)
  cases Option.some.inj (h2.symm.trans (Stand.of_body B).code)
  rw [← h6, table_eq]
end Bodies
end VXA
/-! ===== END ===== -/
/-! ===== BEGIN a static call of a method with an exception table ===== -/
section VXS
variable {p : Program} {l : Launch} {e : Env} {R : Room} {s : State} {m : MethodId} {args : Array Value} {below : List Frame} {meth : Method} {c : Code} {T : State} {H : Heap} {locs : List Loc} {cells slots : Nat}
abbrev vx_CSW (R : Room) (s : State) (args : Array Value) (own : String) (index : Nat) (y : MethodName) (bytes : ByteArray) (maxL : Nat) (ret : Option FieldType) (hh : List (Nat × Nat × Nat × Nat)) (ws : List Cond) (rm : Room) (mc ms n : Nat) : Prop :=
  (rm.cells = mc ∧ rm.slots = ms ∧ rm.frames + 1 ≤ R.frames ∧ 8 + (maxL + 11) + rm.locals ≤ R.locals ∧ (∀ w ∈ ws, ∀ (a' : Array Value) (U : State), s.WarmedH U.vm → w.before a' U = true) ∧ Cond.codeWith y bytes maxL ret hh ∈ ws) ∧
  (Cond.codeWith y bytes maxL ret hh).before args s = true ∧ (Cond.initialized y.cls).before args s = true ∧ (y.cls ≠ "java/lang/invoke/MethodHandle" ∧ y.cls ≠ "java/lang/invoke/VarHandle") ∧
  (∀ sig, parseMethodDescriptor y.desc = some sig → n = sig.parameters.length) ∧ (Cond.methodLink own index y).before args s = true ∧ (Cond.static y).before args s = true
theorem vx_cwSW {own : String} {index maxL mc ms : Nat} {y : MethodName} {bytes : ByteArray} {ret : Option FieldType} {hh : List (Nat × Nat × Nat × Nat)} {Ts ws ws' : List Cond} {rm : Room} (n : Nat) (ht : ∀ w ∈ Ts, w.before args s = true) (hT : GoodIn Ts (va_wsS own index y ws)) (hw : ws = Cond.codeWith y bytes maxL ret hh :: ws') (hrc : rm.cells = mc) (hrs : rm.slots = ms)
    (hd : y.cls ≠ "java/lang/invoke/MethodHandle" ∧ y.cls ≠ "java/lang/invoke/VarHandle" ∧ (parseMethodDescriptor y.desc).map (fun d => d.parameters.length) = some n) (hR : rm.frames + 1 ≤ R.frames ∧ 8 + (maxL + 11) + rm.locals ≤ R.locals) :
    vx_CSW R s args own index y bytes maxL ret hh ws rm mc ms n := by
  have ok : ∀ w ∈ va_wsS own index y ws, w.before args s = true := fun w h => ht w (hT w h).1
  have hG : GoodIn Ts ws := fun w h => hT w (by unfold va_wsS; exact List.mem_append_right _ h)
  have hc : Cond.codeWith y bytes maxL ret hh ∈ ws := by rw [hw]; exact List.mem_cons_self
  refine ⟨⟨hrc, hrs, hR.1, hR.2, pay_in ht hG, hc⟩, ht _ (hG _ hc).1, ok _ (by simp [va_wsS]), ⟨hd.1, hd.2.1⟩, fun sig h => ?_, ok _ (by simp [va_wsS]), ok _ (by simp [va_wsS])⟩
  have h2 := hd.2.2
  rw [h] at h2
  exact (Option.some.inj h2).symm
theorem vx_callSW (X : Stand p l e R s m args below meth c T locs cells slots) (hexec : p.tables.exec = Jvm.exec) {own : String} {index : Nat} {y : MethodName} {bytes : ByteArray} {maxL : Nat} {ret : Option FieldType} {hh : List (Nat × Nat × Nat × Nat)}
    (hown : s.vm.findClass own = some m.cls) (hlink : (Cond.methodLink own index y).before args s = true) (hstat : (Cond.static y).before args s = true) (hinit : (Cond.initialized y.cls).before args s = true)
    (hcode : (Cond.codeWith y bytes maxL ret hh).before args s = true) (hy : y.cls ≠ "java/lang/invoke/MethodHandle" ∧ y.cls ≠ "java/lang/invoke/VarHandle")
    {W9 : Nat} {Pre : Pt → Array Value → Prop} {Post : Pt → Array Value → Option Value → Pt → Prop} (hK : Back l R p e below s args y 3 W9 Pre Post)
    {g : JFrame} (hg : g.method = m) (hsize : g.locals.size = c.maxLocals) {argsL rest : List Value} (hlen : ∀ sig, parseMethodDescriptor y.desc = some sig → argsL.length = sig.parameters.length)
    (hstack : g.stack = argsL.reverse ++ rest) (hW : 2 * g.monitorRoom + (rest.map fun v => v.category).sum ≤ W9) (hdg : decode c.code g.pc = .ok (.invokestatic index, 3))
    (hpre : ∀ vm₁, s.WarmedH vm₁ → Pre ⟨T.setVm vm₁, locs, cells, slots⟩ argsL.toArray) :
    ∃ (v : Option Value) (vm₁ : Vm) (B : Pt), s.WarmedH vm₁ ∧ Stand p l e R s m args below meth c B.U B.locs B.cells B.slots ∧ Post ⟨T.setVm vm₁, locs, cells, slots⟩ argsL.toArray v B ∧
      ∀ target, Steps p.tables e below (B.U.setTop { g with pc := g.pc + 3, stack := v.toList ++ rest }) target → Steps p.tables e below (T.setTop g) target := by
  obtain ⟨mk, methM, cM, hnamed, hmethM, -, -, -, -, -, -, hsigM⟩ := Cond.codeWith_spec hcode
  have hstatic : methM.isStatic = true := Cond.static_spec hnamed hmethM hstat
  obtain ⟨kP, hkP, -⟩ := className_of_methodNamed hnamed
  have hinitP : kP.init = .initialized := Cond.initialized_spec (findClass_of_methodNamed hnamed) hkP hinit
  obtain ⟨vm₁, X₁, hstep₁⟩ := X.invokestatic hexec hown hlink hnamed hmethM hstatic hkP hinitP hy (g := g) hg (argsL := argsL) (rest := rest) (hlen _ hsigM) hstack hdg
  obtain ⟨v, B, X', hpost, hsteps⟩ := hK m meth c ⟨T.setVm vm₁, locs, cells, slots⟩ { g with stack := rest } (.invokestatic index) mk argsL.toArray X₁ hg hsize hdg hW (X₁.named hnamed) (hpre vm₁ X₁.warmed)
  exact ⟨v, vm₁, B, X₁.warmed, X', hpost, fun target h => hstep₁ _ fun acts => by rw [doInvoke_state]; exact hsteps.trans h⟩
theorem vx_runSW {y : MethodName} {bytes cc : ByteArray} {maxL nL mc ms n index : Nat} {ret : Option FieldType} {hh : List (Nat × Nat × Nat × Nat)} {ws : List Cond} {rm : Room} {Pc : Array Value → State → Prop} {Qc : Array Value → State → Outcome → State → Prop} {free : Addr → Prop} {Ts : List Cond} {own : String} {As rest : List Value} {g : JFrame}
    (S : CallFix p m c cc nL s args Ts own) (hM : Met l y ws rm Pc Qc mc ms free) (cw : vx_CSW R s args own index y bytes maxL ret hh ws rm mc ms n) (hp : PreS s H Pc As)
    (hg : g.method = m) (hn : As.length = n) (hsize : g.locals.size = nL) (hstack : g.stack = As.reverse ++ rest) (hW : 2 * g.monitorRoom + (rest.map fun v => v.category).sum ≤ 8) (hdg : decode cc g.pc = .ok (.invokestatic index, 3)) (hf : cells + mc ≤ R.cells ∧ slots + ms ≤ R.slots) :
    va_Run p l e R s m args below meth c H locs cells slots mc ms g rest (Qc As.toArray) (free) := by
  obtain ⟨⟨hrc, hrs, hfr, hlo, hws, hcw⟩, hcode, hini, hy, hlen, hl, hstt⟩ := cw
  have hK : Back l R p e below s args y 3 8 (PreOf R mc ms Pc) (PostOf Qc mc ms free) := va_backW (hh := hh) (bytes := bytes) (maxL := maxL) (ret := ret) hM hp.1 hrc hrs hfr hlo hws hcw (fun a' U hW => word_at hW (Or.inl (by first | rfl | simp [Cond.onTables, Cond.keeps, Cond.steady])) hini)
  obtain ⟨hx, hb, hml, ho, -⟩ := S
  intro T hT X
  obtain ⟨v, vm₁, ⟨U', l2, c2, s2⟩, hW₁, X', ⟨g', mk, t, L, e1, e2, hq, h1, hL, h2, h3⟩, st⟩ := vx_callSW X hx (hh := hh) (bytes := bytes) (maxL := maxL) (ret := ret) ho hl hstt hini hcode hy hK hg (hsize.trans hml.symm) (argsL := As) (rest := rest) (fun sig h => hn.trans (hlen sig h)) hstack hW (by rw [hb]; exact hdg)
    (fun vm₁ hW₁ => ⟨hf.1, hf.2, hp.2 (T.setVm vm₁) hT hW₁⟩)
  dsimp only [Pt.U, Pt.locs, Pt.cells, Pt.slots] at X' e1 e2 h1 h2 h3 st
  subst h1; subst h2; subst h3
  exact ⟨v, (T.setVm vm₁).calling g' mk As.toArray, t, U', L, hT, X', hL, e1, e2, hq, st⟩
/-- not caught here, past rows that name other classes: it goes on to the caller -/
theorem vx_outP {p : Program} {l : Launch} {e : Env} {R : Room} {s : State} {m : MethodId} {args : Array Value} {below : List Frame} {meth : Method} {c : Code} {H : Heap} {locs : List Loc} {cells slots : Nat} {free : Addr → Prop} {ls : Array Slot} {rest : List Value} {Qc : Array Value → State → Outcome → State → Prop} {XC : String → State → State → Prop}
    {pc : Nat} {own E : String} {ce : Cell} {q : Addr} {mc ms : Nat} (hown : s.vm.findClass own = some m.cls) (hlocks : meth.locks = false)
    (hpass : ∀ z ∈ c.exceptionTable.toList, covers z pc = false ∨ (z.catchType ≠ 0 ∧ ∃ nm : String, (Cond.classLink own z.catchType nm).before args s = true ∧ va_Nc E nm s)) (hcell : H[q]? = some ce) (hv : ce.vm = .none) (hcl : s.vm.findClass E = some ce.cls)
    (hx : ∀ t : State, t.heap = H → s.vm.Alike t.vm → XC E s t) (hf : ∀ z ∈ locs, free z.base) (hc : cells ≤ mc) (hs : slots ≤ ms) :
    vx_W p l e R s m args below meth c H locs cells slots (vx_MQ below Qc XC args s mc ms free) (F0 m pc ls rest) q := by
  intro T hT X
  have hpl : e.platform.magicAccessors = ({} : Platform).magicAccessors := by rw [X.admits.platform]
  obtain ⟨vm', hW', X', st⟩ := X.outThrough hlocks q (g := F0 m pc ls rest) rfl rfl rfl (cell := ce) (by rw [hT]; exact hcell) (by rw [hv]; rfl)
    (by obtain ⟨k9, h9, -⟩ := Vm.findClass_spec hcl; exact ⟨k9, h9⟩) (fun z hz => by
      rcases hpass z hz with h | ⟨hz0, nm, hl1, hn1⟩
      · exact Or.inl h
      · obtain ⟨c6, hc6, hcl6⟩ := Cond.classLink_spec hown hl1 e.platform hpl
        obtain ⟨a8, b8, h1, h2, h3⟩ := hn1
        cases Option.some.inj (h1.symm.trans hcl)
        cases Option.some.inj (h2.symm.trans hc6)
        exact Or.inr ⟨hz0, _, hcl6, h3⟩)
  obtain ⟨g₀, hfr⟩ := X'.frames_eq
  have hcell9 : ((T.setVm vm').setFrames (.throwing q :: below)).heap[q]? = some ce := by
    show T.heap[q]? = some ce
    rw [hT]; exact hcell
  have hend : Ended ((T.setVm vm').setFrames (.throwing q :: below)) below (.threw q) := State.frames_setFrames _ (State.cur_lt_of_frames hfr)
  refine ⟨(T.setVm vm').setFrames (.throwing q :: below), ?_, .threw q, X'.here.running, hend, Or.inr ⟨q, rfl, E, ce, locs, hx _ hT (X'.ends _).1.alike, hcell9, hv, hcl, (X'.ends _).1, (X'.ends _).2.mono hc hs, hf⟩⟩
  rw [X.pushThrowing_eq]
  exact st
/-- a thing of a world lies in the heap -/
theorem vx_lt {D : va_G} {cl : List vw_C} {ws : va_W} {H1 : Heap} (h : va_P D cl ws H1) {k : Nat} {q : Nat × va_E} (hk : ws[k]? = some q) : q.1 < H1.size := (h k q hk).lt
end VXS
/-! ===== END ===== -/
/-! ===== BEGIN methods with a table of their own: called by a name, returning or throwing ===== -/
section VXH
/-! vx_backW, vx_callVX, vx_callSX, vx_callVW, vx_runVW, vx_runVX, vx_runSX, vx_ofWH follow the same proofs as their sisters above (Free/Laws.lean, Shelf42/LK1.lean); vx_outP calls Shelf42/NT130.lean (outThrough). -/
section
variable {l : Launch} {R : Room} {p : Program} {e : Env} {below : List Frame} {s : State} {sargs : Array Value} {y : MethodName} {len W9 : Nat}
theorem vx_backW {ws : List Cond} {rm : Room} {Pc : Array Value → State → Prop} {Qc : Array Value → State → Outcome → State → Prop} {XC : String → State → State → Prop} {mc ms : Nat} {free : Addr → Prop} {bytes : ByteArray} {maxL : Nat} {ret : Option FieldType} {hh : List (Nat × Nat × Nat × Nat)}
    (hM : vx_Met l y ws rm Pc Qc XC mc ms free) (hblind : FrameBlind Pc) (hrc : rm.cells = mc) (hrs : rm.slots = ms)
    (hframes : rm.frames + 1 ≤ R.frames) (hlocals : W9 + (maxL + 11) + rm.locals ≤ R.locals)
    (hws : ∀ w ∈ ws, ∀ a' U, s.WarmedH U.vm → w.before a' U = true) (hcode : Cond.codeWith y bytes maxL ret hh ∈ ws) (hinit : ∀ a' U, s.WarmedH U.vm → (Cond.initialized y.cls).before a' U = true) :
    vx_Back l R p e below s sargs y len W9 (PreOf R mc ms Pc) (PostOf Qc mc ms free) (vx_Post XC mc ms free) := by
  intro m meth c A g ig mk a X hg hsize hdg hW hn hp
  have h1 : (headSpec ws rm).pre.before a A.U = true := atoms_intro fun w hw => hws w hw _ _ X.warmed
  have h2 : (Cond.codeWith y bytes maxL ret hh).before a A.U = true := hws _ hcode _ _ X.warmed
  have h3 : (Cond.initialized y.cls).before a A.U = true := hinit _ _ X.warmed
  have h4 : A.cells + (headSpec ws rm).room.cells ≤ R.cells := by rw [show (headSpec ws rm).room.cells = mc from hrc]; exact hp.1
  have h5 : A.slots + (headSpec ws rm).room.slots ≤ R.slots := by rw [show (headSpec ws rm).room.slots = ms from hrs]; exact hp.2.1
  have hPc : Pc a (A.U.calling g mk a) := hblind _ _ _ _ hp.2.2
  obtain ⟨U, Ls, c0, s0⟩ := A
  dsimp only [Pt.U, Pt.locs, Pt.cells, Pt.slots] at h1 h2 h3 h4 h5 X hn hPc ⊢
  obtain ⟨m9, methY, cY, hn9, hmY, hcY, -, hlY, -⟩ := Cond.codeWith_spec h2
  cases Option.some.inj (hn9.symm.trans hn)
  obtain ⟨kY, hkY, -⟩ := className_of_methodNamed hn
  have hinitY : kY.init = .initialized := Cond.initialized_spec (findClass_of_methodNamed hn) hkY h3
  have h : At U g.method c below := by rw [hg]; exact X.here
  have hlocals9 : W9 + (maxL + 11) + (headSpec ws rm).room.locals ≤ R.locals := hlocals
  have happ : (headSpec ws rm).appliesLoose y e.platform (U.calling g mk a) = true :=
    Spec.appliesLoose_calling (g := g) h hdg hn hkY hinitY
      (X.room_calling (g := g) (R' := (headSpec ws rm).room) hsize hmY hcY hframes (by rw [hlY]; omega) h4 h5) h1
  obtain ⟨mid, hmid⟩ := h.above
  have hfr : (U.setTop g).frames = (.java g :: mid) ++ below := by rw [State.frames_setTop' g h.top, hmid]; rfl
  obtain ⟨o, s₂, hsteps, -, hend, hq⟩ := Steps.callFree hM p X.admits X.cas X.clock (acts := []) hfr happ hPc trivial
  have hq' : vx_Q Qc XC mc ms free a (U.calling g mk a) o s₂ := hq
  rw [State.frames_setTop' g h.top] at hend
  obtain ⟨g₀, hg0⟩ := Option.isSome_iff_exists.mp h.top
  obtain ⟨r, hr⟩ := State.topJava?_eq_some.mp hg0
  have hr' : (({ U with heap := s₂.heap, slotsUsed := s₂.slotsUsed } : State).setVm s₂.vm).frames = .java g₀ :: r := hr
  rcases hq' with ⟨hqc, L, hfe, hL⟩ | ⟨q, rfl, E, ce, L, hx, hce, hcv, hcl, hW₂, hsm, hL⟩
  · obtain ⟨⟨v, rfl⟩, hW₂, e2, q2, q3, q4, q5, q6⟩ := id hfe
    have e3 : s₂ = ({ (U.calling g mk a).setFrames s₂.frames with heap := s₂.heap, slotsUsed := s₂.slotsUsed } : State).setVm s₂.vm := by
      have : s₂ = ({ s₂ with vm := (U.calling g mk a).vm } : State).setVm s₂.vm := rfl
      rw [e2] at this
      exact this
    obtain ⟨c₂, i₂, len₂, hc₂, hd₂, hf₂⟩ := hend
    have hW' : U.WarmedH s₂.vm := hW₂
    have hcc : c₂ = c := by
      have h1 : s₂.code? g.method = U.code? g.method := by
        rw [State.code?_eq, State.code?_eq, hW'.alike.method?]
      exact Option.some.inj (hc₂.symm.trans (h1.trans h.code))
    subst hcc
    have hlen : len₂ = len := by rw [hdg] at hd₂; cases hd₂; rfl
    subst hlen
    have hs₂ : s₂ = (({ U with heap := s₂.heap, slotsUsed := s₂.slotsUsed } : State).setVm s₂.vm).setTop { g with pc := g.pc + len₂, stack := v.toList ++ g.stack } := by
      refine e3.trans ?_
      rw [hf₂, State.calling_eq h.top, State.setFrames_setFrames, State.setTop_of_frames _ hr', hr]
      rfl
    have hsame : U.sameButNew ({ U with heap := s₂.heap, slotsUsed := s₂.slotsUsed } : State) L mc ms := by
      refine ⟨?_, q2, q3, q4, q5, q6⟩
      obtain ⟨t, ht, -⟩ := State.frames_cons hr
      show ({ U with heap := s₂.heap, slotsUsed := s₂.slotsUsed } : State) = { U.setFrames U.frames with heap := s₂.heap, slotsUsed := s₂.slotsUsed }
      rw [State.setFrames_self ht]
    subst hg
    refine Or.inl ⟨v, ⟨(({ U with heap := s₂.heap, slotsUsed := s₂.slotsUsed } : State).setVm s₂.vm), Ls ++ L, c0 + mc, s0 + ms⟩,
      ⟨X.admits, X.cas, X.clock, X.frames, X.room, X.hears, X.method, X.code, (X.here.setHeapUsed s₂.heap s₂.slotsUsed).setVm hW'.alike, X.tail, State.WarmedH.trans X.warmed hW', X.limits, X.bytes, X.same.trans (hsame.setVm s.vm)⟩,
      ⟨g, mk, s₂, L, rfl, rfl, hqc, rfl, hL, rfl, rfl⟩, ?_⟩
    show Steps p.tables e below _ ((({ U with heap := s₂.heap, slotsUsed := s₂.slotsUsed } : State).setVm s₂.vm).setTop { g with pc := g.pc + len₂, stack := v.toList ++ g.stack })
    rw [← hs₂]
    exact hsteps
  · obtain ⟨e2, q2, q3, q4, q5, q6⟩ := id hsm
    have e3 : s₂ = ({ (U.calling g mk a).setFrames s₂.frames with heap := s₂.heap, slotsUsed := s₂.slotsUsed } : State).setVm s₂.vm := by
      have : s₂ = ({ s₂ with vm := (U.calling g mk a).vm } : State).setVm s₂.vm := rfl
      rw [e2] at this
      exact this
    have hf₂ : s₂.frames = .throwing q :: .java g :: U.frames.tail := hend
    have hW' : U.WarmedH s₂.vm := hW₂
    have hs₂ : s₂ = ((({ U with heap := s₂.heap, slotsUsed := s₂.slotsUsed } : State).setVm s₂.vm).setTop g).pushFrame (.throwing q) := by
      refine e3.trans ?_
      rw [hf₂, State.calling_eq h.top, State.setFrames_setFrames, State.pushFrame, State.frames_setTop _ hr', State.setTop_of_frames _ hr', State.setFrames_setFrames, hr]
      rfl
    have hsame : U.sameButNew ({ U with heap := s₂.heap, slotsUsed := s₂.slotsUsed } : State) L mc ms := by
      refine ⟨?_, q2, q3, q4, q5, q6⟩
      obtain ⟨t, ht, -⟩ := State.frames_cons hr
      show ({ U with heap := s₂.heap, slotsUsed := s₂.slotsUsed } : State) = { U.setFrames U.frames with heap := s₂.heap, slotsUsed := s₂.slotsUsed }
      rw [State.setFrames_self ht]
    subst hg
    refine Or.inr ⟨q, ⟨(({ U with heap := s₂.heap, slotsUsed := s₂.slotsUsed } : State).setVm s₂.vm), Ls ++ L, c0 + mc, s0 + ms⟩,
      ⟨X.admits, X.cas, X.clock, X.frames, X.room, X.hears, X.method, X.code, (X.here.setHeapUsed s₂.heap s₂.slotsUsed).setVm hW'.alike, X.tail, State.WarmedH.trans X.warmed hW', X.limits, X.bytes, X.same.trans (hsame.setVm s.vm)⟩,
      ⟨g, mk, s₂, L, E, ce, rfl, rfl, hx, hce, hcv, hcl, rfl, hL, rfl, rfl⟩, ?_⟩
    show Steps p.tables e below _ (((({ U with heap := s₂.heap, slotsUsed := s₂.slotsUsed } : State).setVm s₂.vm).setTop g).pushFrame (.throwing q))
    rw [← hs₂]
    exact hsteps
end
variable {p : Program} {l : Launch} {e : Env} {R : Room} {s : State} {m : MethodId} {args : Array Value} {below : List Frame} {meth : Method} {c : Code} {T : State} {H : Heap} {locs : List Loc} {cells slots : Nat}
theorem vx_callVX (X : Stand p l e R s m args below meth c T locs cells slots) (hexec : p.tables.exec = Jvm.exec) {own C : String} {index : Nat} {y : MethodName} {bytes : ByteArray} {maxL : Nat} {ret : Option FieldType} {hh : List (Nat × Nat × Nat × Nat)}
    (hown : s.vm.findClass own = some m.cls) (hlink : (Cond.methodLink own index y).before args s = true) (hinst : (Cond.instanceMethod y).before args s = true) (hsel : (Cond.selects C y y).before args s = true)
    (hcode : (Cond.codeWith y bytes maxL ret hh).before args s = true) (hy : y.cls ≠ "java/lang/invoke/MethodHandle" ∧ y.cls ≠ "java/lang/invoke/VarHandle")
    {W9 : Nat} {Pre : Pt → Array Value → Prop} {Post : Pt → Array Value → Option Value → Pt → Prop} {PostX : Pt → Array Value → Addr → Pt → Prop} (hK : vx_Back l R p e below s args y 3 W9 Pre Post PostX)
    {b : Addr} {cellB : Cell} (hcell : T.heap[b]? = some cellB) (hobj : cellB.vm.isStatics = false) (hcls : s.vm.findClass C = some cellB.cls)
    {g : JFrame} (hg : g.method = m) (hsize : g.locals.size = c.maxLocals) {argsL rest : List Value} (hlen : ∀ sig, parseMethodDescriptor y.desc = some sig → argsL.length = sig.parameters.length)
    (hstack : g.stack = argsL.reverse ++ .ref b :: rest) (hW : 2 * g.monitorRoom + (rest.map fun v => v.category).sum ≤ W9) (hdg : decode c.code g.pc = .ok (.invokevirtual index, 3))
    (hpre : ∀ vm₁, s.WarmedH vm₁ → Pre ⟨T.setVm vm₁, locs, cells, slots⟩ (Value.ref b :: argsL).toArray) :
    (∃ (v : Option Value) (vm₁ : Vm) (B : Pt), s.WarmedH vm₁ ∧ Stand p l e R s m args below meth c B.U B.locs B.cells B.slots ∧ Post ⟨T.setVm vm₁, locs, cells, slots⟩ (Value.ref b :: argsL).toArray v B ∧
      ∀ target, Steps p.tables e below (B.U.setTop { g with pc := g.pc + 3, stack := v.toList ++ rest }) target → Steps p.tables e below (T.setTop g) target) ∨
    (∃ (q : Addr) (vm₁ : Vm) (B : Pt), s.WarmedH vm₁ ∧ Stand p l e R s m args below meth c B.U B.locs B.cells B.slots ∧ PostX ⟨T.setVm vm₁, locs, cells, slots⟩ (Value.ref b :: argsL).toArray q B ∧
      Steps p.tables e below (T.setTop g) ((B.U.setTop { g with stack := rest }).pushFrame (.throwing q))) := by
  obtain ⟨mk, methM, hnamed, hmethM, hstM, habM⟩ := Cond.instanceMethod_spec hinst
  obtain ⟨m8, methM', cM, hn8, hmethM', -, -, -, -, -, -, hsigM⟩ := Cond.codeWith_spec hcode
  cases Option.some.inj (hn8.symm.trans hnamed)
  cases hmethM.symm.trans hmethM'
  obtain ⟨c2, r2, m2, q1, q2, q3, q4, kP, hkP, hkPi⟩ := Cond.selects_spec hsel
  cases hcls.symm.trans q1
  cases (State.methodFound?_of_named hnamed hy).symm.trans q2
  cases hnamed.symm.trans q3
  have hselP : selectMethod e.platform s.vm cellB.cls mk = .method mk := by rw [Launch.admits_selectMethod X.admits]; exact q4
  obtain ⟨vm₁, X₁, hstep₁⟩ := X.invokevirtual hexec hown hlink hnamed hmethM hstM hkP hkPi hy (a := b) (cell := cellB) hcell
    (fun z h => by rw [h] at hobj; cases hobj) hselP hmethM habM hkP hkPi (g := g) hg (argsL := argsL) (rest := rest) (hlen _ hsigM) hstack hdg
  rcases hK m meth c ⟨T.setVm vm₁, locs, cells, slots⟩ { g with stack := rest } (.invokevirtual index) mk (Value.ref b :: argsL).toArray X₁ hg hsize hdg hW (X₁.named hnamed) (hpre vm₁ X₁.warmed) with ⟨v, B, X', hpost, hsteps⟩ | ⟨q, B, X', hpost, hsteps⟩
  · exact Or.inl ⟨v, vm₁, B, X₁.warmed, X', hpost, fun target h => hstep₁ _ fun acts => by rw [doInvoke_state]; exact hsteps.trans h⟩
  · exact Or.inr ⟨q, vm₁, B, X₁.warmed, X', hpost, hstep₁ _ fun acts => by rw [doInvoke_state]; exact hsteps⟩
theorem vx_callSX (X : Stand p l e R s m args below meth c T locs cells slots) (hexec : p.tables.exec = Jvm.exec) {own : String} {index : Nat} {y : MethodName} {bytes : ByteArray} {maxL : Nat} {ret : Option FieldType} {hh : List (Nat × Nat × Nat × Nat)}
    (hown : s.vm.findClass own = some m.cls) (hlink : (Cond.methodLink own index y).before args s = true) (hstat : (Cond.static y).before args s = true) (hinit : (Cond.initialized y.cls).before args s = true)
    (hcode : (Cond.codeWith y bytes maxL ret hh).before args s = true) (hy : y.cls ≠ "java/lang/invoke/MethodHandle" ∧ y.cls ≠ "java/lang/invoke/VarHandle")
    {W9 : Nat} {Pre : Pt → Array Value → Prop} {Post : Pt → Array Value → Option Value → Pt → Prop} {PostX : Pt → Array Value → Addr → Pt → Prop} (hK : vx_Back l R p e below s args y 3 W9 Pre Post PostX)
    {g : JFrame} (hg : g.method = m) (hsize : g.locals.size = c.maxLocals) {argsL rest : List Value} (hlen : ∀ sig, parseMethodDescriptor y.desc = some sig → argsL.length = sig.parameters.length)
    (hstack : g.stack = argsL.reverse ++ rest) (hW : 2 * g.monitorRoom + (rest.map fun v => v.category).sum ≤ W9) (hdg : decode c.code g.pc = .ok (.invokestatic index, 3))
    (hpre : ∀ vm₁, s.WarmedH vm₁ → Pre ⟨T.setVm vm₁, locs, cells, slots⟩ argsL.toArray) :
    (∃ (v : Option Value) (vm₁ : Vm) (B : Pt), s.WarmedH vm₁ ∧ Stand p l e R s m args below meth c B.U B.locs B.cells B.slots ∧ Post ⟨T.setVm vm₁, locs, cells, slots⟩ argsL.toArray v B ∧
      ∀ target, Steps p.tables e below (B.U.setTop { g with pc := g.pc + 3, stack := v.toList ++ rest }) target → Steps p.tables e below (T.setTop g) target) ∨
    (∃ (q : Addr) (vm₁ : Vm) (B : Pt), s.WarmedH vm₁ ∧ Stand p l e R s m args below meth c B.U B.locs B.cells B.slots ∧ PostX ⟨T.setVm vm₁, locs, cells, slots⟩ argsL.toArray q B ∧
      Steps p.tables e below (T.setTop g) ((B.U.setTop { g with stack := rest }).pushFrame (.throwing q))) := by
  obtain ⟨mk, methM, cM, hnamed, hmethM, -, -, -, -, -, -, hsigM⟩ := Cond.codeWith_spec hcode
  have hstatic : methM.isStatic = true := Cond.static_spec hnamed hmethM hstat
  obtain ⟨kP, hkP, -⟩ := className_of_methodNamed hnamed
  have hinitP : kP.init = .initialized := Cond.initialized_spec (findClass_of_methodNamed hnamed) hkP hinit
  obtain ⟨vm₁, X₁, hstep₁⟩ := X.invokestatic hexec hown hlink hnamed hmethM hstatic hkP hinitP hy (g := g) hg (argsL := argsL) (rest := rest) (hlen _ hsigM) hstack hdg
  rcases hK m meth c ⟨T.setVm vm₁, locs, cells, slots⟩ { g with stack := rest } (.invokestatic index) mk argsL.toArray X₁ hg hsize hdg hW (X₁.named hnamed) (hpre vm₁ X₁.warmed) with ⟨v, B, X', hpost, hsteps⟩ | ⟨q, B, X', hpost, hsteps⟩
  · exact Or.inl ⟨v, vm₁, B, X₁.warmed, X', hpost, fun target h => hstep₁ _ fun acts => by rw [doInvoke_state]; exact hsteps.trans h⟩
  · exact Or.inr ⟨q, vm₁, B, X₁.warmed, X', hpost, hstep₁ _ fun acts => by rw [doInvoke_state]; exact hsteps⟩
theorem vx_callVW (X : Stand p l e R s m args below meth c T locs cells slots) (hexec : p.tables.exec = Jvm.exec) {own C : String} {index : Nat} {y : MethodName} {bytes : ByteArray} {maxL : Nat} {ret : Option FieldType} {hh : List (Nat × Nat × Nat × Nat)}
    (hown : s.vm.findClass own = some m.cls) (hlink : (Cond.methodLink own index y).before args s = true) (hinst : (Cond.instanceMethod y).before args s = true) (hsel : (Cond.selects C y y).before args s = true)
    (hcode : (Cond.codeWith y bytes maxL ret hh).before args s = true) (hy : y.cls ≠ "java/lang/invoke/MethodHandle" ∧ y.cls ≠ "java/lang/invoke/VarHandle")
    {W9 : Nat} {Pre : Pt → Array Value → Prop} {Post : Pt → Array Value → Option Value → Pt → Prop} (hK : Back l R p e below s args y 3 W9 Pre Post)
    {b : Addr} {cellB : Cell} (hcell : T.heap[b]? = some cellB) (hobj : cellB.vm.isStatics = false) (hcls : s.vm.findClass C = some cellB.cls)
    {g : JFrame} (hg : g.method = m) (hsize : g.locals.size = c.maxLocals) {argsL rest : List Value} (hlen : ∀ sig, parseMethodDescriptor y.desc = some sig → argsL.length = sig.parameters.length)
    (hstack : g.stack = argsL.reverse ++ .ref b :: rest) (hW : 2 * g.monitorRoom + (rest.map fun v => v.category).sum ≤ W9) (hdg : decode c.code g.pc = .ok (.invokevirtual index, 3))
    (hpre : ∀ vm₁, s.WarmedH vm₁ → Pre ⟨T.setVm vm₁, locs, cells, slots⟩ (Value.ref b :: argsL).toArray) :
    ∃ (v : Option Value) (vm₁ : Vm) (B : Pt), s.WarmedH vm₁ ∧ Stand p l e R s m args below meth c B.U B.locs B.cells B.slots ∧ Post ⟨T.setVm vm₁, locs, cells, slots⟩ (Value.ref b :: argsL).toArray v B ∧
      ∀ target, Steps p.tables e below (B.U.setTop { g with pc := g.pc + 3, stack := v.toList ++ rest }) target → Steps p.tables e below (T.setTop g) target := by
  obtain ⟨mk, methM, hnamed, hmethM, hstM, habM⟩ := Cond.instanceMethod_spec hinst
  obtain ⟨m8, methM', cM, hn8, hmethM', -, -, -, -, -, -, hsigM⟩ := Cond.codeWith_spec hcode
  cases Option.some.inj (hn8.symm.trans hnamed)
  cases hmethM.symm.trans hmethM'
  obtain ⟨c2, r2, m2, q1, q2, q3, q4, kP, hkP, hkPi⟩ := Cond.selects_spec hsel
  cases hcls.symm.trans q1
  cases (State.methodFound?_of_named hnamed hy).symm.trans q2
  cases hnamed.symm.trans q3
  have hselP : selectMethod e.platform s.vm cellB.cls mk = .method mk := by rw [Launch.admits_selectMethod X.admits]; exact q4
  obtain ⟨vm₁, X₁, hstep₁⟩ := X.invokevirtual hexec hown hlink hnamed hmethM hstM hkP hkPi hy (a := b) (cell := cellB) hcell
    (fun z h => by rw [h] at hobj; cases hobj) hselP hmethM habM hkP hkPi (g := g) hg (argsL := argsL) (rest := rest) (hlen _ hsigM) hstack hdg
  obtain ⟨v, B, X', hpost, hsteps⟩ := hK m meth c ⟨T.setVm vm₁, locs, cells, slots⟩ { g with stack := rest } (.invokevirtual index) mk (Value.ref b :: argsL).toArray X₁ hg hsize hdg hW (X₁.named hnamed) (hpre vm₁ X₁.warmed)
  exact ⟨v, vm₁, B, X₁.warmed, X', hpost, fun target h => hstep₁ _ fun acts => by rw [doInvoke_state]; exact hsteps.trans h⟩
abbrev vx_CVW (R : Room) (s : State) (args : Array Value) (own C : String) (index : Nat) (y : MethodName) (bytes : ByteArray) (maxL : Nat) (ret : Option FieldType) (hh : List (Nat × Nat × Nat × Nat)) (ws : List Cond) (rm : Room) (mc ms n : Nat) : Prop :=
  (rm.cells = mc ∧ rm.slots = ms ∧ rm.frames + 1 ≤ R.frames ∧ 8 + (maxL + 11) + rm.locals ≤ R.locals ∧ (∀ w ∈ ws, ∀ (a' : Array Value) (U : State), s.WarmedH U.vm → w.before a' U = true) ∧ Cond.codeWith y bytes maxL ret hh ∈ ws) ∧
  (Cond.codeWith y bytes maxL ret hh).before args s = true ∧ (Cond.initialized y.cls).before args s = true ∧ (y.cls ≠ "java/lang/invoke/MethodHandle" ∧ y.cls ≠ "java/lang/invoke/VarHandle") ∧
  (∀ sig, parseMethodDescriptor y.desc = some sig → n = sig.parameters.length) ∧ (Cond.methodLink own index y).before args s = true ∧ (Cond.instanceMethod y).before args s = true ∧ (Cond.selects C y y).before args s = true
theorem vx_cwVW {own C : String} {index maxL mc ms : Nat} {y : MethodName} {bytes : ByteArray} {ret : Option FieldType} {hh : List (Nat × Nat × Nat × Nat)} {Ts ws ws' : List Cond} {rm : Room} (n : Nat) (ht : ∀ w ∈ Ts, w.before args s = true) (hT : GoodIn Ts (wsV own index C y ws)) (hw : ws = Cond.codeWith y bytes maxL ret hh :: ws') (hrc : rm.cells = mc) (hrs : rm.slots = ms)
    (hd : y.cls = C ∧ y.cls ≠ "java/lang/invoke/MethodHandle" ∧ y.cls ≠ "java/lang/invoke/VarHandle" ∧ (parseMethodDescriptor y.desc).map (fun d => d.parameters.length) = some n) (hR : rm.frames + 1 ≤ R.frames ∧ 8 + (maxL + 11) + rm.locals ≤ R.locals) :
    vx_CVW R s args own C index y bytes maxL ret hh ws rm mc ms n := by
  obtain ⟨hC, hd⟩ := hd
  subst hC
  have ok : ∀ w ∈ wsV own index y.cls y ws, w.before args s = true := fun w h => ht w (hT w h).1
  have hG : GoodIn Ts ws := fun w h => hT w (by unfold wsV; exact List.mem_append_right _ h)
  have hc : Cond.codeWith y bytes maxL ret hh ∈ ws := by rw [hw]; exact List.mem_cons_self
  refine ⟨⟨hrc, hrs, hR.1, hR.2, pay_in ht hG, hc⟩, ht _ (hG _ hc).1, ok _ (by simp [wsV]), ⟨hd.1, hd.2.1⟩, fun sig h => ?_, ok _ (by simp [wsV]), ok _ (by simp [wsV]), ok _ (by simp [wsV])⟩
  have h2 := hd.2.2
  rw [h] at h2
  exact (Option.some.inj h2).symm
theorem vx_runVW {y : MethodName} {bytes cc : ByteArray} {maxL nL mc ms n index : Nat} {ret : Option FieldType} {hh : List (Nat × Nat × Nat × Nat)} {ws : List Cond} {rm : Room} {Pc : Array Value → State → Prop} {Qc : Array Value → State → Outcome → State → Prop} {free : Addr → Prop} {Ts : List Cond} {own C : String} {b : Addr} {As rest : List Value} {g : JFrame}
    (S : CallFix p m c cc nL s args Ts own) (hM : Met l y ws rm Pc Qc mc ms free) (cw : vx_CVW R s args own C index y bytes maxL ret hh ws rm mc ms n) (hp : PreV s H C b Pc As)
    (hg : g.method = m) (hn : As.length = n) (hsize : g.locals.size = nL) (hstack : g.stack = As.reverse ++ .ref b :: rest) (hW : 2 * g.monitorRoom + (rest.map fun v => v.category).sum ≤ 8) (hdg : decode cc g.pc = .ok (.invokevirtual index, 3)) (hf : cells + mc ≤ R.cells ∧ slots + ms ≤ R.slots) :
    va_Run p l e R s m args below meth c H locs cells slots mc ms g rest (Qc (Value.ref b :: As).toArray) free := by
  obtain ⟨⟨hrc, hrs, hfr, hlo, hws, hcw⟩, hcode, hini, hy, hlen, hl, hin, hse⟩ := cw
  have hK : Back l R p e below s args y 3 8 (PreOf R mc ms Pc) (PostOf Qc mc ms free) := va_backW (hh := hh) (bytes := bytes) (maxL := maxL) (ret := ret) hM hp.1 hrc hrs hfr hlo hws hcw (fun a' U hW => word_at hW (Or.inl (by first | rfl | simp [Cond.onTables, Cond.keeps, Cond.steady])) hini)
  obtain ⟨hx, hb, hml, ho, -⟩ := S
  obtain ⟨-, ⟨cellB, hcB, hoB, hclB⟩, hPc⟩ := hp
  intro T hT X
  obtain ⟨v, vm₁, ⟨U', l2, c2, s2⟩, hW₁, X', ⟨g', mk, t, L, e1, e2, hq, h1, hL, h2, h3⟩, st⟩ := vx_callVW X hx (C := C) (hh := hh) (bytes := bytes) (maxL := maxL) (ret := ret) ho hl hin hse hcode hy hK (by rw [hT]; exact hcB) hoB hclB hg (hsize.trans hml.symm) (argsL := As) (rest := rest) (fun sig h => hn.trans (hlen sig h)) hstack hW (by rw [hb]; exact hdg)
    (fun vm₁ hW₁ => ⟨hf.1, hf.2, hPc (T.setVm vm₁) hT hW₁⟩)
  dsimp only [Pt.U, Pt.locs, Pt.cells, Pt.slots] at X' e1 e2 h1 h2 h3 st
  subst h1; subst h2; subst h3
  exact ⟨v, (T.setVm vm₁).calling g' mk (Value.ref b :: As).toArray, t, U', L, hT, X', hL, e1, e2, hq, st⟩
section
variable {y : MethodName} {bytes cc : ByteArray} {maxL nL mc ms n index : Nat} {ret : Option FieldType} {ws : List Cond} {rm : Room} {Pc : Array Value → State → Prop} {Qc : Array Value → State → Outcome → State → Prop} {XC : String → State → State → Prop} {free : Addr → Prop} {Ts : List Cond} {own C : String} {b : Addr} {As rest : List Value} {g : JFrame}
theorem vx_runVX {hh : List (Nat × Nat × Nat × Nat)} (S : CallFix p m c cc nL s args Ts own) (hM : vx_Met l y ws rm Pc Qc XC mc ms free) (cw : vx_CVW R s args own C index y bytes maxL ret hh ws rm mc ms n) (hp : PreV s H C b Pc As)
    (hg : g.method = m) (hn : As.length = n) (hsize : g.locals.size = nL) (hstack : g.stack = As.reverse ++ .ref b :: rest) (hW : 2 * g.monitorRoom + (rest.map fun v => v.category).sum ≤ 8) (hdg : decode cc g.pc = .ok (.invokevirtual index, 3)) (hf : cells + mc ≤ R.cells ∧ slots + ms ≤ R.slots) :
    vx_Run p l e R s m args below meth c H locs cells slots mc ms g rest (Qc (Value.ref b :: As).toArray) XC free := by
  obtain ⟨⟨hrc, hrs, hfr, hlo, hws, hcw⟩, hcode, hini, hy, hlen, hl, hin, hse⟩ := cw
  have hK : vx_Back l R p e below s args y 3 8 (PreOf R mc ms Pc) (PostOf Qc mc ms free) (vx_Post XC mc ms free) := vx_backW (hh := hh) (bytes := bytes) (maxL := maxL) (ret := ret) hM hp.1 hrc hrs hfr hlo hws hcw (fun a' U hW => word_at hW (Or.inl (by first | rfl | simp [Cond.onTables, Cond.keeps, Cond.steady])) hini)
  obtain ⟨hx, hb, hml, ho, -⟩ := S
  obtain ⟨-, ⟨cellB, hcB, hoB, hclB⟩, hPc⟩ := hp
  intro T hT X
  rcases vx_callVX X hx (C := C) (hh := hh) (bytes := bytes) (maxL := maxL) (ret := ret) ho hl hin hse hcode hy hK (by rw [hT]; exact hcB) hoB hclB hg (hsize.trans hml.symm) (argsL := As) (rest := rest) (fun sig h => hn.trans (hlen sig h)) hstack hW (by rw [hb]; exact hdg)
    (fun vm₁ hW₁ => ⟨hf.1, hf.2, hPc (T.setVm vm₁) hT hW₁⟩) with ⟨v, vm₁, ⟨U', l2, c2, s2⟩, hW₁, X', ⟨g', mk, t, L, e1, e2, hq, h1, hL, h2, h3⟩, st⟩ | ⟨q, vm₁, ⟨U', l2, c2, s2⟩, hW₁, X', ⟨g', mk, t, L, E, ce, e1, e2, hq, hce, hcv, hcl, h1, hL, h2, h3⟩, st⟩
  · dsimp only [Pt.U, Pt.locs, Pt.cells, Pt.slots] at X' e1 e2 h1 h2 h3 st
    subst h1; subst h2; subst h3
    exact Or.inl ⟨v, (T.setVm vm₁).calling g' mk (Value.ref b :: As).toArray, t, U', L, hT, X', hL, e1, e2, hq, st⟩
  · dsimp only [Pt.U, Pt.locs, Pt.cells, Pt.slots] at X' e1 e2 h1 h2 h3 st hcl
    subst h1; subst h2; subst h3
    exact Or.inr ⟨q, (T.setVm vm₁).calling g' mk (Value.ref b :: As).toArray, t, U', L, E, ce, hT, X', hL, e1, e2, hq, hce, hcv, vx_cls hW₁ hcl, st⟩
theorem vx_runSX {hh : List (Nat × Nat × Nat × Nat)} (S : CallFix p m c cc nL s args Ts own) (hM : vx_Met l y ws rm Pc Qc XC mc ms free) (cw : vx_CSW R s args own index y bytes maxL ret hh ws rm mc ms n) (hp : PreS s H Pc As)
    (hg : g.method = m) (hn : As.length = n) (hsize : g.locals.size = nL) (hstack : g.stack = As.reverse ++ rest) (hW : 2 * g.monitorRoom + (rest.map fun v => v.category).sum ≤ 8) (hdg : decode cc g.pc = .ok (.invokestatic index, 3)) (hf : cells + mc ≤ R.cells ∧ slots + ms ≤ R.slots) :
    vx_Run p l e R s m args below meth c H locs cells slots mc ms g rest (Qc As.toArray) XC free := by
  obtain ⟨⟨hrc, hrs, hfr, hlo, hws, hcw⟩, hcode, hini, hy, hlen, hl, hstt⟩ := cw
  have hK : vx_Back l R p e below s args y 3 8 (PreOf R mc ms Pc) (PostOf Qc mc ms free) (vx_Post XC mc ms free) := vx_backW (hh := hh) (bytes := bytes) (maxL := maxL) (ret := ret) hM hp.1 hrc hrs hfr hlo hws hcw (fun a' U hW => word_at hW (Or.inl (by first | rfl | simp [Cond.onTables, Cond.keeps, Cond.steady])) hini)
  obtain ⟨hx, hb, hml, ho, -⟩ := S
  intro T hT X
  rcases vx_callSX X hx (hh := hh) (bytes := bytes) (maxL := maxL) (ret := ret) ho hl hstt hini hcode hy hK hg (hsize.trans hml.symm) (argsL := As) (rest := rest) (fun sig h => hn.trans (hlen sig h)) hstack hW (by rw [hb]; exact hdg)
    (fun vm₁ hW₁ => ⟨hf.1, hf.2, hp.2 (T.setVm vm₁) hT hW₁⟩) with ⟨v, vm₁, ⟨U', l2, c2, s2⟩, hW₁, X', ⟨g', mk, t, L, e1, e2, hq, h1, hL, h2, h3⟩, st⟩ | ⟨q, vm₁, ⟨U', l2, c2, s2⟩, hW₁, X', ⟨g', mk, t, L, E, ce, e1, e2, hq, hce, hcv, hcl, h1, hL, h2, h3⟩, st⟩
  · dsimp only [Pt.U, Pt.locs, Pt.cells, Pt.slots] at X' e1 e2 h1 h2 h3 st
    subst h1; subst h2; subst h3
    exact Or.inl ⟨v, (T.setVm vm₁).calling g' mk As.toArray, t, U', L, hT, X', hL, e1, e2, hq, st⟩
  · dsimp only [Pt.U, Pt.locs, Pt.cells, Pt.slots] at X' e1 e2 h1 h2 h3 st hcl
    subst h1; subst h2; subst h3
    exact Or.inr ⟨q, (T.setVm vm₁).calling g' mk As.toArray, t, U', L, E, ce, hT, X', hL, e1, e2, hq, hce, hcv, vx_cls hW₁ hcl, st⟩
end
end VXH
theorem vx_ofWH {l : Launch} {y : MethodName} {ws ws' : List Cond} {rm : Room} {Pc : Array Value → State → Prop} {Qc : Array Value → State → Outcome → State → Prop} {XC : String → State → State → Prop} {mc ms : Nat} {free : Addr → Prop} {cc : ByteArray} {maxL : Nat} {ret : Option FieldType} {hh : List (Nat × Nat × Nat × Nat)}
    (hy : plainName y.cls = true) (hw : ws = Cond.codeWith y cc maxL ret hh :: ws')
    (body : ∀ p e s m args below meth c s₁, BodyLoose p l y (headSpec ws rm) cc maxL ret e s m args below meth c s₁ → c.maxLocals = maxL → Pc args s →
      W p l e (headSpec ws rm).room s m args below meth c s.heap [] 0 0 (vx_MQ below Qc XC args s mc ms free) (entryFrame m args maxL)) : vx_Met l y ws rm Pc Qc XC mc ms free := by
  refine MetFree.of_bodyS (code := cc) (maxLocals := maxL) (ret := ret) hy ?_ ?_
  · intro args s m h hn
    obtain ⟨m9, meth, c, hn9, h1, h2, h3, h4, -, h5, h6, -⟩ := Cond.codeWith_spec (atoms_spec (ws := ws) h _ (by rw [hw]; exact List.mem_cons_self))
    cases hn.symm.trans hn9
    exact ⟨meth, c, h1, h2, h3, h4, h5, h6⟩
  · intro p e s m args below meth c s₁ B hml hP _
    have hh0 : s₁.heap = s.heap := by rw [B.state]; rfl
    obtain ⟨t, a1, o, b1, b2, b3⟩ := body p e s m args below meth c s₁ B hml hP s₁ hh0 (Stand.of_body B)
    exact ⟨t, o, a1, b1, b2, b3⟩
/-! ===== END ===== -/
end
section
/-! ===== BEGIN printed: names, fields, word lists, decode rows ===== -/
def RX0 : String := "UnlikeUnion$Division"
def TX0 : u_T := fun k => match k with
  | 0 => ("UnlikeUnion$Division", "tableau", "LUnlikeUnion$Tableau;", true)
  | 1 => ("UnlikeUnion$Division", "numerators", "[I", true)
  | 2 => ("UnlikeUnion$Division", "denominators", "[I", true)
  | 3 => ("UnlikeUnion$Division", "bound", "I", false)
  | 4 => ("UnlikeUnion$Division", "leastNumerator", "I", false)
  | _ => ("UnlikeUnion$Division", "leastDenominator", "I", false)
def tyX0 : Nat → FieldType := fun k => match k with
  | 0 => .object "UnlikeUnion$Tableau"
  | 1 => .array .int
  | 2 => .array .int
  | 3 => .int
  | 4 => .int
  | _ => .int
abbrev wsX00 : List Cond := u_ws RX0 TX0 6
theorem nmX0 : ∀ a, a < 6 → ∀ b, b < 6 → a ≠ b → (TX0 a).2.1 ≠ (TX0 b).2.1 := by decide +kernel
theorem tyX0_ok : ∀ k, k < 6 → parseFieldDescriptor (TX0 k).2.2.1 = some (tyX0 k) := by decide +kernel
abbrev cX0_init : ByteArray := prog_2_method_1_code
def yX0_init : MethodName := ⟨RX0, "<init>", "()V"⟩
abbrev cX0_make : ByteArray := prog_2_method_2_code
def yX0_make : MethodName := ⟨RX0, "make", "(LUnlikeUnion$Jobs;)V"⟩
abbrev cX0_findLeast : ByteArray := prog_2_method_3_code
def yX0_findLeast : MethodName := ⟨RX0, "findLeast", "(LUnlikeUnion$Jobs;)V"⟩
abbrev cX0_canKeep : ByteArray := prog_2_method_4_code
def yX0_canKeep : MethodName := ⟨RX0, "canKeep", "(LUnlikeUnion$Jobs;I)Z"⟩
abbrev cX0_findShares : ByteArray := prog_2_method_5_code
def yX0_findShares : MethodName := ⟨RX0, "findShares", "(LUnlikeUnion$Jobs;)V"⟩
abbrev cX0_wholeMachine : ByteArray := prog_2_method_6_code
def yX0_wholeMachine : MethodName := ⟨RX0, "wholeMachine", "(I)I"⟩
abbrev cX0_hasShare : ByteArray := prog_2_method_7_code
def yX0_hasShare : MethodName := ⟨RX0, "hasShare", "(II)Z"⟩
abbrev cX0_commonDivisor : ByteArray := prog_2_method_8_code
def yX0_commonDivisor : MethodName := ⟨RX0, "commonDivisor", "(JJ)J"⟩
def RX1 : String := "UnlikeUnion$Jobs"
def TX1 : u_T := fun k => match k with
  | 0 => ("UnlikeUnion$Jobs", "times", "[I", true)
  | _ => ("UnlikeUnion$Jobs", "count", "I", false)
def tyX1 : Nat → FieldType := fun k => match k with
  | 0 => .array .int
  | _ => .int
abbrev wsX10 : List Cond := u_ws RX1 TX1 2
theorem nmX1 : ∀ a, a < 2 → ∀ b, b < 2 → a ≠ b → (TX1 a).2.1 ≠ (TX1 b).2.1 := by decide +kernel
theorem tyX1_ok : ∀ k, k < 2 → parseFieldDescriptor (TX1 k).2.2.1 = some (tyX1 k) := by decide +kernel
abbrev cX1_init : ByteArray := prog_3_method_1_code
def yX1_init : MethodName := ⟨RX1, "<init>", "()V"⟩
abbrev cX1_timeOn : ByteArray := prog_3_method_2_code
def yX1_timeOn : MethodName := ⟨RX1, "timeOn", "(II)I"⟩
abbrev cX1_loadOn : ByteArray := prog_3_method_3_code
def yX1_loadOn : MethodName := ⟨RX1, "loadOn", "([II)I"⟩
abbrev cX1_greatestLoad : ByteArray := prog_3_method_4_code
def yX1_greatestLoad : MethodName := ⟨RX1, "greatestLoad", "([I)I"⟩
def RX2 : String := "UnlikeUnion$OwnPlan"
def TX2 : u_T := fun k => match k with
  | 0 => ("UnlikeUnion$OwnPlan", "machineOf", "[I", true)
  | 1 => ("UnlikeUnion$OwnPlan", "bestRank", "I", false)
  | 2 => ("UnlikeUnion$OwnPlan", "bestJob", "I", false)
  | 3 => ("UnlikeUnion$OwnPlan", "bestOther", "I", false)
  | _ => ("UnlikeUnion$OwnPlan", "bestMachine", "I", false)
def tyX2 : Nat → FieldType := fun k => match k with
  | 0 => .array .int
  | 1 => .int
  | 2 => .int
  | 3 => .int
  | _ => .int
abbrev wsX20 : List Cond := u_ws RX2 TX2 5
theorem nmX2 : ∀ a, a < 5 → ∀ b, b < 5 → a ≠ b → (TX2 a).2.1 ≠ (TX2 b).2.1 := by decide +kernel
theorem tyX2_ok : ∀ k, k < 5 → parseFieldDescriptor (TX2 k).2.2.1 = some (tyX2 k) := by decide +kernel
abbrev cX2_init : ByteArray := prog_4_method_1_code
def yX2_init : MethodName := ⟨RX2, "<init>", "()V"⟩
abbrev cX2_makeBestChange : ByteArray := prog_4_method_2_code
def yX2_makeBestChange : MethodName := ⟨RX2, "makeBestChange", "(LUnlikeUnion$Jobs;)Z"⟩
abbrev cX2_meetMoves : ByteArray := prog_4_method_3_code
def yX2_meetMoves : MethodName := ⟨RX2, "meetMoves", "(LUnlikeUnion$Jobs;I)V"⟩
abbrev cX2_meetSwaps : ByteArray := prog_4_method_4_code
def yX2_meetSwaps : MethodName := ⟨RX2, "meetSwaps", "(LUnlikeUnion$Jobs;I)V"⟩
abbrev cX2_meet : ByteArray := prog_4_method_5_code
def yX2_meet : MethodName := ⟨RX2, "meet", "(IIII)V"⟩
abbrev cX2_swap : ByteArray := prog_4_method_6_code
def yX2_swap : MethodName := ⟨RX2, "swap", "(II)V"⟩
abbrev cX2_rank : ByteArray := prog_4_method_7_code
def yX2_rank : MethodName := ⟨RX2, "rank", "(LUnlikeUnion$Jobs;)I"⟩
def RX3 : String := "UnlikeUnion$PlanSearch"
def TX3 : u_T := fun k => match k with
  | 0 => ("UnlikeUnion$PlanSearch", "loads", "[I", true)
  | 1 => ("UnlikeUnion$PlanSearch", "chosen", "[I", true)
  | 2 => ("UnlikeUnion$PlanSearch", "best", "[I", true)
  | _ => ("UnlikeUnion$PlanSearch", "bestLength", "I", false)
def tyX3 : Nat → FieldType := fun k => match k with
  | 0 => .array .int
  | 1 => .array .int
  | 2 => .array .int
  | _ => .int
abbrev wsX30 : List Cond := u_ws RX3 TX3 4
theorem nmX3 : ∀ a, a < 4 → ∀ b, b < 4 → a ≠ b → (TX3 a).2.1 ≠ (TX3 b).2.1 := by decide +kernel
theorem tyX3_ok : ∀ k, k < 4 → parseFieldDescriptor (TX3 k).2.2.1 = some (tyX3 k) := by decide +kernel
abbrev cX3_init : ByteArray := prog_5_method_1_code
def yX3_init : MethodName := ⟨RX3, "<init>", "()V"⟩
abbrev cX3_find : ByteArray := prog_5_method_2_code
def yX3_find : MethodName := ⟨RX3, "find", "(LUnlikeUnion$Jobs;)V"⟩
abbrev cX3_tryAll : ByteArray := prog_5_method_3_code
def yX3_tryAll : MethodName := ⟨RX3, "tryAll", "(LUnlikeUnion$Jobs;)I"⟩
abbrev cX3_searchFrom : ByteArray := prog_5_method_4_code
def yX3_searchFrom : MethodName := ⟨RX3, "searchFrom", "(LUnlikeUnion$PlanSearch;LUnlikeUnion$Jobs;I)V"⟩
abbrev cX3_tryFrom : ByteArray := prog_5_method_5_code
def yX3_tryFrom : MethodName := ⟨RX3, "tryFrom", "(LUnlikeUnion$PlanSearch;LUnlikeUnion$Jobs;I)I"⟩
abbrev cX3_clearLoads : ByteArray := prog_5_method_6_code
def yX3_clearLoads : MethodName := ⟨RX3, "clearLoads", "()V"⟩
abbrev cX3_greatest : ByteArray := prog_5_method_7_code
def yX3_greatest : MethodName := ⟨RX3, "greatest", "()I"⟩
abbrev cX3_keep : ByteArray := prog_5_method_8_code
def yX3_keep : MethodName := ⟨RX3, "keep", "(I)V"⟩
def RX4 : String := "UnlikeUnion$Rounding"
def TX4 : u_T := fun k => match k with
  | _ => ("UnlikeUnion$Rounding", "machineOf", "[I", true)
def tyX4 : Nat → FieldType := fun k => match k with
  | _ => .array .int
abbrev wsX40 : List Cond := u_ws RX4 TX4 1
theorem nmX4 : ∀ a, a < 1 → ∀ b, b < 1 → a ≠ b → (TX4 a).2.1 ≠ (TX4 b).2.1 := by decide +kernel
theorem tyX4_ok : ∀ k, k < 1 → parseFieldDescriptor (TX4 k).2.2.1 = some (tyX4 k) := by decide +kernel
abbrev cX4_init : ByteArray := prog_6_method_1_code
def yX4_init : MethodName := ⟨RX4, "<init>", "()V"⟩
abbrev cX4_make : ByteArray := prog_6_method_2_code
def yX4_make : MethodName := ⟨RX4, "make", "(LUnlikeUnion$Jobs;LUnlikeUnion$Division;)V"⟩
abbrev cX4_matchFrom : ByteArray := prog_6_method_3_code
def yX4_matchFrom : MethodName := ⟨RX4, "matchFrom", "(LUnlikeUnion$Rounding;LUnlikeUnion$Jobs;LUnlikeUnion$Division;II)Z"⟩
def RX5 : String := "UnlikeUnion$Tableau"
def TX5 : u_T := fun k => match k with
  | 0 => ("UnlikeUnion$Tableau", "cells", "[[J", true)
  | 1 => ("UnlikeUnion$Tableau", "basic", "[I", true)
  | 2 => ("UnlikeUnion$Tableau", "allowed", "[Z", true)
  | 3 => ("UnlikeUnion$Tableau", "rows", "I", false)
  | _ => ("UnlikeUnion$Tableau", "scale", "J", false)
def tyX5 : Nat → FieldType := fun k => match k with
  | 0 => .array (.array .long)
  | 1 => .array .int
  | 2 => .array .boolean
  | 3 => .int
  | _ => .long
abbrev wsX50 : List Cond := u_ws RX5 TX5 5
theorem nmX5 : ∀ a, a < 5 → ∀ b, b < 5 → a ≠ b → (TX5 a).2.1 ≠ (TX5 b).2.1 := by decide +kernel
theorem tyX5_ok : ∀ k, k < 5 → parseFieldDescriptor (TX5 k).2.2.1 = some (tyX5 k) := by decide +kernel
abbrev cX5_init : ByteArray := prog_7_method_1_code
def yX5_init : MethodName := ⟨RX5, "<init>", "()V"⟩
abbrev cX5_start : ByteArray := prog_7_method_2_code
def yX5_start : MethodName := ⟨RX5, "start", "(LUnlikeUnion$Jobs;II)Z"⟩
abbrev cX5_clear : ByteArray := prog_7_method_3_code
def yX5_clear : MethodName := ⟨RX5, "clear", "(I)V"⟩
abbrev cX5_layJob : ByteArray := prog_7_method_4_code
def yX5_layJob : MethodName := ⟨RX5, "layJob", "(LUnlikeUnion$Jobs;II)Z"⟩
abbrev cX5_clearBasic : ByteArray := prog_7_method_5_code
def yX5_clearBasic : MethodName := ⟨RX5, "clearBasic", "(I)Z"⟩
abbrev cX5_admitExcess : ByteArray := prog_7_method_6_code
def yX5_admitExcess : MethodName := ⟨RX5, "admitExcess", "()V"⟩
abbrev cX5_lowerExcess : ByteArray := prog_7_method_7_code
def yX5_lowerExcess : MethodName := ⟨RX5, "lowerExcess", "()Z"⟩
abbrev cX5_raise : ByteArray := prog_7_method_8_code
def yX5_raise : MethodName := ⟨RX5, "raise", "(I)V"⟩
abbrev cX5_hold : ByteArray := prog_7_method_9_code
def yX5_hold : MethodName := ⟨RX5, "hold", "(I)V"⟩
abbrev cX5_scaledValue : ByteArray := prog_7_method_10_code
def yX5_scaledValue : MethodName := ⟨RX5, "scaledValue", "(I)J"⟩
abbrev cX5_rowOf : ByteArray := prog_7_method_11_code
def yX5_rowOf : MethodName := ⟨RX5, "rowOf", "(I)I"⟩
abbrev cX5_columnWithSign : ByteArray := prog_7_method_12_code
def yX5_columnWithSign : MethodName := ⟨RX5, "columnWithSign", "(II)I"⟩
abbrev cX5_enter : ByteArray := prog_7_method_13_code
def yX5_enter : MethodName := ⟨RX5, "enter", "(I)Z"⟩
abbrev cX5_leavingRow : ByteArray := prog_7_method_14_code
def yX5_leavingRow : MethodName := ⟨RX5, "leavingRow", "(I)I"⟩
def RX6 : String := "UnlikeUnion"
def TX6 : u_T := fun k => match k with
  | 0 => ("UnlikeUnion", "list", "LUnlikeUnion$Jobs;", true)
  | 1 => ("UnlikeUnion", "own", "LUnlikeUnion$OwnPlan;", true)
  | 2 => ("UnlikeUnion", "search", "LUnlikeUnion$PlanSearch;", true)
  | 3 => ("UnlikeUnion", "division", "LUnlikeUnion$Division;", true)
  | 4 => ("UnlikeUnion", "rounding", "LUnlikeUnion$Rounding;", true)
  | 5 => ("UnlikeUnion", "searchStands", "Z", false)
  | _ => ("UnlikeUnion", "divisionStands", "Z", false)
def tyX6 : Nat → FieldType := fun k => match k with
  | 0 => .object "UnlikeUnion$Jobs"
  | 1 => .object "UnlikeUnion$OwnPlan"
  | 2 => .object "UnlikeUnion$PlanSearch"
  | 3 => .object "UnlikeUnion$Division"
  | 4 => .object "UnlikeUnion$Rounding"
  | 5 => .boolean
  | _ => .boolean
abbrev wsX60 : List Cond := u_ws RX6 TX6 7
theorem nmX6 : ∀ a, a < 7 → ∀ b, b < 7 → a ≠ b → (TX6 a).2.1 ≠ (TX6 b).2.1 := by decide +kernel
theorem tyX6_ok : ∀ k, k < 7 → parseFieldDescriptor (TX6 k).2.2.1 = some (tyX6 k) := by decide +kernel
abbrev cX6_init : ByteArray := prog_1_method_1_code
def yX6_init : MethodName := ⟨RX6, "<init>", "()V"⟩
abbrev cX6_addJob : ByteArray := prog_1_method_2_code
def yX6_addJob : MethodName := ⟨RX6, "addJob", "(III)I"⟩
abbrev cX6_setTime : ByteArray := prog_1_method_3_code
def yX6_setTime : MethodName := ⟨RX6, "setTime", "(III)I"⟩
abbrev cX6_removeLast : ByteArray := prog_1_method_4_code
def yX6_removeLast : MethodName := ⟨RX6, "removeLast", "()I"⟩
abbrev cX6_jobs : ByteArray := prog_1_method_5_code
def yX6_jobs : MethodName := ⟨RX6, "jobs", "()I"⟩
abbrev cX6_time : ByteArray := prog_1_method_6_code
def yX6_time : MethodName := ⟨RX6, "time", "(II)I"⟩
abbrev cX6_shortest : ByteArray := prog_1_method_7_code
def yX6_shortest : MethodName := ⟨RX6, "shortest", "()I"⟩
abbrev cX6_shortestByTrying : ByteArray := prog_1_method_8_code
def yX6_shortestByTrying : MethodName := ⟨RX6, "shortestByTrying", "()I"⟩
abbrev cX6_shortestMachine : ByteArray := prog_1_method_9_code
def yX6_shortestMachine : MethodName := ⟨RX6, "shortestMachine", "(I)I"⟩
abbrev cX6_bound : ByteArray := prog_1_method_10_code
def yX6_bound : MethodName := ⟨RX6, "bound", "()I"⟩
abbrev cX6_numerator : ByteArray := prog_1_method_11_code
def yX6_numerator : MethodName := ⟨RX6, "numerator", "(II)I"⟩
abbrev cX6_denominator : ByteArray := prog_1_method_12_code
def yX6_denominator : MethodName := ⟨RX6, "denominator", "(II)I"⟩
abbrev cX6_isDivided : ByteArray := prog_1_method_13_code
def yX6_isDivided : MethodName := ⟨RX6, "isDivided", "(I)Z"⟩
abbrev cX6_leastNumerator : ByteArray := prog_1_method_14_code
def yX6_leastNumerator : MethodName := ⟨RX6, "leastNumerator", "()I"⟩
abbrev cX6_leastDenominator : ByteArray := prog_1_method_15_code
def yX6_leastDenominator : MethodName := ⟨RX6, "leastDenominator", "()I"⟩
abbrev cX6_roundedMachine : ByteArray := prog_1_method_16_code
def yX6_roundedMachine : MethodName := ⟨RX6, "roundedMachine", "(I)I"⟩
abbrev cX6_roundedLength : ByteArray := prog_1_method_17_code
def yX6_roundedLength : MethodName := ⟨RX6, "roundedLength", "()I"⟩
abbrev cX6_excess : ByteArray := prog_1_method_18_code
def yX6_excess : MethodName := ⟨RX6, "excess", "()F"⟩
abbrev cX6_assign : ByteArray := prog_1_method_19_code
def yX6_assign : MethodName := ⟨RX6, "assign", "(II)I"⟩
abbrev cX6_machine : ByteArray := prog_1_method_20_code
def yX6_machine : MethodName := ⟨RX6, "machine", "(I)I"⟩
abbrev cX6_load : ByteArray := prog_1_method_21_code
def yX6_load : MethodName := ⟨RX6, "load", "(I)I"⟩
abbrev cX6_length : ByteArray := prog_1_method_22_code
def yX6_length : MethodName := ⟨RX6, "length", "()I"⟩
abbrev cX6_improve : ByteArray := prog_1_method_23_code
def yX6_improve : MethodName := ⟨RX6, "improve", "()I"⟩
abbrev cX6_takeRounded : ByteArray := prog_1_method_24_code
def yX6_takeRounded : MethodName := ⟨RX6, "takeRounded", "()I"⟩
abbrev cX6_isTime : ByteArray := prog_1_method_25_code
def yX6_isTime : MethodName := ⟨RX6, "isTime", "(I)Z"⟩
abbrev cX6_requireJob : ByteArray := prog_1_method_26_code
def yX6_requireJob : MethodName := ⟨RX6, "requireJob", "(I)V"⟩
abbrev cX6_requireMachine : ByteArray := prog_1_method_27_code
def yX6_requireMachine : MethodName := ⟨RX6, "requireMachine", "(I)V"⟩
abbrev cX6_forgetResults : ByteArray := prog_1_method_28_code
def yX6_forgetResults : MethodName := ⟨RX6, "forgetResults", "()V"⟩
abbrev cX6_refreshSearch : ByteArray := prog_1_method_29_code
def yX6_refreshSearch : MethodName := ⟨RX6, "refreshSearch", "()V"⟩
abbrev cX6_refreshDivision : ByteArray := prog_1_method_30_code
def yX6_refreshDivision : MethodName := ⟨RX6, "refreshDivision", "()V"⟩
def RX7 : String := "UnlikeUnionModel"
def TX7 : u_T := fun k => match k with
  | _ => ("", "", "", false)
def tyX7 : Nat → FieldType := fun k => match k with
  | _ => .int
abbrev wsX70 : List Cond := u_ws RX7 TX7 0
theorem nmX7 : ∀ a, a < 0 → ∀ b, b < 0 → a ≠ b → (TX7 a).2.1 ≠ (TX7 b).2.1 := by decide +kernel
theorem tyX7_ok : ∀ k, k < 0 → parseFieldDescriptor (TX7 k).2.2.1 = some (tyX7 k) := by decide +kernel
def RJ9 : String := "java/lang/Math"
def TJ9 : u_T := fun k => match k with
  | _ => ("", "", "", false)
def tyJ9 : Nat → FieldType := fun k => match k with
  | _ => .int
abbrev wsJ90 : List Cond := u_ws RJ9 TJ9 0
theorem nmJ9 : ∀ a, a < 0 → ∀ b, b < 0 → a ≠ b → (TJ9 a).2.1 ≠ (TJ9 b).2.1 := by decide +kernel
theorem tyJ9_ok : ∀ k, k < 0 → parseFieldDescriptor (TJ9 k).2.2.1 = some (tyJ9 k) := by decide +kernel
abbrev cJ9_max_7cf53 : ByteArray := prog_14_method_65_code
def yJ9_max_7cf53 : MethodName := ⟨RJ9, "max", "(II)I"⟩
abbrev cJ9_min_7cf53 : ByteArray := prog_14_method_69_code
def yJ9_min_7cf53 : MethodName := ⟨RJ9, "min", "(II)I"⟩
def RJ0 : String := "java/lang/String"
def TJ0 : u_T := fun k => match k with
  | _ => ("", "", "", false)
def tyJ0 : Nat → FieldType := fun k => match k with
  | _ => .int
abbrev wsJ00 : List Cond := u_ws RJ0 TJ0 0
theorem nmJ0 : ∀ a, a < 0 → ∀ b, b < 0 → a ≠ b → (TJ0 a).2.1 ≠ (TJ0 b).2.1 := by decide +kernel
theorem tyJ0_ok : ∀ k, k < 0 → parseFieldDescriptor (TJ0 k).2.2.1 = some (tyJ0 k) := by decide +kernel
def RL : String := "UnlikeUnionLaw"
abbrev cL_cell : ByteArray := method_2_code
def yL_cell : MethodName := ⟨RL, "cell", "([II)I"⟩
abbrev cL_addJob : ByteArray := method_3_code
def yL_addJob : MethodName := ⟨RL, "addJob", "(LUnlikeUnion;III)I"⟩
abbrev cL_setTime : ByteArray := method_4_code
def yL_setTime : MethodName := ⟨RL, "setTime", "(LUnlikeUnion;III)I"⟩
abbrev cL_time : ByteArray := method_5_code
def yL_time : MethodName := ⟨RL, "time", "(LUnlikeUnion;II)I"⟩
abbrev cL_shortestOn : ByteArray := method_6_code
def yL_shortestOn : MethodName := ⟨RL, "shortestOn", "(LUnlikeUnion;I)I"⟩
abbrev cL_numerator : ByteArray := method_7_code
def yL_numerator : MethodName := ⟨RL, "numerator", "(LUnlikeUnion;II)I"⟩
abbrev cL_denominator : ByteArray := method_8_code
def yL_denominator : MethodName := ⟨RL, "denominator", "(LUnlikeUnion;II)I"⟩
abbrev cL_divided : ByteArray := method_9_code
def yL_divided : MethodName := ⟨RL, "divided", "(LUnlikeUnion;I)I"⟩
abbrev cL_roundedOn : ByteArray := method_10_code
def yL_roundedOn : MethodName := ⟨RL, "roundedOn", "(LUnlikeUnion;I)I"⟩
abbrev cL_assign : ByteArray := method_11_code
def yL_assign : MethodName := ⟨RL, "assign", "(LUnlikeUnion;II)I"⟩
abbrev cL_machine : ByteArray := method_12_code
def yL_machine : MethodName := ⟨RL, "machine", "(LUnlikeUnion;I)I"⟩
abbrev cL_load : ByteArray := method_13_code
def yL_load : MethodName := ⟨RL, "load", "(LUnlikeUnion;I)I"⟩
abbrev cL_common : ByteArray := method_14_code
def yL_common : MethodName := ⟨RL, "common", "(JJ)J"⟩
abbrev cL_isWithin : ByteArray := method_15_code
def yL_isWithin : MethodName := ⟨RL, "isWithin", "(LUnlikeUnion;II)Z"⟩
abbrev cL_divides : ByteArray := method_16_code
def yL_divides : MethodName := ⟨RL, "divides", "(LUnlikeUnion;)Z"⟩
abbrev cL_plans : ByteArray := method_17_code
def yL_plans : MethodName := ⟨RL, "plans", "(LUnlikeUnion;)Z"⟩
abbrev cL_law : ByteArray := code
def yL_law : MethodName := ⟨RL, "law", "([I)Z"⟩
def wsX5_init : List Cond := .code yX5_init cX5_init 1 none :: ([.methodLink RX5 5 objectInit, .instanceMethod objectInit, .code objectInit ⟨#[0xb1]⟩ 1 none, .classLink RX5 11 "[[J", .arrayClass .long, .fieldLink RX5 13 "UnlikeUnion$Tableau" "cells" "[[J", .arrayClass .int, .fieldLink RX5 16 "UnlikeUnion$Tableau" "basic" "[I", .arrayClass .boolean, .fieldLink RX5 20 "UnlikeUnion$Tableau" "allowed" "[Z"] ++ wsX50)
def wsX0_init : List Cond := .code yX0_init cX0_init 1 none :: ([.methodLink RX0 3 objectInit, .instanceMethod objectInit, .code objectInit ⟨#[0xb1]⟩ 1 none, .classLink RX0 9 RX5, .instantiable RX5 5, .initialized RX5, .fieldLink RX0 12 "UnlikeUnion$Division" "tableau" "LUnlikeUnion$Tableau;", .arrayClass .int, .fieldLink RX0 18 "UnlikeUnion$Division" "numerators" "[I", .fieldLink RX0 22 "UnlikeUnion$Division" "denominators" "[I", .instanceMethod yX5_init, .code yX5_init cX5_init 1 none, .methodLink RX5 5 objectInit, .classLink RX5 11 "[[J", .arrayClass .long, .fieldLink RX5 13 "UnlikeUnion$Tableau" "cells" "[[J", .fieldLink RX5 16 "UnlikeUnion$Tableau" "basic" "[I", .arrayClass .boolean, .fieldLink RX5 20 "UnlikeUnion$Tableau" "allowed" "[Z"] ++ wsX50 ++ wsX00)
def wsX5_clear : List Cond := .code yX5_clear cX5_clear 4 none :: ([.methodLink RX5 43 Lib.Math.min.name, .static Lib.Math.min.name, .initialized "java/lang/Math", .code Lib.Math.min.name Lib.Math.min.code 2 (some .int), .fieldLink RX5 49 "UnlikeUnion$Tableau" "rows" "I", .fieldLink RX5 52 "UnlikeUnion$Tableau" "scale" "J", .fieldLink RX5 16 "UnlikeUnion$Tableau" "basic" "[I", .fieldLink RX5 13 "UnlikeUnion$Tableau" "cells" "[[J", .fieldLink RX5 20 "UnlikeUnion$Tableau" "allowed" "[Z"] ++ wsX50)
def wsX1_timeOn : List Cond := .code yX1_timeOn cX1_timeOn 3 (some .int) :: ([.fieldLink RX1 15 "UnlikeUnion$Jobs" "count" "I", .fieldLink RX1 9 "UnlikeUnion$Jobs" "times" "[I"] ++ wsX10)
def wsX5_clearBasic : List Cond := .code yX5_clearBasic cX5_clearBasic 7 (some .boolean) :: ([.fieldLink RX5 16 "UnlikeUnion$Tableau" "basic" "[I", .fieldLink RX5 13 "UnlikeUnion$Tableau" "cells" "[[J"] ++ wsX50)
def wsX5_layJob : List Cond := .code yX5_layJob cX5_layJob 8 (some .boolean) :: ([.fieldLink RX5 13 "UnlikeUnion$Tableau" "cells" "[[J", .fieldLink RX5 20 "UnlikeUnion$Tableau" "allowed" "[Z", .fieldLink RX5 16 "UnlikeUnion$Tableau" "basic" "[I", .methodLink RX5 56 yX1_timeOn, .instanceMethod yX1_timeOn, .selects RX1 yX1_timeOn yX1_timeOn, .initialized RX1, .code yX1_timeOn cX1_timeOn 3 (some .int), .fieldLink RX1 15 "UnlikeUnion$Jobs" "count" "I", .fieldLink RX1 9 "UnlikeUnion$Jobs" "times" "[I", .methodLink RX5 59 yX5_clearBasic, .instanceMethod yX5_clearBasic, .selects RX5 yX5_clearBasic yX5_clearBasic, .initialized RX5, .code yX5_clearBasic cX5_clearBasic 7 (some .boolean)] ++ wsX50 ++ wsX10)
def wsX5_admitExcess : List Cond := .code yX5_admitExcess cX5_admitExcess 4 none :: ([.fieldLink RX5 13 "UnlikeUnion$Tableau" "cells" "[[J", .fieldLink RX5 16 "UnlikeUnion$Tableau" "basic" "[I"] ++ wsX50)
def wsX5_start_r1 : List Cond := [Cond.fieldLink RX5 13 "UnlikeUnion$Tableau" "cells" "[[J", Cond.constantLong RX5 34 (-1), Cond.fieldLink RX5 16 "UnlikeUnion$Tableau" "basic" "[I", Cond.fieldLink RX5 20 "UnlikeUnion$Tableau" "allowed" "[Z", Cond.methodLink RX5 30 yX5_clear, Cond.instanceMethod yX5_clear, Cond.selects RX5 yX5_clear yX5_clear, Cond.initialized RX5, Cond.code yX5_clear cX5_clear 4 none, Cond.methodLink RX5 43 Lib.Math.min.name, Cond.static Lib.Math.min.name, Cond.initialized "java/lang/Math", Cond.code Lib.Math.min.name Lib.Math.min.code 2 (some .int), Cond.fieldLink RX5 49 "UnlikeUnion$Tableau" "rows" "I", Cond.fieldLink RX5 52 "UnlikeUnion$Tableau" "scale" "J", Cond.methodLink RX5 36 yX5_layJob, Cond.instanceMethod yX5_layJob, Cond.selects RX5 yX5_layJob yX5_layJob, Cond.code yX5_layJob cX5_layJob 8 (some .boolean), Cond.methodLink RX5 56 yX1_timeOn, Cond.instanceMethod yX1_timeOn, Cond.selects RX1 yX1_timeOn yX1_timeOn, Cond.initialized RX1, Cond.code yX1_timeOn cX1_timeOn 3 (some .int)]
def wsX5_start_r2 : List Cond := [Cond.fieldLink RX1 15 "UnlikeUnion$Jobs" "count" "I", Cond.fieldLink RX1 9 "UnlikeUnion$Jobs" "times" "[I", Cond.methodLink RX5 59 yX5_clearBasic, Cond.instanceMethod yX5_clearBasic, Cond.selects RX5 yX5_clearBasic yX5_clearBasic, Cond.code yX5_clearBasic cX5_clearBasic 7 (some .boolean), Cond.methodLink RX5 40 yX5_admitExcess, Cond.instanceMethod yX5_admitExcess, Cond.selects RX5 yX5_admitExcess yX5_admitExcess, Cond.code yX5_admitExcess cX5_admitExcess 4 none]
def wsX5_start : List Cond := .code yX5_start cX5_start 6 (some .boolean) :: ((wsX5_start_r1 ++ wsX5_start_r2) ++ wsX10 ++ wsX50)
def wsX5_rowOf : List Cond := .code yX5_rowOf cX5_rowOf 3 (some .int) :: ([.fieldLink RX5 49 "UnlikeUnion$Tableau" "rows" "I", .fieldLink RX5 16 "UnlikeUnion$Tableau" "basic" "[I"] ++ wsX50)
def wsX5_columnWithSign : List Cond := .code yX5_columnWithSign cX5_columnWithSign 4 (some .int) :: ([.fieldLink RX5 20 "UnlikeUnion$Tableau" "allowed" "[Z", .fieldLink RX5 13 "UnlikeUnion$Tableau" "cells" "[[J"] ++ wsX50)
def wsX5_leavingRow : List Cond := .code yX5_leavingRow cX5_leavingRow 8 (some .int) :: ([.fieldLink RX5 49 "UnlikeUnion$Tableau" "rows" "I", .fieldLink RX5 13 "UnlikeUnion$Tableau" "cells" "[[J", .fieldLink RX5 16 "UnlikeUnion$Tableau" "basic" "[I"] ++ wsX50)
def wsX5_enter : List Cond := .code yX5_enter cX5_enter 9 (some .boolean) :: ([.fieldLink RX5 52 "UnlikeUnion$Tableau" "scale" "J", .fieldLink RX5 13 "UnlikeUnion$Tableau" "cells" "[[J", .fieldLink RX5 49 "UnlikeUnion$Tableau" "rows" "I", .fieldLink RX5 16 "UnlikeUnion$Tableau" "basic" "[I", .methodLink RX5 77 yX5_leavingRow, .instanceMethod yX5_leavingRow, .selects RX5 yX5_leavingRow yX5_leavingRow, .initialized RX5, .code yX5_leavingRow cX5_leavingRow 8 (some .int)] ++ wsX50)
def wsX5_lowerExcess : List Cond := .code yX5_lowerExcess cX5_lowerExcess 4 (some .boolean) :: ([.constant RX5 63 (1000000), .methodLink RX5 64 yX5_rowOf, .instanceMethod yX5_rowOf, .selects RX5 yX5_rowOf yX5_rowOf, .initialized RX5, .code yX5_rowOf cX5_rowOf 3 (some .int), .fieldLink RX5 49 "UnlikeUnion$Tableau" "rows" "I", .fieldLink RX5 16 "UnlikeUnion$Tableau" "basic" "[I", .methodLink RX5 68 yX5_columnWithSign, .instanceMethod yX5_columnWithSign, .selects RX5 yX5_columnWithSign yX5_columnWithSign, .code yX5_columnWithSign cX5_columnWithSign 4 (some .int), .fieldLink RX5 20 "UnlikeUnion$Tableau" "allowed" "[Z", .fieldLink RX5 13 "UnlikeUnion$Tableau" "cells" "[[J", .methodLink RX5 71 yX5_enter, .instanceMethod yX5_enter, .selects RX5 yX5_enter yX5_enter, .code yX5_enter cX5_enter 9 (some .boolean), .fieldLink RX5 52 "UnlikeUnion$Tableau" "scale" "J", .methodLink RX5 77 yX5_leavingRow, .instanceMethod yX5_leavingRow, .selects RX5 yX5_leavingRow yX5_leavingRow, .code yX5_leavingRow cX5_leavingRow 8 (some .int)] ++ wsX50)
def wsX5_scaledValue : List Cond := .code yX5_scaledValue cX5_scaledValue 3 (some .long) :: ([.fieldLink RX5 13 "UnlikeUnion$Tableau" "cells" "[[J", .methodLink RX5 64 yX5_rowOf, .instanceMethod yX5_rowOf, .selects RX5 yX5_rowOf yX5_rowOf, .initialized RX5, .code yX5_rowOf cX5_rowOf 3 (some .int), .fieldLink RX5 49 "UnlikeUnion$Tableau" "rows" "I", .fieldLink RX5 16 "UnlikeUnion$Tableau" "basic" "[I"] ++ wsX50)
def wsX0_commonDivisor : List Cond := .code yX0_commonDivisor cX0_commonDivisor 11 (some .long) :: ([])
def wsX0_findLeast_r1 : List Cond := [Cond.fieldLink RX0 12 "UnlikeUnion$Division" "tableau" "LUnlikeUnion$Tableau;", Cond.fieldLink RX0 60 "UnlikeUnion$Division" "leastNumerator" "I", Cond.fieldLink RX0 63 "UnlikeUnion$Division" "leastDenominator" "I", Cond.methodLink RX0 40 yX5_start, Cond.instanceMethod yX5_start, Cond.selects RX5 yX5_start yX5_start, Cond.initialized RX5, Cond.code yX5_start cX5_start 6 (some .boolean), Cond.fieldLink RX5 13 "UnlikeUnion$Tableau" "cells" "[[J", Cond.constantLong RX5 34 (-1), Cond.fieldLink RX5 16 "UnlikeUnion$Tableau" "basic" "[I", Cond.fieldLink RX5 20 "UnlikeUnion$Tableau" "allowed" "[Z", Cond.methodLink RX5 30 yX5_clear, Cond.instanceMethod yX5_clear, Cond.selects RX5 yX5_clear yX5_clear, Cond.code yX5_clear cX5_clear 4 none, Cond.methodLink RX5 43 Lib.Math.min.name, Cond.static Lib.Math.min.name, Cond.initialized "java/lang/Math", Cond.code Lib.Math.min.name Lib.Math.min.code 2 (some .int), Cond.fieldLink RX5 49 "UnlikeUnion$Tableau" "rows" "I", Cond.fieldLink RX5 52 "UnlikeUnion$Tableau" "scale" "J", Cond.methodLink RX5 36 yX5_layJob, Cond.instanceMethod yX5_layJob]
def wsX0_findLeast_r2 : List Cond := [Cond.selects RX5 yX5_layJob yX5_layJob, Cond.code yX5_layJob cX5_layJob 8 (some .boolean), Cond.methodLink RX5 56 yX1_timeOn, Cond.instanceMethod yX1_timeOn, Cond.selects RX1 yX1_timeOn yX1_timeOn, Cond.initialized RX1, Cond.code yX1_timeOn cX1_timeOn 3 (some .int), Cond.fieldLink RX1 15 "UnlikeUnion$Jobs" "count" "I", Cond.fieldLink RX1 9 "UnlikeUnion$Jobs" "times" "[I", Cond.methodLink RX5 59 yX5_clearBasic, Cond.instanceMethod yX5_clearBasic, Cond.selects RX5 yX5_clearBasic yX5_clearBasic, Cond.code yX5_clearBasic cX5_clearBasic 7 (some .boolean), Cond.methodLink RX5 40 yX5_admitExcess, Cond.instanceMethod yX5_admitExcess, Cond.selects RX5 yX5_admitExcess yX5_admitExcess, Cond.code yX5_admitExcess cX5_admitExcess 4 none, Cond.methodLink RX0 44 yX5_lowerExcess, Cond.instanceMethod yX5_lowerExcess, Cond.selects RX5 yX5_lowerExcess yX5_lowerExcess, Cond.code yX5_lowerExcess cX5_lowerExcess 4 (some .boolean), Cond.constant RX5 63 (1000000), Cond.methodLink RX5 64 yX5_rowOf, Cond.instanceMethod yX5_rowOf]
def wsX0_findLeast_r3 : List Cond := [Cond.selects RX5 yX5_rowOf yX5_rowOf, Cond.code yX5_rowOf cX5_rowOf 3 (some .int), Cond.methodLink RX5 68 yX5_columnWithSign, Cond.instanceMethod yX5_columnWithSign, Cond.selects RX5 yX5_columnWithSign yX5_columnWithSign, Cond.code yX5_columnWithSign cX5_columnWithSign 4 (some .int), Cond.methodLink RX5 71 yX5_enter, Cond.instanceMethod yX5_enter, Cond.selects RX5 yX5_enter yX5_enter, Cond.code yX5_enter cX5_enter 9 (some .boolean), Cond.methodLink RX5 77 yX5_leavingRow, Cond.instanceMethod yX5_leavingRow, Cond.selects RX5 yX5_leavingRow yX5_leavingRow, Cond.code yX5_leavingRow cX5_leavingRow 8 (some .int), Cond.methodLink RX0 48 yX5_scaledValue, Cond.instanceMethod yX5_scaledValue, Cond.selects RX5 yX5_scaledValue yX5_scaledValue, Cond.code yX5_scaledValue cX5_scaledValue 3 (some .long), Cond.methodLink RX0 56 yX0_commonDivisor, Cond.static yX0_commonDivisor, Cond.initialized RX0, Cond.code yX0_commonDivisor cX0_commonDivisor 11 (some .long)]
def wsX0_findLeast : List Cond := .code yX0_findLeast cX0_findLeast 6 none :: ((wsX0_findLeast_r1 ++ (wsX0_findLeast_r2 ++ wsX0_findLeast_r3)) ++ wsX00 ++ wsX50 ++ wsX10)
def wsX0_canKeep_r1 : List Cond := [Cond.fieldLink RX0 12 "UnlikeUnion$Division" "tableau" "LUnlikeUnion$Tableau;", Cond.methodLink RX0 40 yX5_start, Cond.instanceMethod yX5_start, Cond.selects RX5 yX5_start yX5_start, Cond.initialized RX5, Cond.code yX5_start cX5_start 6 (some .boolean), Cond.fieldLink RX5 13 "UnlikeUnion$Tableau" "cells" "[[J", Cond.constantLong RX5 34 (-1), Cond.fieldLink RX5 16 "UnlikeUnion$Tableau" "basic" "[I", Cond.fieldLink RX5 20 "UnlikeUnion$Tableau" "allowed" "[Z", Cond.methodLink RX5 30 yX5_clear, Cond.instanceMethod yX5_clear, Cond.selects RX5 yX5_clear yX5_clear, Cond.code yX5_clear cX5_clear 4 none, Cond.methodLink RX5 43 Lib.Math.min.name, Cond.static Lib.Math.min.name, Cond.initialized "java/lang/Math", Cond.code Lib.Math.min.name Lib.Math.min.code 2 (some .int), Cond.fieldLink RX5 49 "UnlikeUnion$Tableau" "rows" "I", Cond.fieldLink RX5 52 "UnlikeUnion$Tableau" "scale" "J", Cond.methodLink RX5 36 yX5_layJob, Cond.instanceMethod yX5_layJob, Cond.selects RX5 yX5_layJob yX5_layJob, Cond.code yX5_layJob cX5_layJob 8 (some .boolean)]
def wsX0_canKeep_r2 : List Cond := [Cond.methodLink RX5 56 yX1_timeOn, Cond.instanceMethod yX1_timeOn, Cond.selects RX1 yX1_timeOn yX1_timeOn, Cond.initialized RX1, Cond.code yX1_timeOn cX1_timeOn 3 (some .int), Cond.fieldLink RX1 15 "UnlikeUnion$Jobs" "count" "I", Cond.fieldLink RX1 9 "UnlikeUnion$Jobs" "times" "[I", Cond.methodLink RX5 59 yX5_clearBasic, Cond.instanceMethod yX5_clearBasic, Cond.selects RX5 yX5_clearBasic yX5_clearBasic, Cond.code yX5_clearBasic cX5_clearBasic 7 (some .boolean), Cond.methodLink RX5 40 yX5_admitExcess, Cond.instanceMethod yX5_admitExcess, Cond.selects RX5 yX5_admitExcess yX5_admitExcess, Cond.code yX5_admitExcess cX5_admitExcess 4 none, Cond.methodLink RX0 44 yX5_lowerExcess, Cond.instanceMethod yX5_lowerExcess, Cond.selects RX5 yX5_lowerExcess yX5_lowerExcess, Cond.code yX5_lowerExcess cX5_lowerExcess 4 (some .boolean), Cond.constant RX5 63 (1000000), Cond.methodLink RX5 64 yX5_rowOf, Cond.instanceMethod yX5_rowOf, Cond.selects RX5 yX5_rowOf yX5_rowOf, Cond.code yX5_rowOf cX5_rowOf 3 (some .int)]
def wsX0_canKeep_r3 : List Cond := [Cond.methodLink RX5 68 yX5_columnWithSign, Cond.instanceMethod yX5_columnWithSign, Cond.selects RX5 yX5_columnWithSign yX5_columnWithSign, Cond.code yX5_columnWithSign cX5_columnWithSign 4 (some .int), Cond.methodLink RX5 71 yX5_enter, Cond.instanceMethod yX5_enter, Cond.selects RX5 yX5_enter yX5_enter, Cond.code yX5_enter cX5_enter 9 (some .boolean), Cond.methodLink RX5 77 yX5_leavingRow, Cond.instanceMethod yX5_leavingRow, Cond.selects RX5 yX5_leavingRow yX5_leavingRow, Cond.code yX5_leavingRow cX5_leavingRow 8 (some .int)]
def wsX0_canKeep : List Cond := .code yX0_canKeep cX0_canKeep 3 (some .boolean) :: ((wsX0_canKeep_r1 ++ (wsX0_canKeep_r2 ++ wsX0_canKeep_r3)) ++ wsX00 ++ wsX10 ++ wsX50)
def wsX5_hold : List Cond := .code yX5_hold cX5_hold 3 none :: ([.fieldLink RX5 13 "UnlikeUnion$Tableau" "cells" "[[J", .fieldLink RX5 16 "UnlikeUnion$Tableau" "basic" "[I", .fieldLink RX5 20 "UnlikeUnion$Tableau" "allowed" "[Z"] ++ wsX50)
def wsX5_raise_r1 : List Cond := [Cond.fieldLink RX5 20 "UnlikeUnion$Tableau" "allowed" "[Z", Cond.constant RX5 63 (1000000), Cond.methodLink RX5 64 yX5_rowOf, Cond.instanceMethod yX5_rowOf, Cond.selects RX5 yX5_rowOf yX5_rowOf, Cond.initialized RX5, Cond.code yX5_rowOf cX5_rowOf 3 (some .int), Cond.fieldLink RX5 49 "UnlikeUnion$Tableau" "rows" "I", Cond.fieldLink RX5 16 "UnlikeUnion$Tableau" "basic" "[I", Cond.methodLink RX5 71 yX5_enter, Cond.instanceMethod yX5_enter, Cond.selects RX5 yX5_enter yX5_enter, Cond.code yX5_enter cX5_enter 9 (some .boolean), Cond.fieldLink RX5 52 "UnlikeUnion$Tableau" "scale" "J", Cond.fieldLink RX5 13 "UnlikeUnion$Tableau" "cells" "[[J", Cond.methodLink RX5 77 yX5_leavingRow, Cond.instanceMethod yX5_leavingRow, Cond.selects RX5 yX5_leavingRow yX5_leavingRow, Cond.code yX5_leavingRow cX5_leavingRow 8 (some .int), Cond.methodLink RX5 68 yX5_columnWithSign, Cond.instanceMethod yX5_columnWithSign, Cond.selects RX5 yX5_columnWithSign yX5_columnWithSign, Cond.code yX5_columnWithSign cX5_columnWithSign 4 (some .int), Cond.methodLink RX5 74 yX5_hold]
def wsX5_raise_r2 : List Cond := [Cond.instanceMethod yX5_hold, Cond.selects RX5 yX5_hold yX5_hold, Cond.code yX5_hold cX5_hold 3 none]
def wsX5_raise : List Cond := .code yX5_raise cX5_raise 5 none :: ((wsX5_raise_r1 ++ wsX5_raise_r2) ++ wsX50)
def wsX0_findShares_r1 : List Cond := [Cond.methodLink RX0 71 Lib.Math.min.name, Cond.static Lib.Math.min.name, Cond.initialized "java/lang/Math", Cond.code Lib.Math.min.name Lib.Math.min.code 2 (some .int), Cond.fieldLink RX0 12 "UnlikeUnion$Division" "tableau" "LUnlikeUnion$Tableau;", Cond.fieldLink RX0 18 "UnlikeUnion$Division" "numerators" "[I", Cond.fieldLink RX0 22 "UnlikeUnion$Division" "denominators" "[I", Cond.methodLink RX0 77 yX5_raise, Cond.instanceMethod yX5_raise, Cond.selects RX5 yX5_raise yX5_raise, Cond.initialized RX5, Cond.code yX5_raise cX5_raise 5 none, Cond.fieldLink RX5 20 "UnlikeUnion$Tableau" "allowed" "[Z", Cond.constant RX5 63 (1000000), Cond.methodLink RX5 64 yX5_rowOf, Cond.instanceMethod yX5_rowOf, Cond.selects RX5 yX5_rowOf yX5_rowOf, Cond.code yX5_rowOf cX5_rowOf 3 (some .int), Cond.fieldLink RX5 49 "UnlikeUnion$Tableau" "rows" "I", Cond.fieldLink RX5 16 "UnlikeUnion$Tableau" "basic" "[I", Cond.methodLink RX5 71 yX5_enter, Cond.instanceMethod yX5_enter, Cond.selects RX5 yX5_enter yX5_enter, Cond.code yX5_enter cX5_enter 9 (some .boolean)]
def wsX0_findShares_r2 : List Cond := [Cond.fieldLink RX5 52 "UnlikeUnion$Tableau" "scale" "J", Cond.fieldLink RX5 13 "UnlikeUnion$Tableau" "cells" "[[J", Cond.methodLink RX5 77 yX5_leavingRow, Cond.instanceMethod yX5_leavingRow, Cond.selects RX5 yX5_leavingRow yX5_leavingRow, Cond.code yX5_leavingRow cX5_leavingRow 8 (some .int), Cond.methodLink RX5 68 yX5_columnWithSign, Cond.instanceMethod yX5_columnWithSign, Cond.selects RX5 yX5_columnWithSign yX5_columnWithSign, Cond.code yX5_columnWithSign cX5_columnWithSign 4 (some .int), Cond.methodLink RX5 74 yX5_hold, Cond.instanceMethod yX5_hold, Cond.selects RX5 yX5_hold yX5_hold, Cond.code yX5_hold cX5_hold 3 none, Cond.methodLink RX0 48 yX5_scaledValue, Cond.instanceMethod yX5_scaledValue, Cond.selects RX5 yX5_scaledValue yX5_scaledValue, Cond.code yX5_scaledValue cX5_scaledValue 3 (some .long), Cond.methodLink RX0 56 yX0_commonDivisor, Cond.static yX0_commonDivisor, Cond.initialized RX0, Cond.code yX0_commonDivisor cX0_commonDivisor 11 (some .long)]
def wsX0_findShares : List Cond := .code yX0_findShares cX0_findShares 8 none :: ((wsX0_findShares_r1 ++ wsX0_findShares_r2) ++ wsX10 ++ wsX00 ++ wsX50)
def wsX0_make_r1 : List Cond := [Cond.fieldLink RX0 33 "UnlikeUnion$Division" "bound" "I", Cond.methodLink RX0 25 yX0_findLeast, Cond.instanceMethod yX0_findLeast, Cond.selects RX0 yX0_findLeast yX0_findLeast, Cond.initialized RX0, Cond.code yX0_findLeast cX0_findLeast 6 none, Cond.fieldLink RX0 12 "UnlikeUnion$Division" "tableau" "LUnlikeUnion$Tableau;", Cond.fieldLink RX0 60 "UnlikeUnion$Division" "leastNumerator" "I", Cond.fieldLink RX0 63 "UnlikeUnion$Division" "leastDenominator" "I", Cond.methodLink RX0 40 yX5_start, Cond.instanceMethod yX5_start, Cond.selects RX5 yX5_start yX5_start, Cond.initialized RX5, Cond.code yX5_start cX5_start 6 (some .boolean), Cond.fieldLink RX5 13 "UnlikeUnion$Tableau" "cells" "[[J", Cond.constantLong RX5 34 (-1), Cond.fieldLink RX5 16 "UnlikeUnion$Tableau" "basic" "[I", Cond.fieldLink RX5 20 "UnlikeUnion$Tableau" "allowed" "[Z", Cond.methodLink RX5 30 yX5_clear, Cond.instanceMethod yX5_clear, Cond.selects RX5 yX5_clear yX5_clear, Cond.code yX5_clear cX5_clear 4 none, Cond.methodLink RX5 43 Lib.Math.min.name, Cond.static Lib.Math.min.name]
def wsX0_make_r2 : List Cond := [Cond.initialized "java/lang/Math", Cond.code Lib.Math.min.name Lib.Math.min.code 2 (some .int), Cond.fieldLink RX5 49 "UnlikeUnion$Tableau" "rows" "I", Cond.fieldLink RX5 52 "UnlikeUnion$Tableau" "scale" "J", Cond.methodLink RX5 36 yX5_layJob, Cond.instanceMethod yX5_layJob, Cond.selects RX5 yX5_layJob yX5_layJob, Cond.code yX5_layJob cX5_layJob 8 (some .boolean), Cond.methodLink RX5 56 yX1_timeOn, Cond.instanceMethod yX1_timeOn, Cond.selects RX1 yX1_timeOn yX1_timeOn, Cond.initialized RX1, Cond.code yX1_timeOn cX1_timeOn 3 (some .int), Cond.fieldLink RX1 15 "UnlikeUnion$Jobs" "count" "I", Cond.fieldLink RX1 9 "UnlikeUnion$Jobs" "times" "[I", Cond.methodLink RX5 59 yX5_clearBasic, Cond.instanceMethod yX5_clearBasic, Cond.selects RX5 yX5_clearBasic yX5_clearBasic, Cond.code yX5_clearBasic cX5_clearBasic 7 (some .boolean), Cond.methodLink RX5 40 yX5_admitExcess, Cond.instanceMethod yX5_admitExcess, Cond.selects RX5 yX5_admitExcess yX5_admitExcess, Cond.code yX5_admitExcess cX5_admitExcess 4 none, Cond.methodLink RX0 44 yX5_lowerExcess]
def wsX0_make_r3 : List Cond := [Cond.instanceMethod yX5_lowerExcess, Cond.selects RX5 yX5_lowerExcess yX5_lowerExcess, Cond.code yX5_lowerExcess cX5_lowerExcess 4 (some .boolean), Cond.constant RX5 63 (1000000), Cond.methodLink RX5 64 yX5_rowOf, Cond.instanceMethod yX5_rowOf, Cond.selects RX5 yX5_rowOf yX5_rowOf, Cond.code yX5_rowOf cX5_rowOf 3 (some .int), Cond.methodLink RX5 68 yX5_columnWithSign, Cond.instanceMethod yX5_columnWithSign, Cond.selects RX5 yX5_columnWithSign yX5_columnWithSign, Cond.code yX5_columnWithSign cX5_columnWithSign 4 (some .int), Cond.methodLink RX5 71 yX5_enter, Cond.instanceMethod yX5_enter, Cond.selects RX5 yX5_enter yX5_enter, Cond.code yX5_enter cX5_enter 9 (some .boolean), Cond.methodLink RX5 77 yX5_leavingRow, Cond.instanceMethod yX5_leavingRow, Cond.selects RX5 yX5_leavingRow yX5_leavingRow, Cond.code yX5_leavingRow cX5_leavingRow 8 (some .int), Cond.methodLink RX0 48 yX5_scaledValue, Cond.instanceMethod yX5_scaledValue, Cond.selects RX5 yX5_scaledValue yX5_scaledValue, Cond.code yX5_scaledValue cX5_scaledValue 3 (some .long)]
def wsX0_make_r4 : List Cond := [Cond.methodLink RX0 56 yX0_commonDivisor, Cond.static yX0_commonDivisor, Cond.code yX0_commonDivisor cX0_commonDivisor 11 (some .long), Cond.methodLink RX0 29 yX0_canKeep, Cond.instanceMethod yX0_canKeep, Cond.selects RX0 yX0_canKeep yX0_canKeep, Cond.code yX0_canKeep cX0_canKeep 3 (some .boolean), Cond.methodLink RX0 37 yX0_findShares, Cond.instanceMethod yX0_findShares, Cond.selects RX0 yX0_findShares yX0_findShares, Cond.code yX0_findShares cX0_findShares 8 none, Cond.methodLink RX0 71 Lib.Math.min.name, Cond.fieldLink RX0 18 "UnlikeUnion$Division" "numerators" "[I", Cond.fieldLink RX0 22 "UnlikeUnion$Division" "denominators" "[I", Cond.methodLink RX0 77 yX5_raise, Cond.instanceMethod yX5_raise, Cond.selects RX5 yX5_raise yX5_raise, Cond.code yX5_raise cX5_raise 5 none, Cond.methodLink RX5 74 yX5_hold, Cond.instanceMethod yX5_hold, Cond.selects RX5 yX5_hold yX5_hold, Cond.code yX5_hold cX5_hold 3 none]
def wsX0_make : List Cond := .code yX0_make cX0_make 4 none :: ((wsX0_make_r1 ++ (wsX0_make_r2 ++ (wsX0_make_r3 ++ wsX0_make_r4))) ++ wsX00 ++ wsX50 ++ wsX10)
def wsX0_hasShare : List Cond := .code yX0_hasShare cX0_hasShare 3 (some .boolean) :: ([.fieldLink RX0 18 "UnlikeUnion$Division" "numerators" "[I"] ++ wsX00)
def wsX0_wholeMachine : List Cond := .code yX0_wholeMachine cX0_wholeMachine 3 (some .int) :: ([.fieldLink RX0 22 "UnlikeUnion$Division" "denominators" "[I", .methodLink RX0 81 yX0_hasShare, .instanceMethod yX0_hasShare, .selects RX0 yX0_hasShare yX0_hasShare, .initialized RX0, .code yX0_hasShare cX0_hasShare 3 (some .boolean), .fieldLink RX0 18 "UnlikeUnion$Division" "numerators" "[I"] ++ wsX00)
def wsX1_init : List Cond := .code yX1_init cX1_init 1 none :: ([.methodLink RX1 3 objectInit, .instanceMethod objectInit, .code objectInit ⟨#[0xb1]⟩ 1 none, .arrayClass .int, .fieldLink RX1 9 "UnlikeUnion$Jobs" "times" "[I"] ++ wsX10)
def wsX1_loadOn : List Cond := .code yX1_loadOn cX1_loadOn 5 (some .int) :: ([.fieldLink RX1 15 "UnlikeUnion$Jobs" "count" "I", .methodLink RX1 19 yX1_timeOn, .instanceMethod yX1_timeOn, .selects RX1 yX1_timeOn yX1_timeOn, .initialized RX1, .code yX1_timeOn cX1_timeOn 3 (some .int), .fieldLink RX1 9 "UnlikeUnion$Jobs" "times" "[I"] ++ wsX10)
def wsX1_greatestLoad : List Cond := .code yX1_greatestLoad cX1_greatestLoad 2 (some .int) :: ([.methodLink RX1 27 Lib.Math.max.name, .static Lib.Math.max.name, .initialized "java/lang/Math", .code Lib.Math.max.name Lib.Math.max.code 2 (some .int), .methodLink RX1 23 yX1_loadOn, .instanceMethod yX1_loadOn, .selects RX1 yX1_loadOn yX1_loadOn, .initialized RX1, .code yX1_loadOn cX1_loadOn 5 (some .int), .fieldLink RX1 15 "UnlikeUnion$Jobs" "count" "I", .methodLink RX1 19 yX1_timeOn, .instanceMethod yX1_timeOn, .selects RX1 yX1_timeOn yX1_timeOn, .code yX1_timeOn cX1_timeOn 3 (some .int), .fieldLink RX1 9 "UnlikeUnion$Jobs" "times" "[I"] ++ wsX10)
def wsX2_init : List Cond := .code yX2_init cX2_init 1 none :: ([.methodLink RX2 3 objectInit, .instanceMethod objectInit, .code objectInit ⟨#[0xb1]⟩ 1 none, .arrayClass .int, .fieldLink RX2 9 "UnlikeUnion$OwnPlan" "machineOf" "[I"] ++ wsX20)
def wsX2_rank : List Cond := .code yX2_rank cX2_rank 8 (some .int) :: ([.fieldLink RX2 9 "UnlikeUnion$OwnPlan" "machineOf" "[I", .methodLink RX2 60 Lib.Math.max.name, .static Lib.Math.max.name, .initialized "java/lang/Math", .code Lib.Math.max.name Lib.Math.max.code 2 (some .int), .methodLink RX2 65 Lib.Math.min.name, .static Lib.Math.min.name, .code Lib.Math.min.name Lib.Math.min.code 2 (some .int), .methodLink RX2 56 yX1_loadOn, .instanceMethod yX1_loadOn, .selects RX1 yX1_loadOn yX1_loadOn, .initialized RX1, .code yX1_loadOn cX1_loadOn 5 (some .int), .fieldLink RX1 15 "UnlikeUnion$Jobs" "count" "I", .methodLink RX1 19 yX1_timeOn, .instanceMethod yX1_timeOn, .selects RX1 yX1_timeOn yX1_timeOn, .code yX1_timeOn cX1_timeOn 3 (some .int), .fieldLink RX1 9 "UnlikeUnion$Jobs" "times" "[I"] ++ wsX20 ++ wsX10)
def wsX2_meet : List Cond := .code yX2_meet cX2_meet 5 none :: ([.fieldLink RX2 19 "UnlikeUnion$OwnPlan" "bestRank" "I", .fieldLink RX2 23 "UnlikeUnion$OwnPlan" "bestJob" "I", .fieldLink RX2 26 "UnlikeUnion$OwnPlan" "bestOther" "I", .fieldLink RX2 29 "UnlikeUnion$OwnPlan" "bestMachine" "I"] ++ wsX20)
def wsX2_meetMoves_r1 : List Cond := [Cond.fieldLink RX2 9 "UnlikeUnion$OwnPlan" "machineOf" "[I", Cond.methodLink RX2 48 yX1_timeOn, Cond.instanceMethod yX1_timeOn, Cond.selects RX1 yX1_timeOn yX1_timeOn, Cond.initialized RX1, Cond.code yX1_timeOn cX1_timeOn 3 (some .int), Cond.fieldLink RX1 15 "UnlikeUnion$Jobs" "count" "I", Cond.fieldLink RX1 9 "UnlikeUnion$Jobs" "times" "[I", Cond.methodLink RX2 15 yX2_rank, Cond.instanceMethod yX2_rank, Cond.selects RX2 yX2_rank yX2_rank, Cond.initialized RX2, Cond.code yX2_rank cX2_rank 8 (some .int), Cond.methodLink RX2 60 Lib.Math.max.name, Cond.static Lib.Math.max.name, Cond.initialized "java/lang/Math", Cond.code Lib.Math.max.name Lib.Math.max.code 2 (some .int), Cond.methodLink RX2 65 Lib.Math.min.name, Cond.static Lib.Math.min.name, Cond.code Lib.Math.min.name Lib.Math.min.code 2 (some .int), Cond.methodLink RX2 56 yX1_loadOn, Cond.instanceMethod yX1_loadOn, Cond.selects RX1 yX1_loadOn yX1_loadOn, Cond.code yX1_loadOn cX1_loadOn 5 (some .int)]
def wsX2_meetMoves_r2 : List Cond := [Cond.methodLink RX1 19 yX1_timeOn, Cond.methodLink RX2 52 yX2_meet, Cond.instanceMethod yX2_meet, Cond.selects RX2 yX2_meet yX2_meet, Cond.code yX2_meet cX2_meet 5 none, Cond.fieldLink RX2 19 "UnlikeUnion$OwnPlan" "bestRank" "I", Cond.fieldLink RX2 23 "UnlikeUnion$OwnPlan" "bestJob" "I", Cond.fieldLink RX2 26 "UnlikeUnion$OwnPlan" "bestOther" "I", Cond.fieldLink RX2 29 "UnlikeUnion$OwnPlan" "bestMachine" "I"]
def wsX2_meetMoves : List Cond := .code yX2_meetMoves cX2_meetMoves 5 none :: ((wsX2_meetMoves_r1 ++ wsX2_meetMoves_r2) ++ wsX20 ++ wsX10)
def wsX2_swap : List Cond := .code yX2_swap cX2_swap 4 none :: ([.fieldLink RX2 9 "UnlikeUnion$OwnPlan" "machineOf" "[I"] ++ wsX20)
def wsX2_meetSwaps_r1 : List Cond := [Cond.fieldLink RX2 9 "UnlikeUnion$OwnPlan" "machineOf" "[I", Cond.methodLink RX2 48 yX1_timeOn, Cond.instanceMethod yX1_timeOn, Cond.selects RX1 yX1_timeOn yX1_timeOn, Cond.initialized RX1, Cond.code yX1_timeOn cX1_timeOn 3 (some .int), Cond.fieldLink RX1 15 "UnlikeUnion$Jobs" "count" "I", Cond.fieldLink RX1 9 "UnlikeUnion$Jobs" "times" "[I", Cond.methodLink RX2 44 yX2_swap, Cond.instanceMethod yX2_swap, Cond.selects RX2 yX2_swap yX2_swap, Cond.initialized RX2, Cond.code yX2_swap cX2_swap 4 none, Cond.methodLink RX2 15 yX2_rank, Cond.instanceMethod yX2_rank, Cond.selects RX2 yX2_rank yX2_rank, Cond.code yX2_rank cX2_rank 8 (some .int), Cond.methodLink RX2 60 Lib.Math.max.name, Cond.static Lib.Math.max.name, Cond.initialized "java/lang/Math", Cond.code Lib.Math.max.name Lib.Math.max.code 2 (some .int), Cond.methodLink RX2 65 Lib.Math.min.name, Cond.static Lib.Math.min.name, Cond.code Lib.Math.min.name Lib.Math.min.code 2 (some .int)]
def wsX2_meetSwaps_r2 : List Cond := [Cond.methodLink RX2 56 yX1_loadOn, Cond.instanceMethod yX1_loadOn, Cond.selects RX1 yX1_loadOn yX1_loadOn, Cond.code yX1_loadOn cX1_loadOn 5 (some .int), Cond.methodLink RX1 19 yX1_timeOn, Cond.methodLink RX2 52 yX2_meet, Cond.instanceMethod yX2_meet, Cond.selects RX2 yX2_meet yX2_meet, Cond.code yX2_meet cX2_meet 5 none, Cond.fieldLink RX2 19 "UnlikeUnion$OwnPlan" "bestRank" "I", Cond.fieldLink RX2 23 "UnlikeUnion$OwnPlan" "bestJob" "I", Cond.fieldLink RX2 26 "UnlikeUnion$OwnPlan" "bestOther" "I", Cond.fieldLink RX2 29 "UnlikeUnion$OwnPlan" "bestMachine" "I"]
def wsX2_meetSwaps : List Cond := .code yX2_meetSwaps cX2_meetSwaps 6 none :: ((wsX2_meetSwaps_r1 ++ wsX2_meetSwaps_r2) ++ wsX10 ++ wsX20)
def wsX2_makeBestChange_r1 : List Cond := [Cond.fieldLink RX2 19 "UnlikeUnion$OwnPlan" "bestRank" "I", Cond.fieldLink RX2 23 "UnlikeUnion$OwnPlan" "bestJob" "I", Cond.fieldLink RX2 26 "UnlikeUnion$OwnPlan" "bestOther" "I", Cond.fieldLink RX2 29 "UnlikeUnion$OwnPlan" "bestMachine" "I", Cond.fieldLink RX2 9 "UnlikeUnion$OwnPlan" "machineOf" "[I", Cond.methodLink RX2 15 yX2_rank, Cond.instanceMethod yX2_rank, Cond.selects RX2 yX2_rank yX2_rank, Cond.initialized RX2, Cond.code yX2_rank cX2_rank 8 (some .int), Cond.methodLink RX2 60 Lib.Math.max.name, Cond.static Lib.Math.max.name, Cond.initialized "java/lang/Math", Cond.code Lib.Math.max.name Lib.Math.max.code 2 (some .int), Cond.methodLink RX2 65 Lib.Math.min.name, Cond.static Lib.Math.min.name, Cond.code Lib.Math.min.name Lib.Math.min.code 2 (some .int), Cond.methodLink RX2 56 yX1_loadOn, Cond.instanceMethod yX1_loadOn, Cond.selects RX1 yX1_loadOn yX1_loadOn, Cond.initialized RX1, Cond.code yX1_loadOn cX1_loadOn 5 (some .int), Cond.fieldLink RX1 15 "UnlikeUnion$Jobs" "count" "I", Cond.methodLink RX1 19 yX1_timeOn]
def wsX2_makeBestChange_r2 : List Cond := [Cond.instanceMethod yX1_timeOn, Cond.selects RX1 yX1_timeOn yX1_timeOn, Cond.code yX1_timeOn cX1_timeOn 3 (some .int), Cond.fieldLink RX1 9 "UnlikeUnion$Jobs" "times" "[I", Cond.methodLink RX2 37 yX2_meetMoves, Cond.instanceMethod yX2_meetMoves, Cond.selects RX2 yX2_meetMoves yX2_meetMoves, Cond.code yX2_meetMoves cX2_meetMoves 5 none, Cond.methodLink RX2 48 yX1_timeOn, Cond.methodLink RX2 52 yX2_meet, Cond.instanceMethod yX2_meet, Cond.selects RX2 yX2_meet yX2_meet, Cond.code yX2_meet cX2_meet 5 none, Cond.methodLink RX2 41 yX2_meetSwaps, Cond.instanceMethod yX2_meetSwaps, Cond.selects RX2 yX2_meetSwaps yX2_meetSwaps, Cond.code yX2_meetSwaps cX2_meetSwaps 6 none, Cond.methodLink RX2 44 yX2_swap, Cond.instanceMethod yX2_swap, Cond.selects RX2 yX2_swap yX2_swap, Cond.code yX2_swap cX2_swap 4 none]
def wsX2_makeBestChange : List Cond := .code yX2_makeBestChange cX2_makeBestChange 3 (some .boolean) :: ((wsX2_makeBestChange_r1 ++ wsX2_makeBestChange_r2) ++ wsX20 ++ wsX10)
def wsX3_init : List Cond := .code yX3_init cX3_init 1 none :: ([.methodLink RX3 3 objectInit, .instanceMethod objectInit, .code objectInit ⟨#[0xb1]⟩ 1 none, .arrayClass .int, .fieldLink RX3 9 "UnlikeUnion$PlanSearch" "loads" "[I", .fieldLink RX3 15 "UnlikeUnion$PlanSearch" "chosen" "[I", .fieldLink RX3 18 "UnlikeUnion$PlanSearch" "best" "[I"] ++ wsX30)
def wsX3_clearLoads : List Cond := .code yX3_clearLoads cX3_clearLoads 2 none :: ([.fieldLink RX3 9 "UnlikeUnion$PlanSearch" "loads" "[I"] ++ wsX30)
def wsX3_greatest : List Cond := .code yX3_greatest cX3_greatest 1 (some .int) :: ([.fieldLink RX3 9 "UnlikeUnion$PlanSearch" "loads" "[I", .methodLink RX3 58 Lib.Math.max.name, .static Lib.Math.max.name, .initialized "java/lang/Math", .code Lib.Math.max.name Lib.Math.max.code 2 (some .int)] ++ wsX30)
def wsX3_keep : List Cond := .code yX3_keep cX3_keep 3 none :: ([.fieldLink RX3 24 "UnlikeUnion$PlanSearch" "bestLength" "I", .fieldLink RX3 18 "UnlikeUnion$PlanSearch" "best" "[I", .fieldLink RX3 15 "UnlikeUnion$PlanSearch" "chosen" "[I"] ++ wsX30)
def wsX3_searchFrom_r1 : List Cond := [Cond.fieldLink RX3 24 "UnlikeUnion$PlanSearch" "bestLength" "I", Cond.fieldLink RX3 15 "UnlikeUnion$PlanSearch" "chosen" "[I", Cond.fieldLink RX3 9 "UnlikeUnion$PlanSearch" "loads" "[I", Cond.methodLink RX3 36 yX3_greatest, Cond.instanceMethod yX3_greatest, Cond.selects RX3 yX3_greatest yX3_greatest, Cond.initialized RX3, Cond.code yX3_greatest cX3_greatest 1 (some .int), Cond.methodLink RX3 58 Lib.Math.max.name, Cond.static Lib.Math.max.name, Cond.initialized "java/lang/Math", Cond.code Lib.Math.max.name Lib.Math.max.code 2 (some .int), Cond.methodLink RX3 45 yX3_keep, Cond.instanceMethod yX3_keep, Cond.selects RX3 yX3_keep yX3_keep, Cond.code yX3_keep cX3_keep 3 none, Cond.fieldLink RX3 18 "UnlikeUnion$PlanSearch" "best" "[I", Cond.methodLink RX3 49 yX1_timeOn, Cond.instanceMethod yX1_timeOn, Cond.selects RX1 yX1_timeOn yX1_timeOn, Cond.initialized RX1, Cond.code yX1_timeOn cX1_timeOn 3 (some .int), Cond.fieldLink RX1 15 "UnlikeUnion$Jobs" "count" "I", Cond.fieldLink RX1 9 "UnlikeUnion$Jobs" "times" "[I"]
def wsX3_searchFrom_r2 : List Cond := [Cond.methodLink RX3 28 yX3_searchFrom, Cond.static yX3_searchFrom]
def wsX3_searchFrom : List Cond := .code yX3_searchFrom cX3_searchFrom 6 none :: ((wsX3_searchFrom_r1 ++ wsX3_searchFrom_r2) ++ wsX30 ++ wsX10)
def wsX3_find_r1 : List Cond := [Cond.fieldLink RX3 24 "UnlikeUnion$PlanSearch" "bestLength" "I", Cond.methodLink RX3 21 yX3_clearLoads, Cond.instanceMethod yX3_clearLoads, Cond.selects RX3 yX3_clearLoads yX3_clearLoads, Cond.initialized RX3, Cond.code yX3_clearLoads cX3_clearLoads 2 none, Cond.fieldLink RX3 9 "UnlikeUnion$PlanSearch" "loads" "[I", Cond.methodLink RX3 28 yX3_searchFrom, Cond.static yX3_searchFrom, Cond.code yX3_searchFrom cX3_searchFrom 6 none, Cond.fieldLink RX3 15 "UnlikeUnion$PlanSearch" "chosen" "[I", Cond.methodLink RX3 36 yX3_greatest, Cond.instanceMethod yX3_greatest, Cond.selects RX3 yX3_greatest yX3_greatest, Cond.code yX3_greatest cX3_greatest 1 (some .int), Cond.methodLink RX3 58 Lib.Math.max.name, Cond.static Lib.Math.max.name, Cond.initialized "java/lang/Math", Cond.code Lib.Math.max.name Lib.Math.max.code 2 (some .int), Cond.methodLink RX3 45 yX3_keep, Cond.instanceMethod yX3_keep, Cond.selects RX3 yX3_keep yX3_keep, Cond.code yX3_keep cX3_keep 3 none, Cond.fieldLink RX3 18 "UnlikeUnion$PlanSearch" "best" "[I"]
def wsX3_find_r2 : List Cond := [Cond.methodLink RX3 49 yX1_timeOn, Cond.instanceMethod yX1_timeOn, Cond.selects RX1 yX1_timeOn yX1_timeOn, Cond.initialized RX1, Cond.code yX1_timeOn cX1_timeOn 3 (some .int), Cond.fieldLink RX1 15 "UnlikeUnion$Jobs" "count" "I", Cond.fieldLink RX1 9 "UnlikeUnion$Jobs" "times" "[I"]
def wsX3_find : List Cond := .code yX3_find cX3_find 2 none :: ((wsX3_find_r1 ++ wsX3_find_r2) ++ wsX30 ++ wsX10)
def wsX3_tryFrom : List Cond := .code yX3_tryFrom cX3_tryFrom 6 (some .int) :: ([.fieldLink RX3 9 "UnlikeUnion$PlanSearch" "loads" "[I", .methodLink RX3 53 Lib.Math.min.name, .static Lib.Math.min.name, .initialized "java/lang/Math", .code Lib.Math.min.name Lib.Math.min.code 2 (some .int), .methodLink RX3 36 yX3_greatest, .instanceMethod yX3_greatest, .selects RX3 yX3_greatest yX3_greatest, .initialized RX3, .code yX3_greatest cX3_greatest 1 (some .int), .methodLink RX3 58 Lib.Math.max.name, .static Lib.Math.max.name, .code Lib.Math.max.name Lib.Math.max.code 2 (some .int), .methodLink RX3 49 yX1_timeOn, .instanceMethod yX1_timeOn, .selects RX1 yX1_timeOn yX1_timeOn, .initialized RX1, .code yX1_timeOn cX1_timeOn 3 (some .int), .fieldLink RX1 15 "UnlikeUnion$Jobs" "count" "I", .fieldLink RX1 9 "UnlikeUnion$Jobs" "times" "[I", .methodLink RX3 32 yX3_tryFrom, .static yX3_tryFrom] ++ wsX10 ++ wsX30)
def wsX3_tryAll_r1 : List Cond := [Cond.methodLink RX3 21 yX3_clearLoads, Cond.instanceMethod yX3_clearLoads, Cond.selects RX3 yX3_clearLoads yX3_clearLoads, Cond.initialized RX3, Cond.code yX3_clearLoads cX3_clearLoads 2 none, Cond.fieldLink RX3 9 "UnlikeUnion$PlanSearch" "loads" "[I", Cond.methodLink RX3 32 yX3_tryFrom, Cond.static yX3_tryFrom, Cond.code yX3_tryFrom cX3_tryFrom 6 (some .int), Cond.methodLink RX3 53 Lib.Math.min.name, Cond.static Lib.Math.min.name, Cond.initialized "java/lang/Math", Cond.code Lib.Math.min.name Lib.Math.min.code 2 (some .int), Cond.methodLink RX3 36 yX3_greatest, Cond.instanceMethod yX3_greatest, Cond.selects RX3 yX3_greatest yX3_greatest, Cond.code yX3_greatest cX3_greatest 1 (some .int), Cond.methodLink RX3 58 Lib.Math.max.name, Cond.static Lib.Math.max.name, Cond.code Lib.Math.max.name Lib.Math.max.code 2 (some .int), Cond.methodLink RX3 49 yX1_timeOn, Cond.instanceMethod yX1_timeOn, Cond.selects RX1 yX1_timeOn yX1_timeOn, Cond.initialized RX1]
def wsX3_tryAll_r2 : List Cond := [Cond.code yX1_timeOn cX1_timeOn 3 (some .int), Cond.fieldLink RX1 15 "UnlikeUnion$Jobs" "count" "I", Cond.fieldLink RX1 9 "UnlikeUnion$Jobs" "times" "[I"]
def wsX3_tryAll : List Cond := .code yX3_tryAll cX3_tryAll 2 (some .int) :: ((wsX3_tryAll_r1 ++ wsX3_tryAll_r2) ++ wsX30 ++ wsX10)
def wsX4_init : List Cond := .code yX4_init cX4_init 1 none :: ([.methodLink RX4 3 objectInit, .instanceMethod objectInit, .code objectInit ⟨#[0xb1]⟩ 1 none, .arrayClass .int, .fieldLink RX4 9 "UnlikeUnion$Rounding" "machineOf" "[I"] ++ wsX40)
def wsX4_matchFrom : List Cond := .code yX4_matchFrom cX4_matchFrom 8 (some .boolean) :: ([.fieldLink RX4 9 "UnlikeUnion$Rounding" "machineOf" "[I", .methodLink RX4 25 yX0_wholeMachine, .instanceMethod yX0_wholeMachine, .selects RX0 yX0_wholeMachine yX0_wholeMachine, .initialized RX0, .code yX0_wholeMachine cX0_wholeMachine 3 (some .int), .fieldLink RX0 22 "UnlikeUnion$Division" "denominators" "[I", .methodLink RX0 81 yX0_hasShare, .instanceMethod yX0_hasShare, .selects RX0 yX0_hasShare yX0_hasShare, .code yX0_hasShare cX0_hasShare 3 (some .boolean), .fieldLink RX0 18 "UnlikeUnion$Division" "numerators" "[I", .methodLink RX4 15 yX4_matchFrom, .static yX4_matchFrom, .initialized RX4, .methodLink RX4 31 yX0_hasShare] ++ wsX10 ++ wsX40 ++ wsX00)
def wsX4_make : List Cond := .code yX4_make cX4_make 3 none :: ([.methodLink RX4 15 yX4_matchFrom, .static yX4_matchFrom, .initialized RX4, .code yX4_matchFrom cX4_matchFrom 8 (some .boolean), .fieldLink RX4 9 "UnlikeUnion$Rounding" "machineOf" "[I", .methodLink RX4 25 yX0_wholeMachine, .instanceMethod yX0_wholeMachine, .selects RX0 yX0_wholeMachine yX0_wholeMachine, .initialized RX0, .code yX0_wholeMachine cX0_wholeMachine 3 (some .int), .fieldLink RX0 22 "UnlikeUnion$Division" "denominators" "[I", .methodLink RX0 81 yX0_hasShare, .instanceMethod yX0_hasShare, .selects RX0 yX0_hasShare yX0_hasShare, .code yX0_hasShare cX0_hasShare 3 (some .boolean), .fieldLink RX0 18 "UnlikeUnion$Division" "numerators" "[I", .methodLink RX4 31 yX0_hasShare] ++ wsX10 ++ wsX40 ++ wsX00)
def wsX6_init_r1 : List Cond := [Cond.methodLink RX6 3 objectInit, Cond.instanceMethod objectInit, Cond.code objectInit ⟨#[0xb1]⟩ 1 none, Cond.classLink RX6 9 RX1, Cond.instantiable RX1 2, Cond.initialized RX1, Cond.fieldLink RX6 12 "UnlikeUnion" "list" "LUnlikeUnion$Jobs;", Cond.classLink RX6 16 RX2, Cond.instantiable RX2 5, Cond.initialized RX2, Cond.fieldLink RX6 19 "UnlikeUnion" "own" "LUnlikeUnion$OwnPlan;", Cond.classLink RX6 23 RX3, Cond.instantiable RX3 4, Cond.initialized RX3, Cond.fieldLink RX6 26 "UnlikeUnion" "search" "LUnlikeUnion$PlanSearch;", Cond.classLink RX6 30 RX0, Cond.instantiable RX0 6, Cond.initialized RX0, Cond.fieldLink RX6 33 "UnlikeUnion" "division" "LUnlikeUnion$Division;", Cond.classLink RX6 37 RX4, Cond.instantiable RX4 1, Cond.initialized RX4, Cond.fieldLink RX6 40 "UnlikeUnion" "rounding" "LUnlikeUnion$Rounding;", Cond.instanceMethod yX1_init]
def wsX6_init_r2 : List Cond := [Cond.code yX1_init cX1_init 1 none, Cond.methodLink RX1 3 objectInit, Cond.arrayClass .int, Cond.fieldLink RX1 9 "UnlikeUnion$Jobs" "times" "[I", Cond.instanceMethod yX2_init, Cond.code yX2_init cX2_init 1 none, Cond.methodLink RX2 3 objectInit, Cond.fieldLink RX2 9 "UnlikeUnion$OwnPlan" "machineOf" "[I", Cond.instanceMethod yX3_init, Cond.code yX3_init cX3_init 1 none, Cond.methodLink RX3 3 objectInit, Cond.fieldLink RX3 9 "UnlikeUnion$PlanSearch" "loads" "[I", Cond.fieldLink RX3 15 "UnlikeUnion$PlanSearch" "chosen" "[I", Cond.fieldLink RX3 18 "UnlikeUnion$PlanSearch" "best" "[I", Cond.instanceMethod yX0_init, Cond.code yX0_init cX0_init 1 none, Cond.methodLink RX0 3 objectInit, Cond.classLink RX0 9 RX5, Cond.instantiable RX5 5, Cond.initialized RX5, Cond.fieldLink RX0 12 "UnlikeUnion$Division" "tableau" "LUnlikeUnion$Tableau;", Cond.fieldLink RX0 18 "UnlikeUnion$Division" "numerators" "[I", Cond.fieldLink RX0 22 "UnlikeUnion$Division" "denominators" "[I", Cond.instanceMethod yX5_init]
def wsX6_init_r3 : List Cond := [Cond.code yX5_init cX5_init 1 none, Cond.methodLink RX5 5 objectInit, Cond.classLink RX5 11 "[[J", Cond.arrayClass .long, Cond.fieldLink RX5 13 "UnlikeUnion$Tableau" "cells" "[[J", Cond.fieldLink RX5 16 "UnlikeUnion$Tableau" "basic" "[I", Cond.arrayClass .boolean, Cond.fieldLink RX5 20 "UnlikeUnion$Tableau" "allowed" "[Z", Cond.instanceMethod yX4_init, Cond.code yX4_init cX4_init 1 none, Cond.methodLink RX4 3 objectInit, Cond.fieldLink RX4 9 "UnlikeUnion$Rounding" "machineOf" "[I"]
def wsX6_init : List Cond := .code yX6_init cX6_init 1 none :: ((wsX6_init_r1 ++ (wsX6_init_r2 ++ wsX6_init_r3)) ++ wsX10 ++ wsX60 ++ wsX20 ++ wsX30 ++ wsX00 ++ wsX40 ++ wsX50)
def wsX6_isTime : List Cond := .code yX6_isTime cX6_isTime 1 (some .boolean) :: ([])
def wsX6_forgetResults : List Cond := .code yX6_forgetResults cX6_forgetResults 1 none :: ([.fieldLink RX6 148 "UnlikeUnion" "searchStands" "Z", .fieldLink RX6 152 "UnlikeUnion" "divisionStands" "Z"] ++ wsX60)
def wsX6_addJob : List Cond := .code yX6_addJob cX6_addJob 5 (some .int) :: ([.classLink RX6 48 "java/lang/IllegalArgumentException", .initialized "java/lang/IllegalArgumentException", .classLink RX6 61 "java/lang/IllegalStateException", .initialized "java/lang/IllegalStateException", .fieldLink RX6 12 "UnlikeUnion" "list" "LUnlikeUnion$Jobs;", .fieldLink RX6 19 "UnlikeUnion" "own" "LUnlikeUnion$OwnPlan;", .methodLink RX6 44 yX6_isTime, .static yX6_isTime, .initialized RX6, .code yX6_isTime cX6_isTime 1 (some .boolean), .methodLink RX6 73 yX6_forgetResults, .instanceMethod yX6_forgetResults, .selects RX6 yX6_forgetResults yX6_forgetResults, .code yX6_forgetResults cX6_forgetResults 1 none, .fieldLink RX6 148 "UnlikeUnion" "searchStands" "Z", .fieldLink RX6 152 "UnlikeUnion" "divisionStands" "Z"] ++ wsX60 ++ wsX10 ++ wsX20 ++ (vx_atS RX6 52 "java/lang/IllegalArgumentException" ["java/lang/RuntimeException", "java/lang/Exception"]).filter goodWord ++ (vx_atS RX6 65 "java/lang/IllegalStateException" ["java/lang/RuntimeException", "java/lang/Exception"]).filter goodWord)
def wsX6_requireJob : List Cond := .code yX6_requireJob cX6_requireJob 2 none :: ([.classLink RX6 141 "java/lang/IndexOutOfBoundsException", .initialized "java/lang/IndexOutOfBoundsException", .fieldLink RX6 12 "UnlikeUnion" "list" "LUnlikeUnion$Jobs;"] ++ wsX60 ++ wsX10 ++ (vx_atS RX6 145 "java/lang/IndexOutOfBoundsException" ["java/lang/RuntimeException", "java/lang/Exception"]).filter goodWord)
def wsX6_requireMachine : List Cond := .code yX6_requireMachine cX6_requireMachine 1 none :: ([.classLink RX6 141 "java/lang/IndexOutOfBoundsException", .initialized "java/lang/IndexOutOfBoundsException"] ++ (vx_atS RX6 145 "java/lang/IndexOutOfBoundsException" ["java/lang/RuntimeException", "java/lang/Exception"]).filter goodWord)
def wsX6_setTime_r1 : List Cond := [Cond.classLink RX6 48 "java/lang/IllegalArgumentException", Cond.initialized "java/lang/IllegalArgumentException", Cond.classLink RX6 61 "java/lang/IllegalStateException", Cond.initialized "java/lang/IllegalStateException", Cond.fieldLink RX6 19 "UnlikeUnion" "own" "LUnlikeUnion$OwnPlan;", Cond.fieldLink RX6 12 "UnlikeUnion" "list" "LUnlikeUnion$Jobs;", Cond.methodLink RX6 76 yX6_requireJob, Cond.instanceMethod yX6_requireJob, Cond.selects RX6 yX6_requireJob yX6_requireJob, Cond.initialized RX6, Cond.code yX6_requireJob cX6_requireJob 2 none, Cond.classLink RX6 141 "java/lang/IndexOutOfBoundsException", Cond.initialized "java/lang/IndexOutOfBoundsException", Cond.methodLink RX6 80 yX6_requireMachine, Cond.static yX6_requireMachine, Cond.code yX6_requireMachine cX6_requireMachine 1 none, Cond.methodLink RX6 44 yX6_isTime, Cond.static yX6_isTime, Cond.code yX6_isTime cX6_isTime 1 (some .boolean), Cond.methodLink RX6 87 yX1_timeOn, Cond.instanceMethod yX1_timeOn, Cond.selects RX1 yX1_timeOn yX1_timeOn, Cond.initialized RX1, Cond.code yX1_timeOn cX1_timeOn 3 (some .int)]
def wsX6_setTime_r2 : List Cond := [Cond.fieldLink RX1 15 "UnlikeUnion$Jobs" "count" "I", Cond.fieldLink RX1 9 "UnlikeUnion$Jobs" "times" "[I", Cond.methodLink RX6 73 yX6_forgetResults, Cond.instanceMethod yX6_forgetResults, Cond.selects RX6 yX6_forgetResults yX6_forgetResults, Cond.code yX6_forgetResults cX6_forgetResults 1 none, Cond.fieldLink RX6 148 "UnlikeUnion" "searchStands" "Z", Cond.fieldLink RX6 152 "UnlikeUnion" "divisionStands" "Z"]
def wsX6_setTime : List Cond := .code yX6_setTime cX6_setTime 5 (some .int) :: ((wsX6_setTime_r1 ++ wsX6_setTime_r2) ++ wsX60 ++ wsX20 ++ wsX10 ++ (vx_atS RX6 52 "java/lang/IllegalArgumentException" ["java/lang/RuntimeException", "java/lang/Exception"]).filter goodWord ++ (vx_atS RX6 65 "java/lang/IllegalStateException" ["java/lang/RuntimeException", "java/lang/Exception"]).filter goodWord ++ (vx_atS RX6 145 "java/lang/IndexOutOfBoundsException" ["java/lang/RuntimeException", "java/lang/Exception"]).filter goodWord)
def wsX6_removeLast : List Cond := .code yX6_removeLast cX6_removeLast 1 (some .int) :: ([.fieldLink RX6 12 "UnlikeUnion" "list" "LUnlikeUnion$Jobs;", .methodLink RX6 73 yX6_forgetResults, .instanceMethod yX6_forgetResults, .selects RX6 yX6_forgetResults yX6_forgetResults, .initialized RX6, .code yX6_forgetResults cX6_forgetResults 1 none, .fieldLink RX6 148 "UnlikeUnion" "searchStands" "Z", .fieldLink RX6 152 "UnlikeUnion" "divisionStands" "Z"] ++ wsX60 ++ wsX10)
def wsX6_jobs : List Cond := .code yX6_jobs cX6_jobs 1 (some .int) :: ([.fieldLink RX6 12 "UnlikeUnion" "list" "LUnlikeUnion$Jobs;"] ++ wsX60 ++ wsX10)
def wsX6_time : List Cond := .code yX6_time cX6_time 3 (some .int) :: ([.fieldLink RX6 12 "UnlikeUnion" "list" "LUnlikeUnion$Jobs;", .methodLink RX6 76 yX6_requireJob, .instanceMethod yX6_requireJob, .selects RX6 yX6_requireJob yX6_requireJob, .initialized RX6, .code yX6_requireJob cX6_requireJob 2 none, .classLink RX6 141 "java/lang/IndexOutOfBoundsException", .initialized "java/lang/IndexOutOfBoundsException", .methodLink RX6 80 yX6_requireMachine, .static yX6_requireMachine, .code yX6_requireMachine cX6_requireMachine 1 none, .methodLink RX6 87 yX1_timeOn, .instanceMethod yX1_timeOn, .selects RX1 yX1_timeOn yX1_timeOn, .initialized RX1, .code yX1_timeOn cX1_timeOn 3 (some .int), .fieldLink RX1 15 "UnlikeUnion$Jobs" "count" "I", .fieldLink RX1 9 "UnlikeUnion$Jobs" "times" "[I"] ++ wsX60 ++ wsX10 ++ (vx_atS RX6 145 "java/lang/IndexOutOfBoundsException" ["java/lang/RuntimeException", "java/lang/Exception"]).filter goodWord)
def wsX6_refreshSearch_r1 : List Cond := [Cond.fieldLink RX6 148 "UnlikeUnion" "searchStands" "Z", Cond.fieldLink RX6 26 "UnlikeUnion" "search" "LUnlikeUnion$PlanSearch;", Cond.fieldLink RX6 12 "UnlikeUnion" "list" "LUnlikeUnion$Jobs;", Cond.methodLink RX6 155 yX3_find, Cond.instanceMethod yX3_find, Cond.selects RX3 yX3_find yX3_find, Cond.initialized RX3, Cond.code yX3_find cX3_find 2 none, Cond.fieldLink RX3 24 "UnlikeUnion$PlanSearch" "bestLength" "I", Cond.methodLink RX3 21 yX3_clearLoads, Cond.instanceMethod yX3_clearLoads, Cond.selects RX3 yX3_clearLoads yX3_clearLoads, Cond.code yX3_clearLoads cX3_clearLoads 2 none, Cond.fieldLink RX3 9 "UnlikeUnion$PlanSearch" "loads" "[I", Cond.methodLink RX3 28 yX3_searchFrom, Cond.static yX3_searchFrom, Cond.code yX3_searchFrom cX3_searchFrom 6 none, Cond.fieldLink RX3 15 "UnlikeUnion$PlanSearch" "chosen" "[I", Cond.methodLink RX3 36 yX3_greatest, Cond.instanceMethod yX3_greatest, Cond.selects RX3 yX3_greatest yX3_greatest, Cond.code yX3_greatest cX3_greatest 1 (some .int), Cond.methodLink RX3 58 Lib.Math.max.name, Cond.static Lib.Math.max.name]
def wsX6_refreshSearch_r2 : List Cond := [Cond.initialized "java/lang/Math", Cond.code Lib.Math.max.name Lib.Math.max.code 2 (some .int), Cond.methodLink RX3 45 yX3_keep, Cond.instanceMethod yX3_keep, Cond.selects RX3 yX3_keep yX3_keep, Cond.code yX3_keep cX3_keep 3 none, Cond.fieldLink RX3 18 "UnlikeUnion$PlanSearch" "best" "[I", Cond.methodLink RX3 49 yX1_timeOn, Cond.instanceMethod yX1_timeOn, Cond.selects RX1 yX1_timeOn yX1_timeOn, Cond.initialized RX1, Cond.code yX1_timeOn cX1_timeOn 3 (some .int), Cond.fieldLink RX1 15 "UnlikeUnion$Jobs" "count" "I", Cond.fieldLink RX1 9 "UnlikeUnion$Jobs" "times" "[I"]
def wsX6_refreshSearch : List Cond := .code yX6_refreshSearch cX6_refreshSearch 1 none :: ((wsX6_refreshSearch_r1 ++ wsX6_refreshSearch_r2) ++ wsX60 ++ wsX30 ++ wsX10)
def wsX6_shortest_r1 : List Cond := [Cond.fieldLink RX6 26 "UnlikeUnion" "search" "LUnlikeUnion$PlanSearch;", Cond.methodLink RX6 91 yX6_refreshSearch, Cond.instanceMethod yX6_refreshSearch, Cond.selects RX6 yX6_refreshSearch yX6_refreshSearch, Cond.initialized RX6, Cond.code yX6_refreshSearch cX6_refreshSearch 1 none, Cond.fieldLink RX6 148 "UnlikeUnion" "searchStands" "Z", Cond.fieldLink RX6 12 "UnlikeUnion" "list" "LUnlikeUnion$Jobs;", Cond.methodLink RX6 155 yX3_find, Cond.instanceMethod yX3_find, Cond.selects RX3 yX3_find yX3_find, Cond.initialized RX3, Cond.code yX3_find cX3_find 2 none, Cond.fieldLink RX3 24 "UnlikeUnion$PlanSearch" "bestLength" "I", Cond.methodLink RX3 21 yX3_clearLoads, Cond.instanceMethod yX3_clearLoads, Cond.selects RX3 yX3_clearLoads yX3_clearLoads, Cond.code yX3_clearLoads cX3_clearLoads 2 none, Cond.fieldLink RX3 9 "UnlikeUnion$PlanSearch" "loads" "[I", Cond.methodLink RX3 28 yX3_searchFrom, Cond.static yX3_searchFrom, Cond.code yX3_searchFrom cX3_searchFrom 6 none, Cond.fieldLink RX3 15 "UnlikeUnion$PlanSearch" "chosen" "[I", Cond.methodLink RX3 36 yX3_greatest]
def wsX6_shortest_r2 : List Cond := [Cond.instanceMethod yX3_greatest, Cond.selects RX3 yX3_greatest yX3_greatest, Cond.code yX3_greatest cX3_greatest 1 (some .int), Cond.methodLink RX3 58 Lib.Math.max.name, Cond.static Lib.Math.max.name, Cond.initialized "java/lang/Math", Cond.code Lib.Math.max.name Lib.Math.max.code 2 (some .int), Cond.methodLink RX3 45 yX3_keep, Cond.instanceMethod yX3_keep, Cond.selects RX3 yX3_keep yX3_keep, Cond.code yX3_keep cX3_keep 3 none, Cond.fieldLink RX3 18 "UnlikeUnion$PlanSearch" "best" "[I", Cond.methodLink RX3 49 yX1_timeOn, Cond.instanceMethod yX1_timeOn, Cond.selects RX1 yX1_timeOn yX1_timeOn, Cond.initialized RX1, Cond.code yX1_timeOn cX1_timeOn 3 (some .int), Cond.fieldLink RX1 15 "UnlikeUnion$Jobs" "count" "I", Cond.fieldLink RX1 9 "UnlikeUnion$Jobs" "times" "[I"]
def wsX6_shortest : List Cond := .code yX6_shortest cX6_shortest 1 (some .int) :: ((wsX6_shortest_r1 ++ wsX6_shortest_r2) ++ wsX60 ++ wsX30 ++ wsX10)
def wsX6_shortestByTrying_r1 : List Cond := [Cond.fieldLink RX6 26 "UnlikeUnion" "search" "LUnlikeUnion$PlanSearch;", Cond.fieldLink RX6 12 "UnlikeUnion" "list" "LUnlikeUnion$Jobs;", Cond.methodLink RX6 97 yX3_tryAll, Cond.instanceMethod yX3_tryAll, Cond.selects RX3 yX3_tryAll yX3_tryAll, Cond.initialized RX3, Cond.code yX3_tryAll cX3_tryAll 2 (some .int), Cond.methodLink RX3 21 yX3_clearLoads, Cond.instanceMethod yX3_clearLoads, Cond.selects RX3 yX3_clearLoads yX3_clearLoads, Cond.code yX3_clearLoads cX3_clearLoads 2 none, Cond.fieldLink RX3 9 "UnlikeUnion$PlanSearch" "loads" "[I", Cond.methodLink RX3 32 yX3_tryFrom, Cond.static yX3_tryFrom, Cond.code yX3_tryFrom cX3_tryFrom 6 (some .int), Cond.methodLink RX3 53 Lib.Math.min.name, Cond.static Lib.Math.min.name, Cond.initialized "java/lang/Math", Cond.code Lib.Math.min.name Lib.Math.min.code 2 (some .int), Cond.methodLink RX3 36 yX3_greatest, Cond.instanceMethod yX3_greatest, Cond.selects RX3 yX3_greatest yX3_greatest, Cond.code yX3_greatest cX3_greatest 1 (some .int), Cond.methodLink RX3 58 Lib.Math.max.name]
def wsX6_shortestByTrying_r2 : List Cond := [Cond.static Lib.Math.max.name, Cond.code Lib.Math.max.name Lib.Math.max.code 2 (some .int), Cond.methodLink RX3 49 yX1_timeOn, Cond.instanceMethod yX1_timeOn, Cond.selects RX1 yX1_timeOn yX1_timeOn, Cond.initialized RX1, Cond.code yX1_timeOn cX1_timeOn 3 (some .int), Cond.fieldLink RX1 15 "UnlikeUnion$Jobs" "count" "I", Cond.fieldLink RX1 9 "UnlikeUnion$Jobs" "times" "[I"]
def wsX6_shortestByTrying : List Cond := .code yX6_shortestByTrying cX6_shortestByTrying 1 (some .int) :: ((wsX6_shortestByTrying_r1 ++ wsX6_shortestByTrying_r2) ++ wsX60 ++ wsX30 ++ wsX10)
def wsX6_shortestMachine_r1 : List Cond := [Cond.fieldLink RX6 26 "UnlikeUnion" "search" "LUnlikeUnion$PlanSearch;", Cond.methodLink RX6 76 yX6_requireJob, Cond.instanceMethod yX6_requireJob, Cond.selects RX6 yX6_requireJob yX6_requireJob, Cond.initialized RX6, Cond.code yX6_requireJob cX6_requireJob 2 none, Cond.classLink RX6 141 "java/lang/IndexOutOfBoundsException", Cond.initialized "java/lang/IndexOutOfBoundsException", Cond.fieldLink RX6 12 "UnlikeUnion" "list" "LUnlikeUnion$Jobs;", Cond.methodLink RX6 91 yX6_refreshSearch, Cond.instanceMethod yX6_refreshSearch, Cond.selects RX6 yX6_refreshSearch yX6_refreshSearch, Cond.code yX6_refreshSearch cX6_refreshSearch 1 none, Cond.fieldLink RX6 148 "UnlikeUnion" "searchStands" "Z", Cond.methodLink RX6 155 yX3_find, Cond.instanceMethod yX3_find, Cond.selects RX3 yX3_find yX3_find, Cond.initialized RX3, Cond.code yX3_find cX3_find 2 none, Cond.fieldLink RX3 24 "UnlikeUnion$PlanSearch" "bestLength" "I", Cond.methodLink RX3 21 yX3_clearLoads, Cond.instanceMethod yX3_clearLoads, Cond.selects RX3 yX3_clearLoads yX3_clearLoads, Cond.code yX3_clearLoads cX3_clearLoads 2 none]
def wsX6_shortestMachine_r2 : List Cond := [Cond.fieldLink RX3 9 "UnlikeUnion$PlanSearch" "loads" "[I", Cond.methodLink RX3 28 yX3_searchFrom, Cond.static yX3_searchFrom, Cond.code yX3_searchFrom cX3_searchFrom 6 none, Cond.fieldLink RX3 15 "UnlikeUnion$PlanSearch" "chosen" "[I", Cond.methodLink RX3 36 yX3_greatest, Cond.instanceMethod yX3_greatest, Cond.selects RX3 yX3_greatest yX3_greatest, Cond.code yX3_greatest cX3_greatest 1 (some .int), Cond.methodLink RX3 58 Lib.Math.max.name, Cond.static Lib.Math.max.name, Cond.initialized "java/lang/Math", Cond.code Lib.Math.max.name Lib.Math.max.code 2 (some .int), Cond.methodLink RX3 45 yX3_keep, Cond.instanceMethod yX3_keep, Cond.selects RX3 yX3_keep yX3_keep, Cond.code yX3_keep cX3_keep 3 none, Cond.fieldLink RX3 18 "UnlikeUnion$PlanSearch" "best" "[I", Cond.methodLink RX3 49 yX1_timeOn, Cond.instanceMethod yX1_timeOn, Cond.selects RX1 yX1_timeOn yX1_timeOn, Cond.initialized RX1, Cond.code yX1_timeOn cX1_timeOn 3 (some .int), Cond.fieldLink RX1 15 "UnlikeUnion$Jobs" "count" "I"]
def wsX6_shortestMachine_r3 : List Cond := [Cond.fieldLink RX1 9 "UnlikeUnion$Jobs" "times" "[I"]
def wsX6_shortestMachine : List Cond := .code yX6_shortestMachine cX6_shortestMachine 2 (some .int) :: ((wsX6_shortestMachine_r1 ++ (wsX6_shortestMachine_r2 ++ wsX6_shortestMachine_r3)) ++ wsX60 ++ wsX30 ++ wsX10 ++ (vx_atS RX6 145 "java/lang/IndexOutOfBoundsException" ["java/lang/RuntimeException", "java/lang/Exception"]).filter goodWord)
def wsX6_refreshDivision_r1 : List Cond := [Cond.fieldLink RX6 152 "UnlikeUnion" "divisionStands" "Z", Cond.fieldLink RX6 33 "UnlikeUnion" "division" "LUnlikeUnion$Division;", Cond.fieldLink RX6 12 "UnlikeUnion" "list" "LUnlikeUnion$Jobs;", Cond.fieldLink RX6 40 "UnlikeUnion" "rounding" "LUnlikeUnion$Rounding;", Cond.methodLink RX6 159 yX0_make, Cond.instanceMethod yX0_make, Cond.selects RX0 yX0_make yX0_make, Cond.initialized RX0, Cond.code yX0_make cX0_make 4 none, Cond.fieldLink RX0 33 "UnlikeUnion$Division" "bound" "I", Cond.methodLink RX0 25 yX0_findLeast, Cond.instanceMethod yX0_findLeast, Cond.selects RX0 yX0_findLeast yX0_findLeast, Cond.code yX0_findLeast cX0_findLeast 6 none, Cond.fieldLink RX0 12 "UnlikeUnion$Division" "tableau" "LUnlikeUnion$Tableau;", Cond.fieldLink RX0 60 "UnlikeUnion$Division" "leastNumerator" "I", Cond.fieldLink RX0 63 "UnlikeUnion$Division" "leastDenominator" "I", Cond.methodLink RX0 40 yX5_start, Cond.instanceMethod yX5_start, Cond.selects RX5 yX5_start yX5_start, Cond.initialized RX5, Cond.code yX5_start cX5_start 6 (some .boolean), Cond.fieldLink RX5 13 "UnlikeUnion$Tableau" "cells" "[[J", Cond.constantLong RX5 34 (-1)]
def wsX6_refreshDivision_r2 : List Cond := [Cond.fieldLink RX5 16 "UnlikeUnion$Tableau" "basic" "[I", Cond.fieldLink RX5 20 "UnlikeUnion$Tableau" "allowed" "[Z", Cond.methodLink RX5 30 yX5_clear, Cond.instanceMethod yX5_clear, Cond.selects RX5 yX5_clear yX5_clear, Cond.code yX5_clear cX5_clear 4 none, Cond.methodLink RX5 43 Lib.Math.min.name, Cond.static Lib.Math.min.name, Cond.initialized "java/lang/Math", Cond.code Lib.Math.min.name Lib.Math.min.code 2 (some .int), Cond.fieldLink RX5 49 "UnlikeUnion$Tableau" "rows" "I", Cond.fieldLink RX5 52 "UnlikeUnion$Tableau" "scale" "J", Cond.methodLink RX5 36 yX5_layJob, Cond.instanceMethod yX5_layJob, Cond.selects RX5 yX5_layJob yX5_layJob, Cond.code yX5_layJob cX5_layJob 8 (some .boolean), Cond.methodLink RX5 56 yX1_timeOn, Cond.instanceMethod yX1_timeOn, Cond.selects RX1 yX1_timeOn yX1_timeOn, Cond.initialized RX1, Cond.code yX1_timeOn cX1_timeOn 3 (some .int), Cond.fieldLink RX1 15 "UnlikeUnion$Jobs" "count" "I", Cond.fieldLink RX1 9 "UnlikeUnion$Jobs" "times" "[I", Cond.methodLink RX5 59 yX5_clearBasic]
def wsX6_refreshDivision_r3 : List Cond := [Cond.instanceMethod yX5_clearBasic, Cond.selects RX5 yX5_clearBasic yX5_clearBasic, Cond.code yX5_clearBasic cX5_clearBasic 7 (some .boolean), Cond.methodLink RX5 40 yX5_admitExcess, Cond.instanceMethod yX5_admitExcess, Cond.selects RX5 yX5_admitExcess yX5_admitExcess, Cond.code yX5_admitExcess cX5_admitExcess 4 none, Cond.methodLink RX0 44 yX5_lowerExcess, Cond.instanceMethod yX5_lowerExcess, Cond.selects RX5 yX5_lowerExcess yX5_lowerExcess, Cond.code yX5_lowerExcess cX5_lowerExcess 4 (some .boolean), Cond.constant RX5 63 (1000000), Cond.methodLink RX5 64 yX5_rowOf, Cond.instanceMethod yX5_rowOf, Cond.selects RX5 yX5_rowOf yX5_rowOf, Cond.code yX5_rowOf cX5_rowOf 3 (some .int), Cond.methodLink RX5 68 yX5_columnWithSign, Cond.instanceMethod yX5_columnWithSign, Cond.selects RX5 yX5_columnWithSign yX5_columnWithSign, Cond.code yX5_columnWithSign cX5_columnWithSign 4 (some .int), Cond.methodLink RX5 71 yX5_enter, Cond.instanceMethod yX5_enter, Cond.selects RX5 yX5_enter yX5_enter, Cond.code yX5_enter cX5_enter 9 (some .boolean)]
def wsX6_refreshDivision_r4 : List Cond := [Cond.methodLink RX5 77 yX5_leavingRow, Cond.instanceMethod yX5_leavingRow, Cond.selects RX5 yX5_leavingRow yX5_leavingRow, Cond.code yX5_leavingRow cX5_leavingRow 8 (some .int), Cond.methodLink RX0 48 yX5_scaledValue, Cond.instanceMethod yX5_scaledValue, Cond.selects RX5 yX5_scaledValue yX5_scaledValue, Cond.code yX5_scaledValue cX5_scaledValue 3 (some .long), Cond.methodLink RX0 56 yX0_commonDivisor, Cond.static yX0_commonDivisor, Cond.code yX0_commonDivisor cX0_commonDivisor 11 (some .long), Cond.methodLink RX0 29 yX0_canKeep, Cond.instanceMethod yX0_canKeep, Cond.selects RX0 yX0_canKeep yX0_canKeep, Cond.code yX0_canKeep cX0_canKeep 3 (some .boolean), Cond.methodLink RX0 37 yX0_findShares, Cond.instanceMethod yX0_findShares, Cond.selects RX0 yX0_findShares yX0_findShares, Cond.code yX0_findShares cX0_findShares 8 none, Cond.methodLink RX0 71 Lib.Math.min.name, Cond.fieldLink RX0 18 "UnlikeUnion$Division" "numerators" "[I", Cond.fieldLink RX0 22 "UnlikeUnion$Division" "denominators" "[I", Cond.methodLink RX0 77 yX5_raise, Cond.instanceMethod yX5_raise]
def wsX6_refreshDivision_r5 : List Cond := [Cond.selects RX5 yX5_raise yX5_raise, Cond.code yX5_raise cX5_raise 5 none, Cond.methodLink RX5 74 yX5_hold, Cond.instanceMethod yX5_hold, Cond.selects RX5 yX5_hold yX5_hold, Cond.code yX5_hold cX5_hold 3 none, Cond.methodLink RX6 162 yX4_make, Cond.instanceMethod yX4_make, Cond.selects RX4 yX4_make yX4_make, Cond.initialized RX4, Cond.code yX4_make cX4_make 3 none, Cond.methodLink RX4 15 yX4_matchFrom, Cond.static yX4_matchFrom, Cond.code yX4_matchFrom cX4_matchFrom 8 (some .boolean), Cond.fieldLink RX4 9 "UnlikeUnion$Rounding" "machineOf" "[I", Cond.methodLink RX4 25 yX0_wholeMachine, Cond.instanceMethod yX0_wholeMachine, Cond.selects RX0 yX0_wholeMachine yX0_wholeMachine, Cond.code yX0_wholeMachine cX0_wholeMachine 3 (some .int), Cond.methodLink RX0 81 yX0_hasShare, Cond.instanceMethod yX0_hasShare, Cond.selects RX0 yX0_hasShare yX0_hasShare, Cond.code yX0_hasShare cX0_hasShare 3 (some .boolean), Cond.methodLink RX4 31 yX0_hasShare]
def wsX6_refreshDivision : List Cond := .code yX6_refreshDivision cX6_refreshDivision 1 none :: ((wsX6_refreshDivision_r1 ++ (wsX6_refreshDivision_r2 ++ (wsX6_refreshDivision_r3 ++ (wsX6_refreshDivision_r4 ++ wsX6_refreshDivision_r5)))) ++ wsX60 ++ wsX00 ++ wsX50 ++ wsX10 ++ wsX40)
def wsX6_bound_r1 : List Cond := [Cond.fieldLink RX6 33 "UnlikeUnion" "division" "LUnlikeUnion$Division;", Cond.methodLink RX6 104 yX6_refreshDivision, Cond.instanceMethod yX6_refreshDivision, Cond.selects RX6 yX6_refreshDivision yX6_refreshDivision, Cond.initialized RX6, Cond.code yX6_refreshDivision cX6_refreshDivision 1 none, Cond.fieldLink RX6 152 "UnlikeUnion" "divisionStands" "Z", Cond.fieldLink RX6 12 "UnlikeUnion" "list" "LUnlikeUnion$Jobs;", Cond.fieldLink RX6 40 "UnlikeUnion" "rounding" "LUnlikeUnion$Rounding;", Cond.methodLink RX6 159 yX0_make, Cond.instanceMethod yX0_make, Cond.selects RX0 yX0_make yX0_make, Cond.initialized RX0, Cond.code yX0_make cX0_make 4 none, Cond.fieldLink RX0 33 "UnlikeUnion$Division" "bound" "I", Cond.methodLink RX0 25 yX0_findLeast, Cond.instanceMethod yX0_findLeast, Cond.selects RX0 yX0_findLeast yX0_findLeast, Cond.code yX0_findLeast cX0_findLeast 6 none, Cond.fieldLink RX0 12 "UnlikeUnion$Division" "tableau" "LUnlikeUnion$Tableau;", Cond.fieldLink RX0 60 "UnlikeUnion$Division" "leastNumerator" "I", Cond.fieldLink RX0 63 "UnlikeUnion$Division" "leastDenominator" "I", Cond.methodLink RX0 40 yX5_start, Cond.instanceMethod yX5_start]
def wsX6_bound_r2 : List Cond := [Cond.selects RX5 yX5_start yX5_start, Cond.initialized RX5, Cond.code yX5_start cX5_start 6 (some .boolean), Cond.fieldLink RX5 13 "UnlikeUnion$Tableau" "cells" "[[J", Cond.constantLong RX5 34 (-1), Cond.fieldLink RX5 16 "UnlikeUnion$Tableau" "basic" "[I", Cond.fieldLink RX5 20 "UnlikeUnion$Tableau" "allowed" "[Z", Cond.methodLink RX5 30 yX5_clear, Cond.instanceMethod yX5_clear, Cond.selects RX5 yX5_clear yX5_clear, Cond.code yX5_clear cX5_clear 4 none, Cond.methodLink RX5 43 Lib.Math.min.name, Cond.static Lib.Math.min.name, Cond.initialized "java/lang/Math", Cond.code Lib.Math.min.name Lib.Math.min.code 2 (some .int), Cond.fieldLink RX5 49 "UnlikeUnion$Tableau" "rows" "I", Cond.fieldLink RX5 52 "UnlikeUnion$Tableau" "scale" "J", Cond.methodLink RX5 36 yX5_layJob, Cond.instanceMethod yX5_layJob, Cond.selects RX5 yX5_layJob yX5_layJob, Cond.code yX5_layJob cX5_layJob 8 (some .boolean), Cond.methodLink RX5 56 yX1_timeOn, Cond.instanceMethod yX1_timeOn, Cond.selects RX1 yX1_timeOn yX1_timeOn]
def wsX6_bound_r3 : List Cond := [Cond.initialized RX1, Cond.code yX1_timeOn cX1_timeOn 3 (some .int), Cond.fieldLink RX1 15 "UnlikeUnion$Jobs" "count" "I", Cond.fieldLink RX1 9 "UnlikeUnion$Jobs" "times" "[I", Cond.methodLink RX5 59 yX5_clearBasic, Cond.instanceMethod yX5_clearBasic, Cond.selects RX5 yX5_clearBasic yX5_clearBasic, Cond.code yX5_clearBasic cX5_clearBasic 7 (some .boolean), Cond.methodLink RX5 40 yX5_admitExcess, Cond.instanceMethod yX5_admitExcess, Cond.selects RX5 yX5_admitExcess yX5_admitExcess, Cond.code yX5_admitExcess cX5_admitExcess 4 none, Cond.methodLink RX0 44 yX5_lowerExcess, Cond.instanceMethod yX5_lowerExcess, Cond.selects RX5 yX5_lowerExcess yX5_lowerExcess, Cond.code yX5_lowerExcess cX5_lowerExcess 4 (some .boolean), Cond.constant RX5 63 (1000000), Cond.methodLink RX5 64 yX5_rowOf, Cond.instanceMethod yX5_rowOf, Cond.selects RX5 yX5_rowOf yX5_rowOf, Cond.code yX5_rowOf cX5_rowOf 3 (some .int), Cond.methodLink RX5 68 yX5_columnWithSign, Cond.instanceMethod yX5_columnWithSign, Cond.selects RX5 yX5_columnWithSign yX5_columnWithSign]
def wsX6_bound_r4 : List Cond := [Cond.code yX5_columnWithSign cX5_columnWithSign 4 (some .int), Cond.methodLink RX5 71 yX5_enter, Cond.instanceMethod yX5_enter, Cond.selects RX5 yX5_enter yX5_enter, Cond.code yX5_enter cX5_enter 9 (some .boolean), Cond.methodLink RX5 77 yX5_leavingRow, Cond.instanceMethod yX5_leavingRow, Cond.selects RX5 yX5_leavingRow yX5_leavingRow, Cond.code yX5_leavingRow cX5_leavingRow 8 (some .int), Cond.methodLink RX0 48 yX5_scaledValue, Cond.instanceMethod yX5_scaledValue, Cond.selects RX5 yX5_scaledValue yX5_scaledValue, Cond.code yX5_scaledValue cX5_scaledValue 3 (some .long), Cond.methodLink RX0 56 yX0_commonDivisor, Cond.static yX0_commonDivisor, Cond.code yX0_commonDivisor cX0_commonDivisor 11 (some .long), Cond.methodLink RX0 29 yX0_canKeep, Cond.instanceMethod yX0_canKeep, Cond.selects RX0 yX0_canKeep yX0_canKeep, Cond.code yX0_canKeep cX0_canKeep 3 (some .boolean), Cond.methodLink RX0 37 yX0_findShares, Cond.instanceMethod yX0_findShares, Cond.selects RX0 yX0_findShares yX0_findShares, Cond.code yX0_findShares cX0_findShares 8 none]
def wsX6_bound_r5 : List Cond := [Cond.methodLink RX0 71 Lib.Math.min.name, Cond.fieldLink RX0 18 "UnlikeUnion$Division" "numerators" "[I", Cond.fieldLink RX0 22 "UnlikeUnion$Division" "denominators" "[I", Cond.methodLink RX0 77 yX5_raise, Cond.instanceMethod yX5_raise, Cond.selects RX5 yX5_raise yX5_raise, Cond.code yX5_raise cX5_raise 5 none, Cond.methodLink RX5 74 yX5_hold, Cond.instanceMethod yX5_hold, Cond.selects RX5 yX5_hold yX5_hold, Cond.code yX5_hold cX5_hold 3 none, Cond.methodLink RX6 162 yX4_make, Cond.instanceMethod yX4_make, Cond.selects RX4 yX4_make yX4_make, Cond.initialized RX4, Cond.code yX4_make cX4_make 3 none, Cond.methodLink RX4 15 yX4_matchFrom, Cond.static yX4_matchFrom, Cond.code yX4_matchFrom cX4_matchFrom 8 (some .boolean), Cond.fieldLink RX4 9 "UnlikeUnion$Rounding" "machineOf" "[I", Cond.methodLink RX4 25 yX0_wholeMachine, Cond.instanceMethod yX0_wholeMachine, Cond.selects RX0 yX0_wholeMachine yX0_wholeMachine, Cond.code yX0_wholeMachine cX0_wholeMachine 3 (some .int)]
def wsX6_bound_r6 : List Cond := [Cond.methodLink RX0 81 yX0_hasShare, Cond.instanceMethod yX0_hasShare, Cond.selects RX0 yX0_hasShare yX0_hasShare, Cond.code yX0_hasShare cX0_hasShare 3 (some .boolean), Cond.methodLink RX4 31 yX0_hasShare]
def wsX6_bound : List Cond := .code yX6_bound cX6_bound 1 (some .int) :: ((wsX6_bound_r1 ++ (wsX6_bound_r2 ++ (wsX6_bound_r3 ++ (wsX6_bound_r4 ++ (wsX6_bound_r5 ++ wsX6_bound_r6))))) ++ wsX60 ++ wsX00 ++ wsX50 ++ wsX10 ++ wsX40)
def wsX6_numerator_r1 : List Cond := [Cond.fieldLink RX6 33 "UnlikeUnion" "division" "LUnlikeUnion$Division;", Cond.methodLink RX6 76 yX6_requireJob, Cond.instanceMethod yX6_requireJob, Cond.selects RX6 yX6_requireJob yX6_requireJob, Cond.initialized RX6, Cond.code yX6_requireJob cX6_requireJob 2 none, Cond.classLink RX6 141 "java/lang/IndexOutOfBoundsException", Cond.initialized "java/lang/IndexOutOfBoundsException", Cond.fieldLink RX6 12 "UnlikeUnion" "list" "LUnlikeUnion$Jobs;", Cond.methodLink RX6 80 yX6_requireMachine, Cond.static yX6_requireMachine, Cond.code yX6_requireMachine cX6_requireMachine 1 none, Cond.methodLink RX6 104 yX6_refreshDivision, Cond.instanceMethod yX6_refreshDivision, Cond.selects RX6 yX6_refreshDivision yX6_refreshDivision, Cond.code yX6_refreshDivision cX6_refreshDivision 1 none, Cond.fieldLink RX6 152 "UnlikeUnion" "divisionStands" "Z", Cond.fieldLink RX6 40 "UnlikeUnion" "rounding" "LUnlikeUnion$Rounding;", Cond.methodLink RX6 159 yX0_make, Cond.instanceMethod yX0_make, Cond.selects RX0 yX0_make yX0_make, Cond.initialized RX0, Cond.code yX0_make cX0_make 4 none, Cond.fieldLink RX0 33 "UnlikeUnion$Division" "bound" "I"]
def wsX6_numerator_r2 : List Cond := [Cond.methodLink RX0 25 yX0_findLeast, Cond.instanceMethod yX0_findLeast, Cond.selects RX0 yX0_findLeast yX0_findLeast, Cond.code yX0_findLeast cX0_findLeast 6 none, Cond.fieldLink RX0 12 "UnlikeUnion$Division" "tableau" "LUnlikeUnion$Tableau;", Cond.fieldLink RX0 60 "UnlikeUnion$Division" "leastNumerator" "I", Cond.fieldLink RX0 63 "UnlikeUnion$Division" "leastDenominator" "I", Cond.methodLink RX0 40 yX5_start, Cond.instanceMethod yX5_start, Cond.selects RX5 yX5_start yX5_start, Cond.initialized RX5, Cond.code yX5_start cX5_start 6 (some .boolean), Cond.fieldLink RX5 13 "UnlikeUnion$Tableau" "cells" "[[J", Cond.constantLong RX5 34 (-1), Cond.fieldLink RX5 16 "UnlikeUnion$Tableau" "basic" "[I", Cond.fieldLink RX5 20 "UnlikeUnion$Tableau" "allowed" "[Z", Cond.methodLink RX5 30 yX5_clear, Cond.instanceMethod yX5_clear, Cond.selects RX5 yX5_clear yX5_clear, Cond.code yX5_clear cX5_clear 4 none, Cond.methodLink RX5 43 Lib.Math.min.name, Cond.static Lib.Math.min.name, Cond.initialized "java/lang/Math", Cond.code Lib.Math.min.name Lib.Math.min.code 2 (some .int)]
def wsX6_numerator_r3 : List Cond := [Cond.fieldLink RX5 49 "UnlikeUnion$Tableau" "rows" "I", Cond.fieldLink RX5 52 "UnlikeUnion$Tableau" "scale" "J", Cond.methodLink RX5 36 yX5_layJob, Cond.instanceMethod yX5_layJob, Cond.selects RX5 yX5_layJob yX5_layJob, Cond.code yX5_layJob cX5_layJob 8 (some .boolean), Cond.methodLink RX5 56 yX1_timeOn, Cond.instanceMethod yX1_timeOn, Cond.selects RX1 yX1_timeOn yX1_timeOn, Cond.initialized RX1, Cond.code yX1_timeOn cX1_timeOn 3 (some .int), Cond.fieldLink RX1 15 "UnlikeUnion$Jobs" "count" "I", Cond.fieldLink RX1 9 "UnlikeUnion$Jobs" "times" "[I", Cond.methodLink RX5 59 yX5_clearBasic, Cond.instanceMethod yX5_clearBasic, Cond.selects RX5 yX5_clearBasic yX5_clearBasic, Cond.code yX5_clearBasic cX5_clearBasic 7 (some .boolean), Cond.methodLink RX5 40 yX5_admitExcess, Cond.instanceMethod yX5_admitExcess, Cond.selects RX5 yX5_admitExcess yX5_admitExcess, Cond.code yX5_admitExcess cX5_admitExcess 4 none, Cond.methodLink RX0 44 yX5_lowerExcess, Cond.instanceMethod yX5_lowerExcess, Cond.selects RX5 yX5_lowerExcess yX5_lowerExcess]
def wsX6_numerator_r4 : List Cond := [Cond.code yX5_lowerExcess cX5_lowerExcess 4 (some .boolean), Cond.constant RX5 63 (1000000), Cond.methodLink RX5 64 yX5_rowOf, Cond.instanceMethod yX5_rowOf, Cond.selects RX5 yX5_rowOf yX5_rowOf, Cond.code yX5_rowOf cX5_rowOf 3 (some .int), Cond.methodLink RX5 68 yX5_columnWithSign, Cond.instanceMethod yX5_columnWithSign, Cond.selects RX5 yX5_columnWithSign yX5_columnWithSign, Cond.code yX5_columnWithSign cX5_columnWithSign 4 (some .int), Cond.methodLink RX5 71 yX5_enter, Cond.instanceMethod yX5_enter, Cond.selects RX5 yX5_enter yX5_enter, Cond.code yX5_enter cX5_enter 9 (some .boolean), Cond.methodLink RX5 77 yX5_leavingRow, Cond.instanceMethod yX5_leavingRow, Cond.selects RX5 yX5_leavingRow yX5_leavingRow, Cond.code yX5_leavingRow cX5_leavingRow 8 (some .int), Cond.methodLink RX0 48 yX5_scaledValue, Cond.instanceMethod yX5_scaledValue, Cond.selects RX5 yX5_scaledValue yX5_scaledValue, Cond.code yX5_scaledValue cX5_scaledValue 3 (some .long), Cond.methodLink RX0 56 yX0_commonDivisor, Cond.static yX0_commonDivisor]
def wsX6_numerator_r5 : List Cond := [Cond.code yX0_commonDivisor cX0_commonDivisor 11 (some .long), Cond.methodLink RX0 29 yX0_canKeep, Cond.instanceMethod yX0_canKeep, Cond.selects RX0 yX0_canKeep yX0_canKeep, Cond.code yX0_canKeep cX0_canKeep 3 (some .boolean), Cond.methodLink RX0 37 yX0_findShares, Cond.instanceMethod yX0_findShares, Cond.selects RX0 yX0_findShares yX0_findShares, Cond.code yX0_findShares cX0_findShares 8 none, Cond.methodLink RX0 71 Lib.Math.min.name, Cond.fieldLink RX0 18 "UnlikeUnion$Division" "numerators" "[I", Cond.fieldLink RX0 22 "UnlikeUnion$Division" "denominators" "[I", Cond.methodLink RX0 77 yX5_raise, Cond.instanceMethod yX5_raise, Cond.selects RX5 yX5_raise yX5_raise, Cond.code yX5_raise cX5_raise 5 none, Cond.methodLink RX5 74 yX5_hold, Cond.instanceMethod yX5_hold, Cond.selects RX5 yX5_hold yX5_hold, Cond.code yX5_hold cX5_hold 3 none, Cond.methodLink RX6 162 yX4_make, Cond.instanceMethod yX4_make, Cond.selects RX4 yX4_make yX4_make, Cond.initialized RX4]
def wsX6_numerator_r6 : List Cond := [Cond.code yX4_make cX4_make 3 none, Cond.methodLink RX4 15 yX4_matchFrom, Cond.static yX4_matchFrom, Cond.code yX4_matchFrom cX4_matchFrom 8 (some .boolean), Cond.fieldLink RX4 9 "UnlikeUnion$Rounding" "machineOf" "[I", Cond.methodLink RX4 25 yX0_wholeMachine, Cond.instanceMethod yX0_wholeMachine, Cond.selects RX0 yX0_wholeMachine yX0_wholeMachine, Cond.code yX0_wholeMachine cX0_wholeMachine 3 (some .int), Cond.methodLink RX0 81 yX0_hasShare, Cond.instanceMethod yX0_hasShare, Cond.selects RX0 yX0_hasShare yX0_hasShare, Cond.code yX0_hasShare cX0_hasShare 3 (some .boolean), Cond.methodLink RX4 31 yX0_hasShare]
def wsX6_numerator : List Cond := .code yX6_numerator cX6_numerator 3 (some .int) :: ((wsX6_numerator_r1 ++ (wsX6_numerator_r2 ++ (wsX6_numerator_r3 ++ (wsX6_numerator_r4 ++ (wsX6_numerator_r5 ++ wsX6_numerator_r6))))) ++ wsX60 ++ wsX00 ++ wsX10 ++ wsX50 ++ wsX40 ++ (vx_atS RX6 145 "java/lang/IndexOutOfBoundsException" ["java/lang/RuntimeException", "java/lang/Exception"]).filter goodWord)
def wsX6_denominator_r1 : List Cond := [Cond.fieldLink RX6 33 "UnlikeUnion" "division" "LUnlikeUnion$Division;", Cond.methodLink RX6 76 yX6_requireJob, Cond.instanceMethod yX6_requireJob, Cond.selects RX6 yX6_requireJob yX6_requireJob, Cond.initialized RX6, Cond.code yX6_requireJob cX6_requireJob 2 none, Cond.classLink RX6 141 "java/lang/IndexOutOfBoundsException", Cond.initialized "java/lang/IndexOutOfBoundsException", Cond.fieldLink RX6 12 "UnlikeUnion" "list" "LUnlikeUnion$Jobs;", Cond.methodLink RX6 80 yX6_requireMachine, Cond.static yX6_requireMachine, Cond.code yX6_requireMachine cX6_requireMachine 1 none, Cond.methodLink RX6 104 yX6_refreshDivision, Cond.instanceMethod yX6_refreshDivision, Cond.selects RX6 yX6_refreshDivision yX6_refreshDivision, Cond.code yX6_refreshDivision cX6_refreshDivision 1 none, Cond.fieldLink RX6 152 "UnlikeUnion" "divisionStands" "Z", Cond.fieldLink RX6 40 "UnlikeUnion" "rounding" "LUnlikeUnion$Rounding;", Cond.methodLink RX6 159 yX0_make, Cond.instanceMethod yX0_make, Cond.selects RX0 yX0_make yX0_make, Cond.initialized RX0, Cond.code yX0_make cX0_make 4 none, Cond.fieldLink RX0 33 "UnlikeUnion$Division" "bound" "I"]
def wsX6_denominator_r2 : List Cond := [Cond.methodLink RX0 25 yX0_findLeast, Cond.instanceMethod yX0_findLeast, Cond.selects RX0 yX0_findLeast yX0_findLeast, Cond.code yX0_findLeast cX0_findLeast 6 none, Cond.fieldLink RX0 12 "UnlikeUnion$Division" "tableau" "LUnlikeUnion$Tableau;", Cond.fieldLink RX0 60 "UnlikeUnion$Division" "leastNumerator" "I", Cond.fieldLink RX0 63 "UnlikeUnion$Division" "leastDenominator" "I", Cond.methodLink RX0 40 yX5_start, Cond.instanceMethod yX5_start, Cond.selects RX5 yX5_start yX5_start, Cond.initialized RX5, Cond.code yX5_start cX5_start 6 (some .boolean), Cond.fieldLink RX5 13 "UnlikeUnion$Tableau" "cells" "[[J", Cond.constantLong RX5 34 (-1), Cond.fieldLink RX5 16 "UnlikeUnion$Tableau" "basic" "[I", Cond.fieldLink RX5 20 "UnlikeUnion$Tableau" "allowed" "[Z", Cond.methodLink RX5 30 yX5_clear, Cond.instanceMethod yX5_clear, Cond.selects RX5 yX5_clear yX5_clear, Cond.code yX5_clear cX5_clear 4 none, Cond.methodLink RX5 43 Lib.Math.min.name, Cond.static Lib.Math.min.name, Cond.initialized "java/lang/Math", Cond.code Lib.Math.min.name Lib.Math.min.code 2 (some .int)]
def wsX6_denominator_r3 : List Cond := [Cond.fieldLink RX5 49 "UnlikeUnion$Tableau" "rows" "I", Cond.fieldLink RX5 52 "UnlikeUnion$Tableau" "scale" "J", Cond.methodLink RX5 36 yX5_layJob, Cond.instanceMethod yX5_layJob, Cond.selects RX5 yX5_layJob yX5_layJob, Cond.code yX5_layJob cX5_layJob 8 (some .boolean), Cond.methodLink RX5 56 yX1_timeOn, Cond.instanceMethod yX1_timeOn, Cond.selects RX1 yX1_timeOn yX1_timeOn, Cond.initialized RX1, Cond.code yX1_timeOn cX1_timeOn 3 (some .int), Cond.fieldLink RX1 15 "UnlikeUnion$Jobs" "count" "I", Cond.fieldLink RX1 9 "UnlikeUnion$Jobs" "times" "[I", Cond.methodLink RX5 59 yX5_clearBasic, Cond.instanceMethod yX5_clearBasic, Cond.selects RX5 yX5_clearBasic yX5_clearBasic, Cond.code yX5_clearBasic cX5_clearBasic 7 (some .boolean), Cond.methodLink RX5 40 yX5_admitExcess, Cond.instanceMethod yX5_admitExcess, Cond.selects RX5 yX5_admitExcess yX5_admitExcess, Cond.code yX5_admitExcess cX5_admitExcess 4 none, Cond.methodLink RX0 44 yX5_lowerExcess, Cond.instanceMethod yX5_lowerExcess, Cond.selects RX5 yX5_lowerExcess yX5_lowerExcess]
def wsX6_denominator_r4 : List Cond := [Cond.code yX5_lowerExcess cX5_lowerExcess 4 (some .boolean), Cond.constant RX5 63 (1000000), Cond.methodLink RX5 64 yX5_rowOf, Cond.instanceMethod yX5_rowOf, Cond.selects RX5 yX5_rowOf yX5_rowOf, Cond.code yX5_rowOf cX5_rowOf 3 (some .int), Cond.methodLink RX5 68 yX5_columnWithSign, Cond.instanceMethod yX5_columnWithSign, Cond.selects RX5 yX5_columnWithSign yX5_columnWithSign, Cond.code yX5_columnWithSign cX5_columnWithSign 4 (some .int), Cond.methodLink RX5 71 yX5_enter, Cond.instanceMethod yX5_enter, Cond.selects RX5 yX5_enter yX5_enter, Cond.code yX5_enter cX5_enter 9 (some .boolean), Cond.methodLink RX5 77 yX5_leavingRow, Cond.instanceMethod yX5_leavingRow, Cond.selects RX5 yX5_leavingRow yX5_leavingRow, Cond.code yX5_leavingRow cX5_leavingRow 8 (some .int), Cond.methodLink RX0 48 yX5_scaledValue, Cond.instanceMethod yX5_scaledValue, Cond.selects RX5 yX5_scaledValue yX5_scaledValue, Cond.code yX5_scaledValue cX5_scaledValue 3 (some .long), Cond.methodLink RX0 56 yX0_commonDivisor, Cond.static yX0_commonDivisor]
def wsX6_denominator_r5 : List Cond := [Cond.code yX0_commonDivisor cX0_commonDivisor 11 (some .long), Cond.methodLink RX0 29 yX0_canKeep, Cond.instanceMethod yX0_canKeep, Cond.selects RX0 yX0_canKeep yX0_canKeep, Cond.code yX0_canKeep cX0_canKeep 3 (some .boolean), Cond.methodLink RX0 37 yX0_findShares, Cond.instanceMethod yX0_findShares, Cond.selects RX0 yX0_findShares yX0_findShares, Cond.code yX0_findShares cX0_findShares 8 none, Cond.methodLink RX0 71 Lib.Math.min.name, Cond.fieldLink RX0 18 "UnlikeUnion$Division" "numerators" "[I", Cond.fieldLink RX0 22 "UnlikeUnion$Division" "denominators" "[I", Cond.methodLink RX0 77 yX5_raise, Cond.instanceMethod yX5_raise, Cond.selects RX5 yX5_raise yX5_raise, Cond.code yX5_raise cX5_raise 5 none, Cond.methodLink RX5 74 yX5_hold, Cond.instanceMethod yX5_hold, Cond.selects RX5 yX5_hold yX5_hold, Cond.code yX5_hold cX5_hold 3 none, Cond.methodLink RX6 162 yX4_make, Cond.instanceMethod yX4_make, Cond.selects RX4 yX4_make yX4_make, Cond.initialized RX4]
def wsX6_denominator_r6 : List Cond := [Cond.code yX4_make cX4_make 3 none, Cond.methodLink RX4 15 yX4_matchFrom, Cond.static yX4_matchFrom, Cond.code yX4_matchFrom cX4_matchFrom 8 (some .boolean), Cond.fieldLink RX4 9 "UnlikeUnion$Rounding" "machineOf" "[I", Cond.methodLink RX4 25 yX0_wholeMachine, Cond.instanceMethod yX0_wholeMachine, Cond.selects RX0 yX0_wholeMachine yX0_wholeMachine, Cond.code yX0_wholeMachine cX0_wholeMachine 3 (some .int), Cond.methodLink RX0 81 yX0_hasShare, Cond.instanceMethod yX0_hasShare, Cond.selects RX0 yX0_hasShare yX0_hasShare, Cond.code yX0_hasShare cX0_hasShare 3 (some .boolean), Cond.methodLink RX4 31 yX0_hasShare]
def wsX6_denominator : List Cond := .code yX6_denominator cX6_denominator 3 (some .int) :: ((wsX6_denominator_r1 ++ (wsX6_denominator_r2 ++ (wsX6_denominator_r3 ++ (wsX6_denominator_r4 ++ (wsX6_denominator_r5 ++ wsX6_denominator_r6))))) ++ wsX60 ++ wsX00 ++ wsX10 ++ wsX50 ++ wsX40 ++ (vx_atS RX6 145 "java/lang/IndexOutOfBoundsException" ["java/lang/RuntimeException", "java/lang/Exception"]).filter goodWord)
def wsX6_isDivided_r1 : List Cond := [Cond.fieldLink RX6 33 "UnlikeUnion" "division" "LUnlikeUnion$Division;", Cond.methodLink RX6 76 yX6_requireJob, Cond.instanceMethod yX6_requireJob, Cond.selects RX6 yX6_requireJob yX6_requireJob, Cond.initialized RX6, Cond.code yX6_requireJob cX6_requireJob 2 none, Cond.classLink RX6 141 "java/lang/IndexOutOfBoundsException", Cond.initialized "java/lang/IndexOutOfBoundsException", Cond.fieldLink RX6 12 "UnlikeUnion" "list" "LUnlikeUnion$Jobs;", Cond.methodLink RX6 104 yX6_refreshDivision, Cond.instanceMethod yX6_refreshDivision, Cond.selects RX6 yX6_refreshDivision yX6_refreshDivision, Cond.code yX6_refreshDivision cX6_refreshDivision 1 none, Cond.fieldLink RX6 152 "UnlikeUnion" "divisionStands" "Z", Cond.fieldLink RX6 40 "UnlikeUnion" "rounding" "LUnlikeUnion$Rounding;", Cond.methodLink RX6 159 yX0_make, Cond.instanceMethod yX0_make, Cond.selects RX0 yX0_make yX0_make, Cond.initialized RX0, Cond.code yX0_make cX0_make 4 none, Cond.fieldLink RX0 33 "UnlikeUnion$Division" "bound" "I", Cond.methodLink RX0 25 yX0_findLeast, Cond.instanceMethod yX0_findLeast, Cond.selects RX0 yX0_findLeast yX0_findLeast]
def wsX6_isDivided_r2 : List Cond := [Cond.code yX0_findLeast cX0_findLeast 6 none, Cond.fieldLink RX0 12 "UnlikeUnion$Division" "tableau" "LUnlikeUnion$Tableau;", Cond.fieldLink RX0 60 "UnlikeUnion$Division" "leastNumerator" "I", Cond.fieldLink RX0 63 "UnlikeUnion$Division" "leastDenominator" "I", Cond.methodLink RX0 40 yX5_start, Cond.instanceMethod yX5_start, Cond.selects RX5 yX5_start yX5_start, Cond.initialized RX5, Cond.code yX5_start cX5_start 6 (some .boolean), Cond.fieldLink RX5 13 "UnlikeUnion$Tableau" "cells" "[[J", Cond.constantLong RX5 34 (-1), Cond.fieldLink RX5 16 "UnlikeUnion$Tableau" "basic" "[I", Cond.fieldLink RX5 20 "UnlikeUnion$Tableau" "allowed" "[Z", Cond.methodLink RX5 30 yX5_clear, Cond.instanceMethod yX5_clear, Cond.selects RX5 yX5_clear yX5_clear, Cond.code yX5_clear cX5_clear 4 none, Cond.methodLink RX5 43 Lib.Math.min.name, Cond.static Lib.Math.min.name, Cond.initialized "java/lang/Math", Cond.code Lib.Math.min.name Lib.Math.min.code 2 (some .int), Cond.fieldLink RX5 49 "UnlikeUnion$Tableau" "rows" "I", Cond.fieldLink RX5 52 "UnlikeUnion$Tableau" "scale" "J", Cond.methodLink RX5 36 yX5_layJob]
def wsX6_isDivided_r3 : List Cond := [Cond.instanceMethod yX5_layJob, Cond.selects RX5 yX5_layJob yX5_layJob, Cond.code yX5_layJob cX5_layJob 8 (some .boolean), Cond.methodLink RX5 56 yX1_timeOn, Cond.instanceMethod yX1_timeOn, Cond.selects RX1 yX1_timeOn yX1_timeOn, Cond.initialized RX1, Cond.code yX1_timeOn cX1_timeOn 3 (some .int), Cond.fieldLink RX1 15 "UnlikeUnion$Jobs" "count" "I", Cond.fieldLink RX1 9 "UnlikeUnion$Jobs" "times" "[I", Cond.methodLink RX5 59 yX5_clearBasic, Cond.instanceMethod yX5_clearBasic, Cond.selects RX5 yX5_clearBasic yX5_clearBasic, Cond.code yX5_clearBasic cX5_clearBasic 7 (some .boolean), Cond.methodLink RX5 40 yX5_admitExcess, Cond.instanceMethod yX5_admitExcess, Cond.selects RX5 yX5_admitExcess yX5_admitExcess, Cond.code yX5_admitExcess cX5_admitExcess 4 none, Cond.methodLink RX0 44 yX5_lowerExcess, Cond.instanceMethod yX5_lowerExcess, Cond.selects RX5 yX5_lowerExcess yX5_lowerExcess, Cond.code yX5_lowerExcess cX5_lowerExcess 4 (some .boolean), Cond.constant RX5 63 (1000000), Cond.methodLink RX5 64 yX5_rowOf]
def wsX6_isDivided_r4 : List Cond := [Cond.instanceMethod yX5_rowOf, Cond.selects RX5 yX5_rowOf yX5_rowOf, Cond.code yX5_rowOf cX5_rowOf 3 (some .int), Cond.methodLink RX5 68 yX5_columnWithSign, Cond.instanceMethod yX5_columnWithSign, Cond.selects RX5 yX5_columnWithSign yX5_columnWithSign, Cond.code yX5_columnWithSign cX5_columnWithSign 4 (some .int), Cond.methodLink RX5 71 yX5_enter, Cond.instanceMethod yX5_enter, Cond.selects RX5 yX5_enter yX5_enter, Cond.code yX5_enter cX5_enter 9 (some .boolean), Cond.methodLink RX5 77 yX5_leavingRow, Cond.instanceMethod yX5_leavingRow, Cond.selects RX5 yX5_leavingRow yX5_leavingRow, Cond.code yX5_leavingRow cX5_leavingRow 8 (some .int), Cond.methodLink RX0 48 yX5_scaledValue, Cond.instanceMethod yX5_scaledValue, Cond.selects RX5 yX5_scaledValue yX5_scaledValue, Cond.code yX5_scaledValue cX5_scaledValue 3 (some .long), Cond.methodLink RX0 56 yX0_commonDivisor, Cond.static yX0_commonDivisor, Cond.code yX0_commonDivisor cX0_commonDivisor 11 (some .long), Cond.methodLink RX0 29 yX0_canKeep, Cond.instanceMethod yX0_canKeep]
def wsX6_isDivided_r5 : List Cond := [Cond.selects RX0 yX0_canKeep yX0_canKeep, Cond.code yX0_canKeep cX0_canKeep 3 (some .boolean), Cond.methodLink RX0 37 yX0_findShares, Cond.instanceMethod yX0_findShares, Cond.selects RX0 yX0_findShares yX0_findShares, Cond.code yX0_findShares cX0_findShares 8 none, Cond.methodLink RX0 71 Lib.Math.min.name, Cond.fieldLink RX0 18 "UnlikeUnion$Division" "numerators" "[I", Cond.fieldLink RX0 22 "UnlikeUnion$Division" "denominators" "[I", Cond.methodLink RX0 77 yX5_raise, Cond.instanceMethod yX5_raise, Cond.selects RX5 yX5_raise yX5_raise, Cond.code yX5_raise cX5_raise 5 none, Cond.methodLink RX5 74 yX5_hold, Cond.instanceMethod yX5_hold, Cond.selects RX5 yX5_hold yX5_hold, Cond.code yX5_hold cX5_hold 3 none, Cond.methodLink RX6 162 yX4_make, Cond.instanceMethod yX4_make, Cond.selects RX4 yX4_make yX4_make, Cond.initialized RX4, Cond.code yX4_make cX4_make 3 none, Cond.methodLink RX4 15 yX4_matchFrom, Cond.static yX4_matchFrom]
def wsX6_isDivided_r6 : List Cond := [Cond.code yX4_matchFrom cX4_matchFrom 8 (some .boolean), Cond.fieldLink RX4 9 "UnlikeUnion$Rounding" "machineOf" "[I", Cond.methodLink RX4 25 yX0_wholeMachine, Cond.instanceMethod yX0_wholeMachine, Cond.selects RX0 yX0_wholeMachine yX0_wholeMachine, Cond.code yX0_wholeMachine cX0_wholeMachine 3 (some .int), Cond.methodLink RX0 81 yX0_hasShare, Cond.instanceMethod yX0_hasShare, Cond.selects RX0 yX0_hasShare yX0_hasShare, Cond.code yX0_hasShare cX0_hasShare 3 (some .boolean), Cond.methodLink RX4 31 yX0_hasShare, Cond.methodLink RX6 116 yX0_wholeMachine]
def wsX6_isDivided : List Cond := .code yX6_isDivided cX6_isDivided 2 (some .boolean) :: ((wsX6_isDivided_r1 ++ (wsX6_isDivided_r2 ++ (wsX6_isDivided_r3 ++ (wsX6_isDivided_r4 ++ (wsX6_isDivided_r5 ++ wsX6_isDivided_r6))))) ++ wsX60 ++ wsX10 ++ wsX00 ++ wsX50 ++ wsX40 ++ (vx_atS RX6 145 "java/lang/IndexOutOfBoundsException" ["java/lang/RuntimeException", "java/lang/Exception"]).filter goodWord)
def wsX6_leastNumerator_r1 : List Cond := [Cond.fieldLink RX6 33 "UnlikeUnion" "division" "LUnlikeUnion$Division;", Cond.methodLink RX6 104 yX6_refreshDivision, Cond.instanceMethod yX6_refreshDivision, Cond.selects RX6 yX6_refreshDivision yX6_refreshDivision, Cond.initialized RX6, Cond.code yX6_refreshDivision cX6_refreshDivision 1 none, Cond.fieldLink RX6 152 "UnlikeUnion" "divisionStands" "Z", Cond.fieldLink RX6 12 "UnlikeUnion" "list" "LUnlikeUnion$Jobs;", Cond.fieldLink RX6 40 "UnlikeUnion" "rounding" "LUnlikeUnion$Rounding;", Cond.methodLink RX6 159 yX0_make, Cond.instanceMethod yX0_make, Cond.selects RX0 yX0_make yX0_make, Cond.initialized RX0, Cond.code yX0_make cX0_make 4 none, Cond.fieldLink RX0 33 "UnlikeUnion$Division" "bound" "I", Cond.methodLink RX0 25 yX0_findLeast, Cond.instanceMethod yX0_findLeast, Cond.selects RX0 yX0_findLeast yX0_findLeast, Cond.code yX0_findLeast cX0_findLeast 6 none, Cond.fieldLink RX0 12 "UnlikeUnion$Division" "tableau" "LUnlikeUnion$Tableau;", Cond.fieldLink RX0 60 "UnlikeUnion$Division" "leastNumerator" "I", Cond.fieldLink RX0 63 "UnlikeUnion$Division" "leastDenominator" "I", Cond.methodLink RX0 40 yX5_start, Cond.instanceMethod yX5_start]
def wsX6_leastNumerator_r2 : List Cond := [Cond.selects RX5 yX5_start yX5_start, Cond.initialized RX5, Cond.code yX5_start cX5_start 6 (some .boolean), Cond.fieldLink RX5 13 "UnlikeUnion$Tableau" "cells" "[[J", Cond.constantLong RX5 34 (-1), Cond.fieldLink RX5 16 "UnlikeUnion$Tableau" "basic" "[I", Cond.fieldLink RX5 20 "UnlikeUnion$Tableau" "allowed" "[Z", Cond.methodLink RX5 30 yX5_clear, Cond.instanceMethod yX5_clear, Cond.selects RX5 yX5_clear yX5_clear, Cond.code yX5_clear cX5_clear 4 none, Cond.methodLink RX5 43 Lib.Math.min.name, Cond.static Lib.Math.min.name, Cond.initialized "java/lang/Math", Cond.code Lib.Math.min.name Lib.Math.min.code 2 (some .int), Cond.fieldLink RX5 49 "UnlikeUnion$Tableau" "rows" "I", Cond.fieldLink RX5 52 "UnlikeUnion$Tableau" "scale" "J", Cond.methodLink RX5 36 yX5_layJob, Cond.instanceMethod yX5_layJob, Cond.selects RX5 yX5_layJob yX5_layJob, Cond.code yX5_layJob cX5_layJob 8 (some .boolean), Cond.methodLink RX5 56 yX1_timeOn, Cond.instanceMethod yX1_timeOn, Cond.selects RX1 yX1_timeOn yX1_timeOn]
def wsX6_leastNumerator_r3 : List Cond := [Cond.initialized RX1, Cond.code yX1_timeOn cX1_timeOn 3 (some .int), Cond.fieldLink RX1 15 "UnlikeUnion$Jobs" "count" "I", Cond.fieldLink RX1 9 "UnlikeUnion$Jobs" "times" "[I", Cond.methodLink RX5 59 yX5_clearBasic, Cond.instanceMethod yX5_clearBasic, Cond.selects RX5 yX5_clearBasic yX5_clearBasic, Cond.code yX5_clearBasic cX5_clearBasic 7 (some .boolean), Cond.methodLink RX5 40 yX5_admitExcess, Cond.instanceMethod yX5_admitExcess, Cond.selects RX5 yX5_admitExcess yX5_admitExcess, Cond.code yX5_admitExcess cX5_admitExcess 4 none, Cond.methodLink RX0 44 yX5_lowerExcess, Cond.instanceMethod yX5_lowerExcess, Cond.selects RX5 yX5_lowerExcess yX5_lowerExcess, Cond.code yX5_lowerExcess cX5_lowerExcess 4 (some .boolean), Cond.constant RX5 63 (1000000), Cond.methodLink RX5 64 yX5_rowOf, Cond.instanceMethod yX5_rowOf, Cond.selects RX5 yX5_rowOf yX5_rowOf, Cond.code yX5_rowOf cX5_rowOf 3 (some .int), Cond.methodLink RX5 68 yX5_columnWithSign, Cond.instanceMethod yX5_columnWithSign, Cond.selects RX5 yX5_columnWithSign yX5_columnWithSign]
def wsX6_leastNumerator_r4 : List Cond := [Cond.code yX5_columnWithSign cX5_columnWithSign 4 (some .int), Cond.methodLink RX5 71 yX5_enter, Cond.instanceMethod yX5_enter, Cond.selects RX5 yX5_enter yX5_enter, Cond.code yX5_enter cX5_enter 9 (some .boolean), Cond.methodLink RX5 77 yX5_leavingRow, Cond.instanceMethod yX5_leavingRow, Cond.selects RX5 yX5_leavingRow yX5_leavingRow, Cond.code yX5_leavingRow cX5_leavingRow 8 (some .int), Cond.methodLink RX0 48 yX5_scaledValue, Cond.instanceMethod yX5_scaledValue, Cond.selects RX5 yX5_scaledValue yX5_scaledValue, Cond.code yX5_scaledValue cX5_scaledValue 3 (some .long), Cond.methodLink RX0 56 yX0_commonDivisor, Cond.static yX0_commonDivisor, Cond.code yX0_commonDivisor cX0_commonDivisor 11 (some .long), Cond.methodLink RX0 29 yX0_canKeep, Cond.instanceMethod yX0_canKeep, Cond.selects RX0 yX0_canKeep yX0_canKeep, Cond.code yX0_canKeep cX0_canKeep 3 (some .boolean), Cond.methodLink RX0 37 yX0_findShares, Cond.instanceMethod yX0_findShares, Cond.selects RX0 yX0_findShares yX0_findShares, Cond.code yX0_findShares cX0_findShares 8 none]
def wsX6_leastNumerator_r5 : List Cond := [Cond.methodLink RX0 71 Lib.Math.min.name, Cond.fieldLink RX0 18 "UnlikeUnion$Division" "numerators" "[I", Cond.fieldLink RX0 22 "UnlikeUnion$Division" "denominators" "[I", Cond.methodLink RX0 77 yX5_raise, Cond.instanceMethod yX5_raise, Cond.selects RX5 yX5_raise yX5_raise, Cond.code yX5_raise cX5_raise 5 none, Cond.methodLink RX5 74 yX5_hold, Cond.instanceMethod yX5_hold, Cond.selects RX5 yX5_hold yX5_hold, Cond.code yX5_hold cX5_hold 3 none, Cond.methodLink RX6 162 yX4_make, Cond.instanceMethod yX4_make, Cond.selects RX4 yX4_make yX4_make, Cond.initialized RX4, Cond.code yX4_make cX4_make 3 none, Cond.methodLink RX4 15 yX4_matchFrom, Cond.static yX4_matchFrom, Cond.code yX4_matchFrom cX4_matchFrom 8 (some .boolean), Cond.fieldLink RX4 9 "UnlikeUnion$Rounding" "machineOf" "[I", Cond.methodLink RX4 25 yX0_wholeMachine, Cond.instanceMethod yX0_wholeMachine, Cond.selects RX0 yX0_wholeMachine yX0_wholeMachine, Cond.code yX0_wholeMachine cX0_wholeMachine 3 (some .int)]
def wsX6_leastNumerator_r6 : List Cond := [Cond.methodLink RX0 81 yX0_hasShare, Cond.instanceMethod yX0_hasShare, Cond.selects RX0 yX0_hasShare yX0_hasShare, Cond.code yX0_hasShare cX0_hasShare 3 (some .boolean), Cond.methodLink RX4 31 yX0_hasShare]
def wsX6_leastNumerator : List Cond := .code yX6_leastNumerator cX6_leastNumerator 1 (some .int) :: ((wsX6_leastNumerator_r1 ++ (wsX6_leastNumerator_r2 ++ (wsX6_leastNumerator_r3 ++ (wsX6_leastNumerator_r4 ++ (wsX6_leastNumerator_r5 ++ wsX6_leastNumerator_r6))))) ++ wsX60 ++ wsX00 ++ wsX50 ++ wsX10 ++ wsX40)
def wsX6_leastDenominator_r1 : List Cond := [Cond.fieldLink RX6 33 "UnlikeUnion" "division" "LUnlikeUnion$Division;", Cond.methodLink RX6 104 yX6_refreshDivision, Cond.instanceMethod yX6_refreshDivision, Cond.selects RX6 yX6_refreshDivision yX6_refreshDivision, Cond.initialized RX6, Cond.code yX6_refreshDivision cX6_refreshDivision 1 none, Cond.fieldLink RX6 152 "UnlikeUnion" "divisionStands" "Z", Cond.fieldLink RX6 12 "UnlikeUnion" "list" "LUnlikeUnion$Jobs;", Cond.fieldLink RX6 40 "UnlikeUnion" "rounding" "LUnlikeUnion$Rounding;", Cond.methodLink RX6 159 yX0_make, Cond.instanceMethod yX0_make, Cond.selects RX0 yX0_make yX0_make, Cond.initialized RX0, Cond.code yX0_make cX0_make 4 none, Cond.fieldLink RX0 33 "UnlikeUnion$Division" "bound" "I", Cond.methodLink RX0 25 yX0_findLeast, Cond.instanceMethod yX0_findLeast, Cond.selects RX0 yX0_findLeast yX0_findLeast, Cond.code yX0_findLeast cX0_findLeast 6 none, Cond.fieldLink RX0 12 "UnlikeUnion$Division" "tableau" "LUnlikeUnion$Tableau;", Cond.fieldLink RX0 60 "UnlikeUnion$Division" "leastNumerator" "I", Cond.fieldLink RX0 63 "UnlikeUnion$Division" "leastDenominator" "I", Cond.methodLink RX0 40 yX5_start, Cond.instanceMethod yX5_start]
def wsX6_leastDenominator_r2 : List Cond := [Cond.selects RX5 yX5_start yX5_start, Cond.initialized RX5, Cond.code yX5_start cX5_start 6 (some .boolean), Cond.fieldLink RX5 13 "UnlikeUnion$Tableau" "cells" "[[J", Cond.constantLong RX5 34 (-1), Cond.fieldLink RX5 16 "UnlikeUnion$Tableau" "basic" "[I", Cond.fieldLink RX5 20 "UnlikeUnion$Tableau" "allowed" "[Z", Cond.methodLink RX5 30 yX5_clear, Cond.instanceMethod yX5_clear, Cond.selects RX5 yX5_clear yX5_clear, Cond.code yX5_clear cX5_clear 4 none, Cond.methodLink RX5 43 Lib.Math.min.name, Cond.static Lib.Math.min.name, Cond.initialized "java/lang/Math", Cond.code Lib.Math.min.name Lib.Math.min.code 2 (some .int), Cond.fieldLink RX5 49 "UnlikeUnion$Tableau" "rows" "I", Cond.fieldLink RX5 52 "UnlikeUnion$Tableau" "scale" "J", Cond.methodLink RX5 36 yX5_layJob, Cond.instanceMethod yX5_layJob, Cond.selects RX5 yX5_layJob yX5_layJob, Cond.code yX5_layJob cX5_layJob 8 (some .boolean), Cond.methodLink RX5 56 yX1_timeOn, Cond.instanceMethod yX1_timeOn, Cond.selects RX1 yX1_timeOn yX1_timeOn]
def wsX6_leastDenominator_r3 : List Cond := [Cond.initialized RX1, Cond.code yX1_timeOn cX1_timeOn 3 (some .int), Cond.fieldLink RX1 15 "UnlikeUnion$Jobs" "count" "I", Cond.fieldLink RX1 9 "UnlikeUnion$Jobs" "times" "[I", Cond.methodLink RX5 59 yX5_clearBasic, Cond.instanceMethod yX5_clearBasic, Cond.selects RX5 yX5_clearBasic yX5_clearBasic, Cond.code yX5_clearBasic cX5_clearBasic 7 (some .boolean), Cond.methodLink RX5 40 yX5_admitExcess, Cond.instanceMethod yX5_admitExcess, Cond.selects RX5 yX5_admitExcess yX5_admitExcess, Cond.code yX5_admitExcess cX5_admitExcess 4 none, Cond.methodLink RX0 44 yX5_lowerExcess, Cond.instanceMethod yX5_lowerExcess, Cond.selects RX5 yX5_lowerExcess yX5_lowerExcess, Cond.code yX5_lowerExcess cX5_lowerExcess 4 (some .boolean), Cond.constant RX5 63 (1000000), Cond.methodLink RX5 64 yX5_rowOf, Cond.instanceMethod yX5_rowOf, Cond.selects RX5 yX5_rowOf yX5_rowOf, Cond.code yX5_rowOf cX5_rowOf 3 (some .int), Cond.methodLink RX5 68 yX5_columnWithSign, Cond.instanceMethod yX5_columnWithSign, Cond.selects RX5 yX5_columnWithSign yX5_columnWithSign]
def wsX6_leastDenominator_r4 : List Cond := [Cond.code yX5_columnWithSign cX5_columnWithSign 4 (some .int), Cond.methodLink RX5 71 yX5_enter, Cond.instanceMethod yX5_enter, Cond.selects RX5 yX5_enter yX5_enter, Cond.code yX5_enter cX5_enter 9 (some .boolean), Cond.methodLink RX5 77 yX5_leavingRow, Cond.instanceMethod yX5_leavingRow, Cond.selects RX5 yX5_leavingRow yX5_leavingRow, Cond.code yX5_leavingRow cX5_leavingRow 8 (some .int), Cond.methodLink RX0 48 yX5_scaledValue, Cond.instanceMethod yX5_scaledValue, Cond.selects RX5 yX5_scaledValue yX5_scaledValue, Cond.code yX5_scaledValue cX5_scaledValue 3 (some .long), Cond.methodLink RX0 56 yX0_commonDivisor, Cond.static yX0_commonDivisor, Cond.code yX0_commonDivisor cX0_commonDivisor 11 (some .long), Cond.methodLink RX0 29 yX0_canKeep, Cond.instanceMethod yX0_canKeep, Cond.selects RX0 yX0_canKeep yX0_canKeep, Cond.code yX0_canKeep cX0_canKeep 3 (some .boolean), Cond.methodLink RX0 37 yX0_findShares, Cond.instanceMethod yX0_findShares, Cond.selects RX0 yX0_findShares yX0_findShares, Cond.code yX0_findShares cX0_findShares 8 none]
def wsX6_leastDenominator_r5 : List Cond := [Cond.methodLink RX0 71 Lib.Math.min.name, Cond.fieldLink RX0 18 "UnlikeUnion$Division" "numerators" "[I", Cond.fieldLink RX0 22 "UnlikeUnion$Division" "denominators" "[I", Cond.methodLink RX0 77 yX5_raise, Cond.instanceMethod yX5_raise, Cond.selects RX5 yX5_raise yX5_raise, Cond.code yX5_raise cX5_raise 5 none, Cond.methodLink RX5 74 yX5_hold, Cond.instanceMethod yX5_hold, Cond.selects RX5 yX5_hold yX5_hold, Cond.code yX5_hold cX5_hold 3 none, Cond.methodLink RX6 162 yX4_make, Cond.instanceMethod yX4_make, Cond.selects RX4 yX4_make yX4_make, Cond.initialized RX4, Cond.code yX4_make cX4_make 3 none, Cond.methodLink RX4 15 yX4_matchFrom, Cond.static yX4_matchFrom, Cond.code yX4_matchFrom cX4_matchFrom 8 (some .boolean), Cond.fieldLink RX4 9 "UnlikeUnion$Rounding" "machineOf" "[I", Cond.methodLink RX4 25 yX0_wholeMachine, Cond.instanceMethod yX0_wholeMachine, Cond.selects RX0 yX0_wholeMachine yX0_wholeMachine, Cond.code yX0_wholeMachine cX0_wholeMachine 3 (some .int)]
def wsX6_leastDenominator_r6 : List Cond := [Cond.methodLink RX0 81 yX0_hasShare, Cond.instanceMethod yX0_hasShare, Cond.selects RX0 yX0_hasShare yX0_hasShare, Cond.code yX0_hasShare cX0_hasShare 3 (some .boolean), Cond.methodLink RX4 31 yX0_hasShare]
def wsX6_leastDenominator : List Cond := .code yX6_leastDenominator cX6_leastDenominator 1 (some .int) :: ((wsX6_leastDenominator_r1 ++ (wsX6_leastDenominator_r2 ++ (wsX6_leastDenominator_r3 ++ (wsX6_leastDenominator_r4 ++ (wsX6_leastDenominator_r5 ++ wsX6_leastDenominator_r6))))) ++ wsX60 ++ wsX00 ++ wsX50 ++ wsX10 ++ wsX40)
def wsX6_roundedMachine_r1 : List Cond := [Cond.fieldLink RX6 40 "UnlikeUnion" "rounding" "LUnlikeUnion$Rounding;", Cond.methodLink RX6 76 yX6_requireJob, Cond.instanceMethod yX6_requireJob, Cond.selects RX6 yX6_requireJob yX6_requireJob, Cond.initialized RX6, Cond.code yX6_requireJob cX6_requireJob 2 none, Cond.classLink RX6 141 "java/lang/IndexOutOfBoundsException", Cond.initialized "java/lang/IndexOutOfBoundsException", Cond.fieldLink RX6 12 "UnlikeUnion" "list" "LUnlikeUnion$Jobs;", Cond.methodLink RX6 104 yX6_refreshDivision, Cond.instanceMethod yX6_refreshDivision, Cond.selects RX6 yX6_refreshDivision yX6_refreshDivision, Cond.code yX6_refreshDivision cX6_refreshDivision 1 none, Cond.fieldLink RX6 152 "UnlikeUnion" "divisionStands" "Z", Cond.fieldLink RX6 33 "UnlikeUnion" "division" "LUnlikeUnion$Division;", Cond.methodLink RX6 159 yX0_make, Cond.instanceMethod yX0_make, Cond.selects RX0 yX0_make yX0_make, Cond.initialized RX0, Cond.code yX0_make cX0_make 4 none, Cond.fieldLink RX0 33 "UnlikeUnion$Division" "bound" "I", Cond.methodLink RX0 25 yX0_findLeast, Cond.instanceMethod yX0_findLeast, Cond.selects RX0 yX0_findLeast yX0_findLeast]
def wsX6_roundedMachine_r2 : List Cond := [Cond.code yX0_findLeast cX0_findLeast 6 none, Cond.fieldLink RX0 12 "UnlikeUnion$Division" "tableau" "LUnlikeUnion$Tableau;", Cond.fieldLink RX0 60 "UnlikeUnion$Division" "leastNumerator" "I", Cond.fieldLink RX0 63 "UnlikeUnion$Division" "leastDenominator" "I", Cond.methodLink RX0 40 yX5_start, Cond.instanceMethod yX5_start, Cond.selects RX5 yX5_start yX5_start, Cond.initialized RX5, Cond.code yX5_start cX5_start 6 (some .boolean), Cond.fieldLink RX5 13 "UnlikeUnion$Tableau" "cells" "[[J", Cond.constantLong RX5 34 (-1), Cond.fieldLink RX5 16 "UnlikeUnion$Tableau" "basic" "[I", Cond.fieldLink RX5 20 "UnlikeUnion$Tableau" "allowed" "[Z", Cond.methodLink RX5 30 yX5_clear, Cond.instanceMethod yX5_clear, Cond.selects RX5 yX5_clear yX5_clear, Cond.code yX5_clear cX5_clear 4 none, Cond.methodLink RX5 43 Lib.Math.min.name, Cond.static Lib.Math.min.name, Cond.initialized "java/lang/Math", Cond.code Lib.Math.min.name Lib.Math.min.code 2 (some .int), Cond.fieldLink RX5 49 "UnlikeUnion$Tableau" "rows" "I", Cond.fieldLink RX5 52 "UnlikeUnion$Tableau" "scale" "J", Cond.methodLink RX5 36 yX5_layJob]
def wsX6_roundedMachine_r3 : List Cond := [Cond.instanceMethod yX5_layJob, Cond.selects RX5 yX5_layJob yX5_layJob, Cond.code yX5_layJob cX5_layJob 8 (some .boolean), Cond.methodLink RX5 56 yX1_timeOn, Cond.instanceMethod yX1_timeOn, Cond.selects RX1 yX1_timeOn yX1_timeOn, Cond.initialized RX1, Cond.code yX1_timeOn cX1_timeOn 3 (some .int), Cond.fieldLink RX1 15 "UnlikeUnion$Jobs" "count" "I", Cond.fieldLink RX1 9 "UnlikeUnion$Jobs" "times" "[I", Cond.methodLink RX5 59 yX5_clearBasic, Cond.instanceMethod yX5_clearBasic, Cond.selects RX5 yX5_clearBasic yX5_clearBasic, Cond.code yX5_clearBasic cX5_clearBasic 7 (some .boolean), Cond.methodLink RX5 40 yX5_admitExcess, Cond.instanceMethod yX5_admitExcess, Cond.selects RX5 yX5_admitExcess yX5_admitExcess, Cond.code yX5_admitExcess cX5_admitExcess 4 none, Cond.methodLink RX0 44 yX5_lowerExcess, Cond.instanceMethod yX5_lowerExcess, Cond.selects RX5 yX5_lowerExcess yX5_lowerExcess, Cond.code yX5_lowerExcess cX5_lowerExcess 4 (some .boolean), Cond.constant RX5 63 (1000000), Cond.methodLink RX5 64 yX5_rowOf]
def wsX6_roundedMachine_r4 : List Cond := [Cond.instanceMethod yX5_rowOf, Cond.selects RX5 yX5_rowOf yX5_rowOf, Cond.code yX5_rowOf cX5_rowOf 3 (some .int), Cond.methodLink RX5 68 yX5_columnWithSign, Cond.instanceMethod yX5_columnWithSign, Cond.selects RX5 yX5_columnWithSign yX5_columnWithSign, Cond.code yX5_columnWithSign cX5_columnWithSign 4 (some .int), Cond.methodLink RX5 71 yX5_enter, Cond.instanceMethod yX5_enter, Cond.selects RX5 yX5_enter yX5_enter, Cond.code yX5_enter cX5_enter 9 (some .boolean), Cond.methodLink RX5 77 yX5_leavingRow, Cond.instanceMethod yX5_leavingRow, Cond.selects RX5 yX5_leavingRow yX5_leavingRow, Cond.code yX5_leavingRow cX5_leavingRow 8 (some .int), Cond.methodLink RX0 48 yX5_scaledValue, Cond.instanceMethod yX5_scaledValue, Cond.selects RX5 yX5_scaledValue yX5_scaledValue, Cond.code yX5_scaledValue cX5_scaledValue 3 (some .long), Cond.methodLink RX0 56 yX0_commonDivisor, Cond.static yX0_commonDivisor, Cond.code yX0_commonDivisor cX0_commonDivisor 11 (some .long), Cond.methodLink RX0 29 yX0_canKeep, Cond.instanceMethod yX0_canKeep]
def wsX6_roundedMachine_r5 : List Cond := [Cond.selects RX0 yX0_canKeep yX0_canKeep, Cond.code yX0_canKeep cX0_canKeep 3 (some .boolean), Cond.methodLink RX0 37 yX0_findShares, Cond.instanceMethod yX0_findShares, Cond.selects RX0 yX0_findShares yX0_findShares, Cond.code yX0_findShares cX0_findShares 8 none, Cond.methodLink RX0 71 Lib.Math.min.name, Cond.fieldLink RX0 18 "UnlikeUnion$Division" "numerators" "[I", Cond.fieldLink RX0 22 "UnlikeUnion$Division" "denominators" "[I", Cond.methodLink RX0 77 yX5_raise, Cond.instanceMethod yX5_raise, Cond.selects RX5 yX5_raise yX5_raise, Cond.code yX5_raise cX5_raise 5 none, Cond.methodLink RX5 74 yX5_hold, Cond.instanceMethod yX5_hold, Cond.selects RX5 yX5_hold yX5_hold, Cond.code yX5_hold cX5_hold 3 none, Cond.methodLink RX6 162 yX4_make, Cond.instanceMethod yX4_make, Cond.selects RX4 yX4_make yX4_make, Cond.initialized RX4, Cond.code yX4_make cX4_make 3 none, Cond.methodLink RX4 15 yX4_matchFrom, Cond.static yX4_matchFrom]
def wsX6_roundedMachine_r6 : List Cond := [Cond.code yX4_matchFrom cX4_matchFrom 8 (some .boolean), Cond.fieldLink RX4 9 "UnlikeUnion$Rounding" "machineOf" "[I", Cond.methodLink RX4 25 yX0_wholeMachine, Cond.instanceMethod yX0_wholeMachine, Cond.selects RX0 yX0_wholeMachine yX0_wholeMachine, Cond.code yX0_wholeMachine cX0_wholeMachine 3 (some .int), Cond.methodLink RX0 81 yX0_hasShare, Cond.instanceMethod yX0_hasShare, Cond.selects RX0 yX0_hasShare yX0_hasShare, Cond.code yX0_hasShare cX0_hasShare 3 (some .boolean), Cond.methodLink RX4 31 yX0_hasShare]
def wsX6_roundedMachine : List Cond := .code yX6_roundedMachine cX6_roundedMachine 2 (some .int) :: ((wsX6_roundedMachine_r1 ++ (wsX6_roundedMachine_r2 ++ (wsX6_roundedMachine_r3 ++ (wsX6_roundedMachine_r4 ++ (wsX6_roundedMachine_r5 ++ wsX6_roundedMachine_r6))))) ++ wsX60 ++ wsX40 ++ wsX10 ++ wsX00 ++ wsX50 ++ (vx_atS RX6 145 "java/lang/IndexOutOfBoundsException" ["java/lang/RuntimeException", "java/lang/Exception"]).filter goodWord)
def wsX6_roundedLength_r1 : List Cond := [Cond.fieldLink RX6 12 "UnlikeUnion" "list" "LUnlikeUnion$Jobs;", Cond.fieldLink RX6 40 "UnlikeUnion" "rounding" "LUnlikeUnion$Rounding;", Cond.methodLink RX6 104 yX6_refreshDivision, Cond.instanceMethod yX6_refreshDivision, Cond.selects RX6 yX6_refreshDivision yX6_refreshDivision, Cond.initialized RX6, Cond.code yX6_refreshDivision cX6_refreshDivision 1 none, Cond.fieldLink RX6 152 "UnlikeUnion" "divisionStands" "Z", Cond.fieldLink RX6 33 "UnlikeUnion" "division" "LUnlikeUnion$Division;", Cond.methodLink RX6 159 yX0_make, Cond.instanceMethod yX0_make, Cond.selects RX0 yX0_make yX0_make, Cond.initialized RX0, Cond.code yX0_make cX0_make 4 none, Cond.fieldLink RX0 33 "UnlikeUnion$Division" "bound" "I", Cond.methodLink RX0 25 yX0_findLeast, Cond.instanceMethod yX0_findLeast, Cond.selects RX0 yX0_findLeast yX0_findLeast, Cond.code yX0_findLeast cX0_findLeast 6 none, Cond.fieldLink RX0 12 "UnlikeUnion$Division" "tableau" "LUnlikeUnion$Tableau;", Cond.fieldLink RX0 60 "UnlikeUnion$Division" "leastNumerator" "I", Cond.fieldLink RX0 63 "UnlikeUnion$Division" "leastDenominator" "I", Cond.methodLink RX0 40 yX5_start, Cond.instanceMethod yX5_start]
def wsX6_roundedLength_r2 : List Cond := [Cond.selects RX5 yX5_start yX5_start, Cond.initialized RX5, Cond.code yX5_start cX5_start 6 (some .boolean), Cond.fieldLink RX5 13 "UnlikeUnion$Tableau" "cells" "[[J", Cond.constantLong RX5 34 (-1), Cond.fieldLink RX5 16 "UnlikeUnion$Tableau" "basic" "[I", Cond.fieldLink RX5 20 "UnlikeUnion$Tableau" "allowed" "[Z", Cond.methodLink RX5 30 yX5_clear, Cond.instanceMethod yX5_clear, Cond.selects RX5 yX5_clear yX5_clear, Cond.code yX5_clear cX5_clear 4 none, Cond.methodLink RX5 43 Lib.Math.min.name, Cond.static Lib.Math.min.name, Cond.initialized "java/lang/Math", Cond.code Lib.Math.min.name Lib.Math.min.code 2 (some .int), Cond.fieldLink RX5 49 "UnlikeUnion$Tableau" "rows" "I", Cond.fieldLink RX5 52 "UnlikeUnion$Tableau" "scale" "J", Cond.methodLink RX5 36 yX5_layJob, Cond.instanceMethod yX5_layJob, Cond.selects RX5 yX5_layJob yX5_layJob, Cond.code yX5_layJob cX5_layJob 8 (some .boolean), Cond.methodLink RX5 56 yX1_timeOn, Cond.instanceMethod yX1_timeOn, Cond.selects RX1 yX1_timeOn yX1_timeOn]
def wsX6_roundedLength_r3 : List Cond := [Cond.initialized RX1, Cond.code yX1_timeOn cX1_timeOn 3 (some .int), Cond.fieldLink RX1 15 "UnlikeUnion$Jobs" "count" "I", Cond.fieldLink RX1 9 "UnlikeUnion$Jobs" "times" "[I", Cond.methodLink RX5 59 yX5_clearBasic, Cond.instanceMethod yX5_clearBasic, Cond.selects RX5 yX5_clearBasic yX5_clearBasic, Cond.code yX5_clearBasic cX5_clearBasic 7 (some .boolean), Cond.methodLink RX5 40 yX5_admitExcess, Cond.instanceMethod yX5_admitExcess, Cond.selects RX5 yX5_admitExcess yX5_admitExcess, Cond.code yX5_admitExcess cX5_admitExcess 4 none, Cond.methodLink RX0 44 yX5_lowerExcess, Cond.instanceMethod yX5_lowerExcess, Cond.selects RX5 yX5_lowerExcess yX5_lowerExcess, Cond.code yX5_lowerExcess cX5_lowerExcess 4 (some .boolean), Cond.constant RX5 63 (1000000), Cond.methodLink RX5 64 yX5_rowOf, Cond.instanceMethod yX5_rowOf, Cond.selects RX5 yX5_rowOf yX5_rowOf, Cond.code yX5_rowOf cX5_rowOf 3 (some .int), Cond.methodLink RX5 68 yX5_columnWithSign, Cond.instanceMethod yX5_columnWithSign, Cond.selects RX5 yX5_columnWithSign yX5_columnWithSign]
def wsX6_roundedLength_r4 : List Cond := [Cond.code yX5_columnWithSign cX5_columnWithSign 4 (some .int), Cond.methodLink RX5 71 yX5_enter, Cond.instanceMethod yX5_enter, Cond.selects RX5 yX5_enter yX5_enter, Cond.code yX5_enter cX5_enter 9 (some .boolean), Cond.methodLink RX5 77 yX5_leavingRow, Cond.instanceMethod yX5_leavingRow, Cond.selects RX5 yX5_leavingRow yX5_leavingRow, Cond.code yX5_leavingRow cX5_leavingRow 8 (some .int), Cond.methodLink RX0 48 yX5_scaledValue, Cond.instanceMethod yX5_scaledValue, Cond.selects RX5 yX5_scaledValue yX5_scaledValue, Cond.code yX5_scaledValue cX5_scaledValue 3 (some .long), Cond.methodLink RX0 56 yX0_commonDivisor, Cond.static yX0_commonDivisor, Cond.code yX0_commonDivisor cX0_commonDivisor 11 (some .long), Cond.methodLink RX0 29 yX0_canKeep, Cond.instanceMethod yX0_canKeep, Cond.selects RX0 yX0_canKeep yX0_canKeep, Cond.code yX0_canKeep cX0_canKeep 3 (some .boolean), Cond.methodLink RX0 37 yX0_findShares, Cond.instanceMethod yX0_findShares, Cond.selects RX0 yX0_findShares yX0_findShares, Cond.code yX0_findShares cX0_findShares 8 none]
def wsX6_roundedLength_r5 : List Cond := [Cond.methodLink RX0 71 Lib.Math.min.name, Cond.fieldLink RX0 18 "UnlikeUnion$Division" "numerators" "[I", Cond.fieldLink RX0 22 "UnlikeUnion$Division" "denominators" "[I", Cond.methodLink RX0 77 yX5_raise, Cond.instanceMethod yX5_raise, Cond.selects RX5 yX5_raise yX5_raise, Cond.code yX5_raise cX5_raise 5 none, Cond.methodLink RX5 74 yX5_hold, Cond.instanceMethod yX5_hold, Cond.selects RX5 yX5_hold yX5_hold, Cond.code yX5_hold cX5_hold 3 none, Cond.methodLink RX6 162 yX4_make, Cond.instanceMethod yX4_make, Cond.selects RX4 yX4_make yX4_make, Cond.initialized RX4, Cond.code yX4_make cX4_make 3 none, Cond.methodLink RX4 15 yX4_matchFrom, Cond.static yX4_matchFrom, Cond.code yX4_matchFrom cX4_matchFrom 8 (some .boolean), Cond.fieldLink RX4 9 "UnlikeUnion$Rounding" "machineOf" "[I", Cond.methodLink RX4 25 yX0_wholeMachine, Cond.instanceMethod yX0_wholeMachine, Cond.selects RX0 yX0_wholeMachine yX0_wholeMachine, Cond.code yX0_wholeMachine cX0_wholeMachine 3 (some .int)]
def wsX6_roundedLength_r6 : List Cond := [Cond.methodLink RX0 81 yX0_hasShare, Cond.instanceMethod yX0_hasShare, Cond.selects RX0 yX0_hasShare yX0_hasShare, Cond.code yX0_hasShare cX0_hasShare 3 (some .boolean), Cond.methodLink RX4 31 yX0_hasShare, Cond.methodLink RX6 127 yX1_greatestLoad, Cond.instanceMethod yX1_greatestLoad, Cond.selects RX1 yX1_greatestLoad yX1_greatestLoad, Cond.code yX1_greatestLoad cX1_greatestLoad 2 (some .int), Cond.methodLink RX1 27 Lib.Math.max.name, Cond.static Lib.Math.max.name, Cond.code Lib.Math.max.name Lib.Math.max.code 2 (some .int), Cond.methodLink RX1 23 yX1_loadOn, Cond.instanceMethod yX1_loadOn, Cond.selects RX1 yX1_loadOn yX1_loadOn, Cond.code yX1_loadOn cX1_loadOn 5 (some .int), Cond.methodLink RX1 19 yX1_timeOn]
def wsX6_roundedLength : List Cond := .code yX6_roundedLength cX6_roundedLength 1 (some .int) :: ((wsX6_roundedLength_r1 ++ (wsX6_roundedLength_r2 ++ (wsX6_roundedLength_r3 ++ (wsX6_roundedLength_r4 ++ (wsX6_roundedLength_r5 ++ wsX6_roundedLength_r6))))) ++ wsX60 ++ wsX40 ++ wsX00 ++ wsX50 ++ wsX10)
def wsX6_excess_r1 : List Cond := [Cond.fieldLink RX6 26 "UnlikeUnion" "search" "LUnlikeUnion$PlanSearch;", Cond.fieldLink RX6 12 "UnlikeUnion" "list" "LUnlikeUnion$Jobs;", Cond.fieldLink RX6 40 "UnlikeUnion" "rounding" "LUnlikeUnion$Rounding;", Cond.methodLink RX6 91 yX6_refreshSearch, Cond.instanceMethod yX6_refreshSearch, Cond.selects RX6 yX6_refreshSearch yX6_refreshSearch, Cond.initialized RX6, Cond.code yX6_refreshSearch cX6_refreshSearch 1 none, Cond.fieldLink RX6 148 "UnlikeUnion" "searchStands" "Z", Cond.methodLink RX6 155 yX3_find, Cond.instanceMethod yX3_find, Cond.selects RX3 yX3_find yX3_find, Cond.initialized RX3, Cond.code yX3_find cX3_find 2 none, Cond.fieldLink RX3 24 "UnlikeUnion$PlanSearch" "bestLength" "I", Cond.methodLink RX3 21 yX3_clearLoads, Cond.instanceMethod yX3_clearLoads, Cond.selects RX3 yX3_clearLoads yX3_clearLoads, Cond.code yX3_clearLoads cX3_clearLoads 2 none, Cond.fieldLink RX3 9 "UnlikeUnion$PlanSearch" "loads" "[I", Cond.methodLink RX3 28 yX3_searchFrom, Cond.static yX3_searchFrom, Cond.code yX3_searchFrom cX3_searchFrom 6 none, Cond.fieldLink RX3 15 "UnlikeUnion$PlanSearch" "chosen" "[I"]
def wsX6_excess_r2 : List Cond := [Cond.methodLink RX3 36 yX3_greatest, Cond.instanceMethod yX3_greatest, Cond.selects RX3 yX3_greatest yX3_greatest, Cond.code yX3_greatest cX3_greatest 1 (some .int), Cond.methodLink RX3 58 Lib.Math.max.name, Cond.static Lib.Math.max.name, Cond.initialized "java/lang/Math", Cond.code Lib.Math.max.name Lib.Math.max.code 2 (some .int), Cond.methodLink RX3 45 yX3_keep, Cond.instanceMethod yX3_keep, Cond.selects RX3 yX3_keep yX3_keep, Cond.code yX3_keep cX3_keep 3 none, Cond.fieldLink RX3 18 "UnlikeUnion$PlanSearch" "best" "[I", Cond.methodLink RX3 49 yX1_timeOn, Cond.instanceMethod yX1_timeOn, Cond.selects RX1 yX1_timeOn yX1_timeOn, Cond.initialized RX1, Cond.code yX1_timeOn cX1_timeOn 3 (some .int), Cond.fieldLink RX1 15 "UnlikeUnion$Jobs" "count" "I", Cond.fieldLink RX1 9 "UnlikeUnion$Jobs" "times" "[I", Cond.methodLink RX6 104 yX6_refreshDivision, Cond.instanceMethod yX6_refreshDivision, Cond.selects RX6 yX6_refreshDivision yX6_refreshDivision, Cond.code yX6_refreshDivision cX6_refreshDivision 1 none]
def wsX6_excess_r3 : List Cond := [Cond.fieldLink RX6 152 "UnlikeUnion" "divisionStands" "Z", Cond.fieldLink RX6 33 "UnlikeUnion" "division" "LUnlikeUnion$Division;", Cond.methodLink RX6 159 yX0_make, Cond.instanceMethod yX0_make, Cond.selects RX0 yX0_make yX0_make, Cond.initialized RX0, Cond.code yX0_make cX0_make 4 none, Cond.fieldLink RX0 33 "UnlikeUnion$Division" "bound" "I", Cond.methodLink RX0 25 yX0_findLeast, Cond.instanceMethod yX0_findLeast, Cond.selects RX0 yX0_findLeast yX0_findLeast, Cond.code yX0_findLeast cX0_findLeast 6 none, Cond.fieldLink RX0 12 "UnlikeUnion$Division" "tableau" "LUnlikeUnion$Tableau;", Cond.fieldLink RX0 60 "UnlikeUnion$Division" "leastNumerator" "I", Cond.fieldLink RX0 63 "UnlikeUnion$Division" "leastDenominator" "I", Cond.methodLink RX0 40 yX5_start, Cond.instanceMethod yX5_start, Cond.selects RX5 yX5_start yX5_start, Cond.initialized RX5, Cond.code yX5_start cX5_start 6 (some .boolean), Cond.fieldLink RX5 13 "UnlikeUnion$Tableau" "cells" "[[J", Cond.constantLong RX5 34 (-1), Cond.fieldLink RX5 16 "UnlikeUnion$Tableau" "basic" "[I", Cond.fieldLink RX5 20 "UnlikeUnion$Tableau" "allowed" "[Z"]
def wsX6_excess_r4 : List Cond := [Cond.methodLink RX5 30 yX5_clear, Cond.instanceMethod yX5_clear, Cond.selects RX5 yX5_clear yX5_clear, Cond.code yX5_clear cX5_clear 4 none, Cond.methodLink RX5 43 Lib.Math.min.name, Cond.static Lib.Math.min.name, Cond.code Lib.Math.min.name Lib.Math.min.code 2 (some .int), Cond.fieldLink RX5 49 "UnlikeUnion$Tableau" "rows" "I", Cond.fieldLink RX5 52 "UnlikeUnion$Tableau" "scale" "J", Cond.methodLink RX5 36 yX5_layJob, Cond.instanceMethod yX5_layJob, Cond.selects RX5 yX5_layJob yX5_layJob, Cond.code yX5_layJob cX5_layJob 8 (some .boolean), Cond.methodLink RX5 56 yX1_timeOn, Cond.methodLink RX5 59 yX5_clearBasic, Cond.instanceMethod yX5_clearBasic, Cond.selects RX5 yX5_clearBasic yX5_clearBasic, Cond.code yX5_clearBasic cX5_clearBasic 7 (some .boolean), Cond.methodLink RX5 40 yX5_admitExcess, Cond.instanceMethod yX5_admitExcess, Cond.selects RX5 yX5_admitExcess yX5_admitExcess, Cond.code yX5_admitExcess cX5_admitExcess 4 none, Cond.methodLink RX0 44 yX5_lowerExcess, Cond.instanceMethod yX5_lowerExcess]
def wsX6_excess_r5 : List Cond := [Cond.selects RX5 yX5_lowerExcess yX5_lowerExcess, Cond.code yX5_lowerExcess cX5_lowerExcess 4 (some .boolean), Cond.constant RX5 63 (1000000), Cond.methodLink RX5 64 yX5_rowOf, Cond.instanceMethod yX5_rowOf, Cond.selects RX5 yX5_rowOf yX5_rowOf, Cond.code yX5_rowOf cX5_rowOf 3 (some .int), Cond.methodLink RX5 68 yX5_columnWithSign, Cond.instanceMethod yX5_columnWithSign, Cond.selects RX5 yX5_columnWithSign yX5_columnWithSign, Cond.code yX5_columnWithSign cX5_columnWithSign 4 (some .int), Cond.methodLink RX5 71 yX5_enter, Cond.instanceMethod yX5_enter, Cond.selects RX5 yX5_enter yX5_enter, Cond.code yX5_enter cX5_enter 9 (some .boolean), Cond.methodLink RX5 77 yX5_leavingRow, Cond.instanceMethod yX5_leavingRow, Cond.selects RX5 yX5_leavingRow yX5_leavingRow, Cond.code yX5_leavingRow cX5_leavingRow 8 (some .int), Cond.methodLink RX0 48 yX5_scaledValue, Cond.instanceMethod yX5_scaledValue, Cond.selects RX5 yX5_scaledValue yX5_scaledValue, Cond.code yX5_scaledValue cX5_scaledValue 3 (some .long), Cond.methodLink RX0 56 yX0_commonDivisor]
def wsX6_excess_r6 : List Cond := [Cond.static yX0_commonDivisor, Cond.code yX0_commonDivisor cX0_commonDivisor 11 (some .long), Cond.methodLink RX0 29 yX0_canKeep, Cond.instanceMethod yX0_canKeep, Cond.selects RX0 yX0_canKeep yX0_canKeep, Cond.code yX0_canKeep cX0_canKeep 3 (some .boolean), Cond.methodLink RX0 37 yX0_findShares, Cond.instanceMethod yX0_findShares, Cond.selects RX0 yX0_findShares yX0_findShares, Cond.code yX0_findShares cX0_findShares 8 none, Cond.methodLink RX0 71 Lib.Math.min.name, Cond.fieldLink RX0 18 "UnlikeUnion$Division" "numerators" "[I", Cond.fieldLink RX0 22 "UnlikeUnion$Division" "denominators" "[I", Cond.methodLink RX0 77 yX5_raise, Cond.instanceMethod yX5_raise, Cond.selects RX5 yX5_raise yX5_raise, Cond.code yX5_raise cX5_raise 5 none, Cond.methodLink RX5 74 yX5_hold, Cond.instanceMethod yX5_hold, Cond.selects RX5 yX5_hold yX5_hold, Cond.code yX5_hold cX5_hold 3 none, Cond.methodLink RX6 162 yX4_make, Cond.instanceMethod yX4_make, Cond.selects RX4 yX4_make yX4_make]
def wsX6_excess_r7 : List Cond := [Cond.initialized RX4, Cond.code yX4_make cX4_make 3 none, Cond.methodLink RX4 15 yX4_matchFrom, Cond.static yX4_matchFrom, Cond.code yX4_matchFrom cX4_matchFrom 8 (some .boolean), Cond.fieldLink RX4 9 "UnlikeUnion$Rounding" "machineOf" "[I", Cond.methodLink RX4 25 yX0_wholeMachine, Cond.instanceMethod yX0_wholeMachine, Cond.selects RX0 yX0_wholeMachine yX0_wholeMachine, Cond.code yX0_wholeMachine cX0_wholeMachine 3 (some .int), Cond.methodLink RX0 81 yX0_hasShare, Cond.instanceMethod yX0_hasShare, Cond.selects RX0 yX0_hasShare yX0_hasShare, Cond.code yX0_hasShare cX0_hasShare 3 (some .boolean), Cond.methodLink RX4 31 yX0_hasShare, Cond.methodLink RX6 127 yX1_greatestLoad, Cond.instanceMethod yX1_greatestLoad, Cond.selects RX1 yX1_greatestLoad yX1_greatestLoad, Cond.code yX1_greatestLoad cX1_greatestLoad 2 (some .int), Cond.methodLink RX1 27 Lib.Math.max.name, Cond.methodLink RX1 23 yX1_loadOn, Cond.instanceMethod yX1_loadOn, Cond.selects RX1 yX1_loadOn yX1_loadOn, Cond.code yX1_loadOn cX1_loadOn 5 (some .int)]
def wsX6_excess_r8 : List Cond := [Cond.methodLink RX1 19 yX1_timeOn]
def wsX6_excess : List Cond := .code yX6_excess cX6_excess 1 (some .float) :: ((wsX6_excess_r1 ++ (wsX6_excess_r2 ++ (wsX6_excess_r3 ++ (wsX6_excess_r4 ++ (wsX6_excess_r5 ++ (wsX6_excess_r6 ++ (wsX6_excess_r7 ++ wsX6_excess_r8))))))) ++ wsX60 ++ wsX30 ++ wsX40 ++ wsX10 ++ wsX00 ++ wsX50)
def wsX6_assign : List Cond := .code yX6_assign cX6_assign 4 (some .int) :: ([.classLink RX6 61 "java/lang/IllegalStateException", .initialized "java/lang/IllegalStateException", .fieldLink RX6 12 "UnlikeUnion" "list" "LUnlikeUnion$Jobs;", .fieldLink RX6 19 "UnlikeUnion" "own" "LUnlikeUnion$OwnPlan;", .methodLink RX6 76 yX6_requireJob, .instanceMethod yX6_requireJob, .selects RX6 yX6_requireJob yX6_requireJob, .initialized RX6, .code yX6_requireJob cX6_requireJob 2 none, .classLink RX6 141 "java/lang/IndexOutOfBoundsException", .initialized "java/lang/IndexOutOfBoundsException", .methodLink RX6 80 yX6_requireMachine, .static yX6_requireMachine, .code yX6_requireMachine cX6_requireMachine 1 none, .methodLink RX6 87 yX1_timeOn, .instanceMethod yX1_timeOn, .selects RX1 yX1_timeOn yX1_timeOn, .initialized RX1, .code yX1_timeOn cX1_timeOn 3 (some .int), .fieldLink RX1 15 "UnlikeUnion$Jobs" "count" "I", .fieldLink RX1 9 "UnlikeUnion$Jobs" "times" "[I"] ++ wsX60 ++ wsX20 ++ wsX10 ++ (vx_atS RX6 65 "java/lang/IllegalStateException" ["java/lang/RuntimeException", "java/lang/Exception"]).filter goodWord ++ (vx_atS RX6 145 "java/lang/IndexOutOfBoundsException" ["java/lang/RuntimeException", "java/lang/Exception"]).filter goodWord)
def wsX6_machine : List Cond := .code yX6_machine cX6_machine 2 (some .int) :: ([.fieldLink RX6 19 "UnlikeUnion" "own" "LUnlikeUnion$OwnPlan;", .methodLink RX6 76 yX6_requireJob, .instanceMethod yX6_requireJob, .selects RX6 yX6_requireJob yX6_requireJob, .initialized RX6, .code yX6_requireJob cX6_requireJob 2 none, .classLink RX6 141 "java/lang/IndexOutOfBoundsException", .initialized "java/lang/IndexOutOfBoundsException", .fieldLink RX6 12 "UnlikeUnion" "list" "LUnlikeUnion$Jobs;"] ++ wsX60 ++ wsX20 ++ wsX10 ++ (vx_atS RX6 145 "java/lang/IndexOutOfBoundsException" ["java/lang/RuntimeException", "java/lang/Exception"]).filter goodWord)
def wsX6_load : List Cond := .code yX6_load cX6_load 2 (some .int) :: ([.fieldLink RX6 12 "UnlikeUnion" "list" "LUnlikeUnion$Jobs;", .fieldLink RX6 19 "UnlikeUnion" "own" "LUnlikeUnion$OwnPlan;", .methodLink RX6 80 yX6_requireMachine, .static yX6_requireMachine, .initialized RX6, .code yX6_requireMachine cX6_requireMachine 1 none, .classLink RX6 141 "java/lang/IndexOutOfBoundsException", .initialized "java/lang/IndexOutOfBoundsException", .methodLink RX6 133 yX1_loadOn, .instanceMethod yX1_loadOn, .selects RX1 yX1_loadOn yX1_loadOn, .initialized RX1, .code yX1_loadOn cX1_loadOn 5 (some .int), .fieldLink RX1 15 "UnlikeUnion$Jobs" "count" "I", .methodLink RX1 19 yX1_timeOn, .instanceMethod yX1_timeOn, .selects RX1 yX1_timeOn yX1_timeOn, .code yX1_timeOn cX1_timeOn 3 (some .int), .fieldLink RX1 9 "UnlikeUnion$Jobs" "times" "[I"] ++ wsX60 ++ wsX20 ++ wsX10 ++ (vx_atS RX6 145 "java/lang/IndexOutOfBoundsException" ["java/lang/RuntimeException", "java/lang/Exception"]).filter goodWord)
def wsX6_length : List Cond := .code yX6_length cX6_length 1 (some .int) :: ([.fieldLink RX6 12 "UnlikeUnion" "list" "LUnlikeUnion$Jobs;", .fieldLink RX6 19 "UnlikeUnion" "own" "LUnlikeUnion$OwnPlan;", .methodLink RX6 127 yX1_greatestLoad, .instanceMethod yX1_greatestLoad, .selects RX1 yX1_greatestLoad yX1_greatestLoad, .initialized RX1, .code yX1_greatestLoad cX1_greatestLoad 2 (some .int), .methodLink RX1 27 Lib.Math.max.name, .static Lib.Math.max.name, .initialized "java/lang/Math", .code Lib.Math.max.name Lib.Math.max.code 2 (some .int), .methodLink RX1 23 yX1_loadOn, .instanceMethod yX1_loadOn, .selects RX1 yX1_loadOn yX1_loadOn, .code yX1_loadOn cX1_loadOn 5 (some .int), .fieldLink RX1 15 "UnlikeUnion$Jobs" "count" "I", .methodLink RX1 19 yX1_timeOn, .instanceMethod yX1_timeOn, .selects RX1 yX1_timeOn yX1_timeOn, .code yX1_timeOn cX1_timeOn 3 (some .int), .fieldLink RX1 9 "UnlikeUnion$Jobs" "times" "[I"] ++ wsX60 ++ wsX20 ++ wsX10)
def wsX6_improve_r1 : List Cond := [Cond.fieldLink RX6 19 "UnlikeUnion" "own" "LUnlikeUnion$OwnPlan;", Cond.fieldLink RX6 12 "UnlikeUnion" "list" "LUnlikeUnion$Jobs;", Cond.methodLink RX6 137 yX2_makeBestChange, Cond.instanceMethod yX2_makeBestChange, Cond.selects RX2 yX2_makeBestChange yX2_makeBestChange, Cond.initialized RX2, Cond.code yX2_makeBestChange cX2_makeBestChange 3 (some .boolean), Cond.fieldLink RX2 19 "UnlikeUnion$OwnPlan" "bestRank" "I", Cond.fieldLink RX2 23 "UnlikeUnion$OwnPlan" "bestJob" "I", Cond.fieldLink RX2 26 "UnlikeUnion$OwnPlan" "bestOther" "I", Cond.fieldLink RX2 29 "UnlikeUnion$OwnPlan" "bestMachine" "I", Cond.fieldLink RX2 9 "UnlikeUnion$OwnPlan" "machineOf" "[I", Cond.methodLink RX2 15 yX2_rank, Cond.instanceMethod yX2_rank, Cond.selects RX2 yX2_rank yX2_rank, Cond.code yX2_rank cX2_rank 8 (some .int), Cond.methodLink RX2 60 Lib.Math.max.name, Cond.static Lib.Math.max.name, Cond.initialized "java/lang/Math", Cond.code Lib.Math.max.name Lib.Math.max.code 2 (some .int), Cond.methodLink RX2 65 Lib.Math.min.name, Cond.static Lib.Math.min.name, Cond.code Lib.Math.min.name Lib.Math.min.code 2 (some .int), Cond.methodLink RX2 56 yX1_loadOn]
def wsX6_improve_r2 : List Cond := [Cond.instanceMethod yX1_loadOn, Cond.selects RX1 yX1_loadOn yX1_loadOn, Cond.initialized RX1, Cond.code yX1_loadOn cX1_loadOn 5 (some .int), Cond.fieldLink RX1 15 "UnlikeUnion$Jobs" "count" "I", Cond.methodLink RX1 19 yX1_timeOn, Cond.instanceMethod yX1_timeOn, Cond.selects RX1 yX1_timeOn yX1_timeOn, Cond.code yX1_timeOn cX1_timeOn 3 (some .int), Cond.fieldLink RX1 9 "UnlikeUnion$Jobs" "times" "[I", Cond.methodLink RX2 37 yX2_meetMoves, Cond.instanceMethod yX2_meetMoves, Cond.selects RX2 yX2_meetMoves yX2_meetMoves, Cond.code yX2_meetMoves cX2_meetMoves 5 none, Cond.methodLink RX2 48 yX1_timeOn, Cond.methodLink RX2 52 yX2_meet, Cond.instanceMethod yX2_meet, Cond.selects RX2 yX2_meet yX2_meet, Cond.code yX2_meet cX2_meet 5 none, Cond.methodLink RX2 41 yX2_meetSwaps, Cond.instanceMethod yX2_meetSwaps, Cond.selects RX2 yX2_meetSwaps yX2_meetSwaps, Cond.code yX2_meetSwaps cX2_meetSwaps 6 none, Cond.methodLink RX2 44 yX2_swap]
def wsX6_improve_r3 : List Cond := [Cond.instanceMethod yX2_swap, Cond.selects RX2 yX2_swap yX2_swap, Cond.code yX2_swap cX2_swap 4 none, Cond.methodLink RX6 127 yX1_greatestLoad, Cond.instanceMethod yX1_greatestLoad, Cond.selects RX1 yX1_greatestLoad yX1_greatestLoad, Cond.code yX1_greatestLoad cX1_greatestLoad 2 (some .int), Cond.methodLink RX1 27 Lib.Math.max.name, Cond.methodLink RX1 23 yX1_loadOn]
def wsX6_improve : List Cond := .code yX6_improve cX6_improve 1 (some .int) :: ((wsX6_improve_r1 ++ (wsX6_improve_r2 ++ wsX6_improve_r3)) ++ wsX60 ++ wsX20 ++ wsX10)
def wsX6_takeRounded_r1 : List Cond := [Cond.fieldLink RX6 12 "UnlikeUnion" "list" "LUnlikeUnion$Jobs;", Cond.fieldLink RX6 19 "UnlikeUnion" "own" "LUnlikeUnion$OwnPlan;", Cond.fieldLink RX6 40 "UnlikeUnion" "rounding" "LUnlikeUnion$Rounding;", Cond.methodLink RX6 104 yX6_refreshDivision, Cond.instanceMethod yX6_refreshDivision, Cond.selects RX6 yX6_refreshDivision yX6_refreshDivision, Cond.initialized RX6, Cond.code yX6_refreshDivision cX6_refreshDivision 1 none, Cond.fieldLink RX6 152 "UnlikeUnion" "divisionStands" "Z", Cond.fieldLink RX6 33 "UnlikeUnion" "division" "LUnlikeUnion$Division;", Cond.methodLink RX6 159 yX0_make, Cond.instanceMethod yX0_make, Cond.selects RX0 yX0_make yX0_make, Cond.initialized RX0, Cond.code yX0_make cX0_make 4 none, Cond.fieldLink RX0 33 "UnlikeUnion$Division" "bound" "I", Cond.methodLink RX0 25 yX0_findLeast, Cond.instanceMethod yX0_findLeast, Cond.selects RX0 yX0_findLeast yX0_findLeast, Cond.code yX0_findLeast cX0_findLeast 6 none, Cond.fieldLink RX0 12 "UnlikeUnion$Division" "tableau" "LUnlikeUnion$Tableau;", Cond.fieldLink RX0 60 "UnlikeUnion$Division" "leastNumerator" "I", Cond.fieldLink RX0 63 "UnlikeUnion$Division" "leastDenominator" "I", Cond.methodLink RX0 40 yX5_start]
def wsX6_takeRounded_r2 : List Cond := [Cond.instanceMethod yX5_start, Cond.selects RX5 yX5_start yX5_start, Cond.initialized RX5, Cond.code yX5_start cX5_start 6 (some .boolean), Cond.fieldLink RX5 13 "UnlikeUnion$Tableau" "cells" "[[J", Cond.constantLong RX5 34 (-1), Cond.fieldLink RX5 16 "UnlikeUnion$Tableau" "basic" "[I", Cond.fieldLink RX5 20 "UnlikeUnion$Tableau" "allowed" "[Z", Cond.methodLink RX5 30 yX5_clear, Cond.instanceMethod yX5_clear, Cond.selects RX5 yX5_clear yX5_clear, Cond.code yX5_clear cX5_clear 4 none, Cond.methodLink RX5 43 Lib.Math.min.name, Cond.static Lib.Math.min.name, Cond.initialized "java/lang/Math", Cond.code Lib.Math.min.name Lib.Math.min.code 2 (some .int), Cond.fieldLink RX5 49 "UnlikeUnion$Tableau" "rows" "I", Cond.fieldLink RX5 52 "UnlikeUnion$Tableau" "scale" "J", Cond.methodLink RX5 36 yX5_layJob, Cond.instanceMethod yX5_layJob, Cond.selects RX5 yX5_layJob yX5_layJob, Cond.code yX5_layJob cX5_layJob 8 (some .boolean), Cond.methodLink RX5 56 yX1_timeOn, Cond.instanceMethod yX1_timeOn]
def wsX6_takeRounded_r3 : List Cond := [Cond.selects RX1 yX1_timeOn yX1_timeOn, Cond.initialized RX1, Cond.code yX1_timeOn cX1_timeOn 3 (some .int), Cond.fieldLink RX1 15 "UnlikeUnion$Jobs" "count" "I", Cond.fieldLink RX1 9 "UnlikeUnion$Jobs" "times" "[I", Cond.methodLink RX5 59 yX5_clearBasic, Cond.instanceMethod yX5_clearBasic, Cond.selects RX5 yX5_clearBasic yX5_clearBasic, Cond.code yX5_clearBasic cX5_clearBasic 7 (some .boolean), Cond.methodLink RX5 40 yX5_admitExcess, Cond.instanceMethod yX5_admitExcess, Cond.selects RX5 yX5_admitExcess yX5_admitExcess, Cond.code yX5_admitExcess cX5_admitExcess 4 none, Cond.methodLink RX0 44 yX5_lowerExcess, Cond.instanceMethod yX5_lowerExcess, Cond.selects RX5 yX5_lowerExcess yX5_lowerExcess, Cond.code yX5_lowerExcess cX5_lowerExcess 4 (some .boolean), Cond.constant RX5 63 (1000000), Cond.methodLink RX5 64 yX5_rowOf, Cond.instanceMethod yX5_rowOf, Cond.selects RX5 yX5_rowOf yX5_rowOf, Cond.code yX5_rowOf cX5_rowOf 3 (some .int), Cond.methodLink RX5 68 yX5_columnWithSign, Cond.instanceMethod yX5_columnWithSign]
def wsX6_takeRounded_r4 : List Cond := [Cond.selects RX5 yX5_columnWithSign yX5_columnWithSign, Cond.code yX5_columnWithSign cX5_columnWithSign 4 (some .int), Cond.methodLink RX5 71 yX5_enter, Cond.instanceMethod yX5_enter, Cond.selects RX5 yX5_enter yX5_enter, Cond.code yX5_enter cX5_enter 9 (some .boolean), Cond.methodLink RX5 77 yX5_leavingRow, Cond.instanceMethod yX5_leavingRow, Cond.selects RX5 yX5_leavingRow yX5_leavingRow, Cond.code yX5_leavingRow cX5_leavingRow 8 (some .int), Cond.methodLink RX0 48 yX5_scaledValue, Cond.instanceMethod yX5_scaledValue, Cond.selects RX5 yX5_scaledValue yX5_scaledValue, Cond.code yX5_scaledValue cX5_scaledValue 3 (some .long), Cond.methodLink RX0 56 yX0_commonDivisor, Cond.static yX0_commonDivisor, Cond.code yX0_commonDivisor cX0_commonDivisor 11 (some .long), Cond.methodLink RX0 29 yX0_canKeep, Cond.instanceMethod yX0_canKeep, Cond.selects RX0 yX0_canKeep yX0_canKeep, Cond.code yX0_canKeep cX0_canKeep 3 (some .boolean), Cond.methodLink RX0 37 yX0_findShares, Cond.instanceMethod yX0_findShares, Cond.selects RX0 yX0_findShares yX0_findShares]
def wsX6_takeRounded_r5 : List Cond := [Cond.code yX0_findShares cX0_findShares 8 none, Cond.methodLink RX0 71 Lib.Math.min.name, Cond.fieldLink RX0 18 "UnlikeUnion$Division" "numerators" "[I", Cond.fieldLink RX0 22 "UnlikeUnion$Division" "denominators" "[I", Cond.methodLink RX0 77 yX5_raise, Cond.instanceMethod yX5_raise, Cond.selects RX5 yX5_raise yX5_raise, Cond.code yX5_raise cX5_raise 5 none, Cond.methodLink RX5 74 yX5_hold, Cond.instanceMethod yX5_hold, Cond.selects RX5 yX5_hold yX5_hold, Cond.code yX5_hold cX5_hold 3 none, Cond.methodLink RX6 162 yX4_make, Cond.instanceMethod yX4_make, Cond.selects RX4 yX4_make yX4_make, Cond.initialized RX4, Cond.code yX4_make cX4_make 3 none, Cond.methodLink RX4 15 yX4_matchFrom, Cond.static yX4_matchFrom, Cond.code yX4_matchFrom cX4_matchFrom 8 (some .boolean), Cond.fieldLink RX4 9 "UnlikeUnion$Rounding" "machineOf" "[I", Cond.methodLink RX4 25 yX0_wholeMachine, Cond.instanceMethod yX0_wholeMachine, Cond.selects RX0 yX0_wholeMachine yX0_wholeMachine]
def wsX6_takeRounded_r6 : List Cond := [Cond.code yX0_wholeMachine cX0_wholeMachine 3 (some .int), Cond.methodLink RX0 81 yX0_hasShare, Cond.instanceMethod yX0_hasShare, Cond.selects RX0 yX0_hasShare yX0_hasShare, Cond.code yX0_hasShare cX0_hasShare 3 (some .boolean), Cond.methodLink RX4 31 yX0_hasShare]
def wsX6_takeRounded : List Cond := .code yX6_takeRounded cX6_takeRounded 3 (some .int) :: ((wsX6_takeRounded_r1 ++ (wsX6_takeRounded_r2 ++ (wsX6_takeRounded_r3 ++ (wsX6_takeRounded_r4 ++ (wsX6_takeRounded_r5 ++ wsX6_takeRounded_r6))))) ++ wsX60 ++ wsX10 ++ wsX20 ++ wsX40 ++ wsX00 ++ wsX50)
def wsJ9_max_7cf53 : List Cond := .code yJ9_max_7cf53 cJ9_max_7cf53 2 (some .int) :: ([])
def wsJ9_min_7cf53 : List Cond := .code yJ9_min_7cf53 cJ9_min_7cf53 2 (some .int) :: ([])
def wsL_cell : List Cond := .code yL_cell cL_cell 2 (some .int) :: ([.constant RL 7 (36299), .constant RL 8 (2147483647)])
def wsL_addJob : List Cond := .codeWith yL_addJob cL_addJob 5 (some .int) [(0, 7, 8, 15), (0, 7, 13, 17)] :: ([.classLink RL 15 "java/lang/IllegalArgumentException", .classLink RL 17 "java/lang/IllegalStateException", .methodLink RL 9 yX6_addJob, .instanceMethod yX6_addJob, .selects RX6 yX6_addJob yX6_addJob, .initialized RX6, .code yX6_addJob cX6_addJob 5 (some .int), .classLink RX6 48 "java/lang/IllegalArgumentException", .initialized "java/lang/IllegalArgumentException", .classLink RX6 61 "java/lang/IllegalStateException", .initialized "java/lang/IllegalStateException", .fieldLink RX6 12 "UnlikeUnion" "list" "LUnlikeUnion$Jobs;", .fieldLink RX6 19 "UnlikeUnion" "own" "LUnlikeUnion$OwnPlan;", .methodLink RX6 44 yX6_isTime, .static yX6_isTime, .code yX6_isTime cX6_isTime 1 (some .boolean), .methodLink RX6 73 yX6_forgetResults, .instanceMethod yX6_forgetResults, .selects RX6 yX6_forgetResults yX6_forgetResults, .code yX6_forgetResults cX6_forgetResults 1 none, .fieldLink RX6 148 "UnlikeUnion" "searchStands" "Z", .fieldLink RX6 152 "UnlikeUnion" "divisionStands" "Z"] ++ wsX60 ++ wsX10 ++ wsX20 ++ (vx_atS RX6 52 "java/lang/IllegalArgumentException" ["java/lang/RuntimeException", "java/lang/Exception"]).filter goodWord ++ (vx_atS RX6 65 "java/lang/IllegalStateException" ["java/lang/RuntimeException", "java/lang/Exception"]).filter goodWord)
def wsL_setTime_r1 : List Cond := [Cond.classLink RL 22 "java/lang/IndexOutOfBoundsException", Cond.classLink RL 15 "java/lang/IllegalArgumentException", Cond.classLink RL 17 "java/lang/IllegalStateException", Cond.methodLink RL 19 yX6_setTime, Cond.instanceMethod yX6_setTime, Cond.selects RX6 yX6_setTime yX6_setTime, Cond.initialized RX6, Cond.code yX6_setTime cX6_setTime 5 (some .int), Cond.classLink RX6 48 "java/lang/IllegalArgumentException", Cond.initialized "java/lang/IllegalArgumentException", Cond.classLink RX6 61 "java/lang/IllegalStateException", Cond.initialized "java/lang/IllegalStateException", Cond.fieldLink RX6 19 "UnlikeUnion" "own" "LUnlikeUnion$OwnPlan;", Cond.fieldLink RX6 12 "UnlikeUnion" "list" "LUnlikeUnion$Jobs;", Cond.methodLink RX6 76 yX6_requireJob, Cond.instanceMethod yX6_requireJob, Cond.selects RX6 yX6_requireJob yX6_requireJob, Cond.code yX6_requireJob cX6_requireJob 2 none, Cond.classLink RX6 141 "java/lang/IndexOutOfBoundsException", Cond.initialized "java/lang/IndexOutOfBoundsException", Cond.methodLink RX6 80 yX6_requireMachine, Cond.static yX6_requireMachine, Cond.code yX6_requireMachine cX6_requireMachine 1 none, Cond.methodLink RX6 44 yX6_isTime]
def wsL_setTime_r2 : List Cond := [Cond.static yX6_isTime, Cond.code yX6_isTime cX6_isTime 1 (some .boolean), Cond.methodLink RX6 87 yX1_timeOn, Cond.instanceMethod yX1_timeOn, Cond.selects RX1 yX1_timeOn yX1_timeOn, Cond.initialized RX1, Cond.code yX1_timeOn cX1_timeOn 3 (some .int), Cond.fieldLink RX1 15 "UnlikeUnion$Jobs" "count" "I", Cond.fieldLink RX1 9 "UnlikeUnion$Jobs" "times" "[I", Cond.methodLink RX6 73 yX6_forgetResults, Cond.instanceMethod yX6_forgetResults, Cond.selects RX6 yX6_forgetResults yX6_forgetResults, Cond.code yX6_forgetResults cX6_forgetResults 1 none, Cond.fieldLink RX6 148 "UnlikeUnion" "searchStands" "Z", Cond.fieldLink RX6 152 "UnlikeUnion" "divisionStands" "Z"]
def wsL_setTime : List Cond := .codeWith yL_setTime cL_setTime 5 (some .int) [(0, 7, 8, 22), (0, 7, 13, 15), (0, 7, 18, 17)] :: ((wsL_setTime_r1 ++ wsL_setTime_r2) ++ wsX60 ++ wsX20 ++ wsX10 ++ (vx_atS RX6 52 "java/lang/IllegalArgumentException" ["java/lang/RuntimeException", "java/lang/Exception"]).filter goodWord ++ (vx_atS RX6 65 "java/lang/IllegalStateException" ["java/lang/RuntimeException", "java/lang/Exception"]).filter goodWord ++ (vx_atS RX6 145 "java/lang/IndexOutOfBoundsException" ["java/lang/RuntimeException", "java/lang/Exception"]).filter goodWord)
def wsL_time : List Cond := .codeWith yL_time cL_time 4 (some .int) [(0, 6, 7, 22)] :: ([.classLink RL 22 "java/lang/IndexOutOfBoundsException", .methodLink RL 24 yX6_time, .instanceMethod yX6_time, .selects RX6 yX6_time yX6_time, .initialized RX6, .code yX6_time cX6_time 3 (some .int), .fieldLink RX6 12 "UnlikeUnion" "list" "LUnlikeUnion$Jobs;", .methodLink RX6 76 yX6_requireJob, .instanceMethod yX6_requireJob, .selects RX6 yX6_requireJob yX6_requireJob, .code yX6_requireJob cX6_requireJob 2 none, .classLink RX6 141 "java/lang/IndexOutOfBoundsException", .initialized "java/lang/IndexOutOfBoundsException", .methodLink RX6 80 yX6_requireMachine, .static yX6_requireMachine, .code yX6_requireMachine cX6_requireMachine 1 none, .methodLink RX6 87 yX1_timeOn, .instanceMethod yX1_timeOn, .selects RX1 yX1_timeOn yX1_timeOn, .initialized RX1, .code yX1_timeOn cX1_timeOn 3 (some .int), .fieldLink RX1 15 "UnlikeUnion$Jobs" "count" "I", .fieldLink RX1 9 "UnlikeUnion$Jobs" "times" "[I"] ++ wsX60 ++ wsX10 ++ (vx_atS RX6 145 "java/lang/IndexOutOfBoundsException" ["java/lang/RuntimeException", "java/lang/Exception"]).filter goodWord)
def wsL_shortestOn_r1 : List Cond := [Cond.classLink RL 22 "java/lang/IndexOutOfBoundsException", Cond.methodLink RL 28 yX6_shortestMachine, Cond.instanceMethod yX6_shortestMachine, Cond.selects RX6 yX6_shortestMachine yX6_shortestMachine, Cond.initialized RX6, Cond.code yX6_shortestMachine cX6_shortestMachine 2 (some .int), Cond.fieldLink RX6 26 "UnlikeUnion" "search" "LUnlikeUnion$PlanSearch;", Cond.methodLink RX6 76 yX6_requireJob, Cond.instanceMethod yX6_requireJob, Cond.selects RX6 yX6_requireJob yX6_requireJob, Cond.code yX6_requireJob cX6_requireJob 2 none, Cond.classLink RX6 141 "java/lang/IndexOutOfBoundsException", Cond.initialized "java/lang/IndexOutOfBoundsException", Cond.fieldLink RX6 12 "UnlikeUnion" "list" "LUnlikeUnion$Jobs;", Cond.methodLink RX6 91 yX6_refreshSearch, Cond.instanceMethod yX6_refreshSearch, Cond.selects RX6 yX6_refreshSearch yX6_refreshSearch, Cond.code yX6_refreshSearch cX6_refreshSearch 1 none, Cond.fieldLink RX6 148 "UnlikeUnion" "searchStands" "Z", Cond.methodLink RX6 155 yX3_find, Cond.instanceMethod yX3_find, Cond.selects RX3 yX3_find yX3_find, Cond.initialized RX3, Cond.code yX3_find cX3_find 2 none]
def wsL_shortestOn_r2 : List Cond := [Cond.fieldLink RX3 24 "UnlikeUnion$PlanSearch" "bestLength" "I", Cond.methodLink RX3 21 yX3_clearLoads, Cond.instanceMethod yX3_clearLoads, Cond.selects RX3 yX3_clearLoads yX3_clearLoads, Cond.code yX3_clearLoads cX3_clearLoads 2 none, Cond.fieldLink RX3 9 "UnlikeUnion$PlanSearch" "loads" "[I", Cond.methodLink RX3 28 yX3_searchFrom, Cond.static yX3_searchFrom, Cond.code yX3_searchFrom cX3_searchFrom 6 none, Cond.fieldLink RX3 15 "UnlikeUnion$PlanSearch" "chosen" "[I", Cond.methodLink RX3 36 yX3_greatest, Cond.instanceMethod yX3_greatest, Cond.selects RX3 yX3_greatest yX3_greatest, Cond.code yX3_greatest cX3_greatest 1 (some .int), Cond.methodLink RX3 58 Lib.Math.max.name, Cond.static Lib.Math.max.name, Cond.initialized "java/lang/Math", Cond.code Lib.Math.max.name Lib.Math.max.code 2 (some .int), Cond.methodLink RX3 45 yX3_keep, Cond.instanceMethod yX3_keep, Cond.selects RX3 yX3_keep yX3_keep, Cond.code yX3_keep cX3_keep 3 none, Cond.fieldLink RX3 18 "UnlikeUnion$PlanSearch" "best" "[I", Cond.methodLink RX3 49 yX1_timeOn]
def wsL_shortestOn_r3 : List Cond := [Cond.instanceMethod yX1_timeOn, Cond.selects RX1 yX1_timeOn yX1_timeOn, Cond.initialized RX1, Cond.code yX1_timeOn cX1_timeOn 3 (some .int), Cond.fieldLink RX1 15 "UnlikeUnion$Jobs" "count" "I", Cond.fieldLink RX1 9 "UnlikeUnion$Jobs" "times" "[I"]
def wsL_shortestOn : List Cond := .codeWith yL_shortestOn cL_shortestOn 3 (some .int) [(0, 5, 6, 22)] :: ((wsL_shortestOn_r1 ++ (wsL_shortestOn_r2 ++ wsL_shortestOn_r3)) ++ wsX60 ++ wsX30 ++ wsX10 ++ (vx_atS RX6 145 "java/lang/IndexOutOfBoundsException" ["java/lang/RuntimeException", "java/lang/Exception"]).filter goodWord)
def wsL_numerator_r1 : List Cond := [Cond.classLink RL 22 "java/lang/IndexOutOfBoundsException", Cond.methodLink RL 32 yX6_numerator, Cond.instanceMethod yX6_numerator, Cond.selects RX6 yX6_numerator yX6_numerator, Cond.initialized RX6, Cond.code yX6_numerator cX6_numerator 3 (some .int), Cond.fieldLink RX6 33 "UnlikeUnion" "division" "LUnlikeUnion$Division;", Cond.methodLink RX6 76 yX6_requireJob, Cond.instanceMethod yX6_requireJob, Cond.selects RX6 yX6_requireJob yX6_requireJob, Cond.code yX6_requireJob cX6_requireJob 2 none, Cond.classLink RX6 141 "java/lang/IndexOutOfBoundsException", Cond.initialized "java/lang/IndexOutOfBoundsException", Cond.fieldLink RX6 12 "UnlikeUnion" "list" "LUnlikeUnion$Jobs;", Cond.methodLink RX6 80 yX6_requireMachine, Cond.static yX6_requireMachine, Cond.code yX6_requireMachine cX6_requireMachine 1 none, Cond.methodLink RX6 104 yX6_refreshDivision, Cond.instanceMethod yX6_refreshDivision, Cond.selects RX6 yX6_refreshDivision yX6_refreshDivision, Cond.code yX6_refreshDivision cX6_refreshDivision 1 none, Cond.fieldLink RX6 152 "UnlikeUnion" "divisionStands" "Z", Cond.fieldLink RX6 40 "UnlikeUnion" "rounding" "LUnlikeUnion$Rounding;", Cond.methodLink RX6 159 yX0_make]
def wsL_numerator_r2 : List Cond := [Cond.instanceMethod yX0_make, Cond.selects RX0 yX0_make yX0_make, Cond.initialized RX0, Cond.code yX0_make cX0_make 4 none, Cond.fieldLink RX0 33 "UnlikeUnion$Division" "bound" "I", Cond.methodLink RX0 25 yX0_findLeast, Cond.instanceMethod yX0_findLeast, Cond.selects RX0 yX0_findLeast yX0_findLeast, Cond.code yX0_findLeast cX0_findLeast 6 none, Cond.fieldLink RX0 12 "UnlikeUnion$Division" "tableau" "LUnlikeUnion$Tableau;", Cond.fieldLink RX0 60 "UnlikeUnion$Division" "leastNumerator" "I", Cond.fieldLink RX0 63 "UnlikeUnion$Division" "leastDenominator" "I", Cond.methodLink RX0 40 yX5_start, Cond.instanceMethod yX5_start, Cond.selects RX5 yX5_start yX5_start, Cond.initialized RX5, Cond.code yX5_start cX5_start 6 (some .boolean), Cond.fieldLink RX5 13 "UnlikeUnion$Tableau" "cells" "[[J", Cond.constantLong RX5 34 (-1), Cond.fieldLink RX5 16 "UnlikeUnion$Tableau" "basic" "[I", Cond.fieldLink RX5 20 "UnlikeUnion$Tableau" "allowed" "[Z", Cond.methodLink RX5 30 yX5_clear, Cond.instanceMethod yX5_clear, Cond.selects RX5 yX5_clear yX5_clear]
def wsL_numerator_r3 : List Cond := [Cond.code yX5_clear cX5_clear 4 none, Cond.methodLink RX5 43 Lib.Math.min.name, Cond.static Lib.Math.min.name, Cond.initialized "java/lang/Math", Cond.code Lib.Math.min.name Lib.Math.min.code 2 (some .int), Cond.fieldLink RX5 49 "UnlikeUnion$Tableau" "rows" "I", Cond.fieldLink RX5 52 "UnlikeUnion$Tableau" "scale" "J", Cond.methodLink RX5 36 yX5_layJob, Cond.instanceMethod yX5_layJob, Cond.selects RX5 yX5_layJob yX5_layJob, Cond.code yX5_layJob cX5_layJob 8 (some .boolean), Cond.methodLink RX5 56 yX1_timeOn, Cond.instanceMethod yX1_timeOn, Cond.selects RX1 yX1_timeOn yX1_timeOn, Cond.initialized RX1, Cond.code yX1_timeOn cX1_timeOn 3 (some .int), Cond.fieldLink RX1 15 "UnlikeUnion$Jobs" "count" "I", Cond.fieldLink RX1 9 "UnlikeUnion$Jobs" "times" "[I", Cond.methodLink RX5 59 yX5_clearBasic, Cond.instanceMethod yX5_clearBasic, Cond.selects RX5 yX5_clearBasic yX5_clearBasic, Cond.code yX5_clearBasic cX5_clearBasic 7 (some .boolean), Cond.methodLink RX5 40 yX5_admitExcess, Cond.instanceMethod yX5_admitExcess]
def wsL_numerator_r4 : List Cond := [Cond.selects RX5 yX5_admitExcess yX5_admitExcess, Cond.code yX5_admitExcess cX5_admitExcess 4 none, Cond.methodLink RX0 44 yX5_lowerExcess, Cond.instanceMethod yX5_lowerExcess, Cond.selects RX5 yX5_lowerExcess yX5_lowerExcess, Cond.code yX5_lowerExcess cX5_lowerExcess 4 (some .boolean), Cond.constant RX5 63 (1000000), Cond.methodLink RX5 64 yX5_rowOf, Cond.instanceMethod yX5_rowOf, Cond.selects RX5 yX5_rowOf yX5_rowOf, Cond.code yX5_rowOf cX5_rowOf 3 (some .int), Cond.methodLink RX5 68 yX5_columnWithSign, Cond.instanceMethod yX5_columnWithSign, Cond.selects RX5 yX5_columnWithSign yX5_columnWithSign, Cond.code yX5_columnWithSign cX5_columnWithSign 4 (some .int), Cond.methodLink RX5 71 yX5_enter, Cond.instanceMethod yX5_enter, Cond.selects RX5 yX5_enter yX5_enter, Cond.code yX5_enter cX5_enter 9 (some .boolean), Cond.methodLink RX5 77 yX5_leavingRow, Cond.instanceMethod yX5_leavingRow, Cond.selects RX5 yX5_leavingRow yX5_leavingRow, Cond.code yX5_leavingRow cX5_leavingRow 8 (some .int), Cond.methodLink RX0 48 yX5_scaledValue]
def wsL_numerator_r5 : List Cond := [Cond.instanceMethod yX5_scaledValue, Cond.selects RX5 yX5_scaledValue yX5_scaledValue, Cond.code yX5_scaledValue cX5_scaledValue 3 (some .long), Cond.methodLink RX0 56 yX0_commonDivisor, Cond.static yX0_commonDivisor, Cond.code yX0_commonDivisor cX0_commonDivisor 11 (some .long), Cond.methodLink RX0 29 yX0_canKeep, Cond.instanceMethod yX0_canKeep, Cond.selects RX0 yX0_canKeep yX0_canKeep, Cond.code yX0_canKeep cX0_canKeep 3 (some .boolean), Cond.methodLink RX0 37 yX0_findShares, Cond.instanceMethod yX0_findShares, Cond.selects RX0 yX0_findShares yX0_findShares, Cond.code yX0_findShares cX0_findShares 8 none, Cond.methodLink RX0 71 Lib.Math.min.name, Cond.fieldLink RX0 18 "UnlikeUnion$Division" "numerators" "[I", Cond.fieldLink RX0 22 "UnlikeUnion$Division" "denominators" "[I", Cond.methodLink RX0 77 yX5_raise, Cond.instanceMethod yX5_raise, Cond.selects RX5 yX5_raise yX5_raise, Cond.code yX5_raise cX5_raise 5 none, Cond.methodLink RX5 74 yX5_hold, Cond.instanceMethod yX5_hold, Cond.selects RX5 yX5_hold yX5_hold]
def wsL_numerator_r6 : List Cond := [Cond.code yX5_hold cX5_hold 3 none, Cond.methodLink RX6 162 yX4_make, Cond.instanceMethod yX4_make, Cond.selects RX4 yX4_make yX4_make, Cond.initialized RX4, Cond.code yX4_make cX4_make 3 none, Cond.methodLink RX4 15 yX4_matchFrom, Cond.static yX4_matchFrom, Cond.code yX4_matchFrom cX4_matchFrom 8 (some .boolean), Cond.fieldLink RX4 9 "UnlikeUnion$Rounding" "machineOf" "[I", Cond.methodLink RX4 25 yX0_wholeMachine, Cond.instanceMethod yX0_wholeMachine, Cond.selects RX0 yX0_wholeMachine yX0_wholeMachine, Cond.code yX0_wholeMachine cX0_wholeMachine 3 (some .int), Cond.methodLink RX0 81 yX0_hasShare, Cond.instanceMethod yX0_hasShare, Cond.selects RX0 yX0_hasShare yX0_hasShare, Cond.code yX0_hasShare cX0_hasShare 3 (some .boolean), Cond.methodLink RX4 31 yX0_hasShare]
def wsL_numerator : List Cond := .codeWith yL_numerator cL_numerator 4 (some .int) [(0, 6, 7, 22)] :: ((wsL_numerator_r1 ++ (wsL_numerator_r2 ++ (wsL_numerator_r3 ++ (wsL_numerator_r4 ++ (wsL_numerator_r5 ++ wsL_numerator_r6))))) ++ wsX60 ++ wsX00 ++ wsX10 ++ wsX50 ++ wsX40 ++ (vx_atS RX6 145 "java/lang/IndexOutOfBoundsException" ["java/lang/RuntimeException", "java/lang/Exception"]).filter goodWord)
def wsL_denominator_r1 : List Cond := [Cond.classLink RL 22 "java/lang/IndexOutOfBoundsException", Cond.methodLink RL 35 yX6_denominator, Cond.instanceMethod yX6_denominator, Cond.selects RX6 yX6_denominator yX6_denominator, Cond.initialized RX6, Cond.code yX6_denominator cX6_denominator 3 (some .int), Cond.fieldLink RX6 33 "UnlikeUnion" "division" "LUnlikeUnion$Division;", Cond.methodLink RX6 76 yX6_requireJob, Cond.instanceMethod yX6_requireJob, Cond.selects RX6 yX6_requireJob yX6_requireJob, Cond.code yX6_requireJob cX6_requireJob 2 none, Cond.classLink RX6 141 "java/lang/IndexOutOfBoundsException", Cond.initialized "java/lang/IndexOutOfBoundsException", Cond.fieldLink RX6 12 "UnlikeUnion" "list" "LUnlikeUnion$Jobs;", Cond.methodLink RX6 80 yX6_requireMachine, Cond.static yX6_requireMachine, Cond.code yX6_requireMachine cX6_requireMachine 1 none, Cond.methodLink RX6 104 yX6_refreshDivision, Cond.instanceMethod yX6_refreshDivision, Cond.selects RX6 yX6_refreshDivision yX6_refreshDivision, Cond.code yX6_refreshDivision cX6_refreshDivision 1 none, Cond.fieldLink RX6 152 "UnlikeUnion" "divisionStands" "Z", Cond.fieldLink RX6 40 "UnlikeUnion" "rounding" "LUnlikeUnion$Rounding;", Cond.methodLink RX6 159 yX0_make]
def wsL_denominator_r2 : List Cond := [Cond.instanceMethod yX0_make, Cond.selects RX0 yX0_make yX0_make, Cond.initialized RX0, Cond.code yX0_make cX0_make 4 none, Cond.fieldLink RX0 33 "UnlikeUnion$Division" "bound" "I", Cond.methodLink RX0 25 yX0_findLeast, Cond.instanceMethod yX0_findLeast, Cond.selects RX0 yX0_findLeast yX0_findLeast, Cond.code yX0_findLeast cX0_findLeast 6 none, Cond.fieldLink RX0 12 "UnlikeUnion$Division" "tableau" "LUnlikeUnion$Tableau;", Cond.fieldLink RX0 60 "UnlikeUnion$Division" "leastNumerator" "I", Cond.fieldLink RX0 63 "UnlikeUnion$Division" "leastDenominator" "I", Cond.methodLink RX0 40 yX5_start, Cond.instanceMethod yX5_start, Cond.selects RX5 yX5_start yX5_start, Cond.initialized RX5, Cond.code yX5_start cX5_start 6 (some .boolean), Cond.fieldLink RX5 13 "UnlikeUnion$Tableau" "cells" "[[J", Cond.constantLong RX5 34 (-1), Cond.fieldLink RX5 16 "UnlikeUnion$Tableau" "basic" "[I", Cond.fieldLink RX5 20 "UnlikeUnion$Tableau" "allowed" "[Z", Cond.methodLink RX5 30 yX5_clear, Cond.instanceMethod yX5_clear, Cond.selects RX5 yX5_clear yX5_clear]
def wsL_denominator_r3 : List Cond := [Cond.code yX5_clear cX5_clear 4 none, Cond.methodLink RX5 43 Lib.Math.min.name, Cond.static Lib.Math.min.name, Cond.initialized "java/lang/Math", Cond.code Lib.Math.min.name Lib.Math.min.code 2 (some .int), Cond.fieldLink RX5 49 "UnlikeUnion$Tableau" "rows" "I", Cond.fieldLink RX5 52 "UnlikeUnion$Tableau" "scale" "J", Cond.methodLink RX5 36 yX5_layJob, Cond.instanceMethod yX5_layJob, Cond.selects RX5 yX5_layJob yX5_layJob, Cond.code yX5_layJob cX5_layJob 8 (some .boolean), Cond.methodLink RX5 56 yX1_timeOn, Cond.instanceMethod yX1_timeOn, Cond.selects RX1 yX1_timeOn yX1_timeOn, Cond.initialized RX1, Cond.code yX1_timeOn cX1_timeOn 3 (some .int), Cond.fieldLink RX1 15 "UnlikeUnion$Jobs" "count" "I", Cond.fieldLink RX1 9 "UnlikeUnion$Jobs" "times" "[I", Cond.methodLink RX5 59 yX5_clearBasic, Cond.instanceMethod yX5_clearBasic, Cond.selects RX5 yX5_clearBasic yX5_clearBasic, Cond.code yX5_clearBasic cX5_clearBasic 7 (some .boolean), Cond.methodLink RX5 40 yX5_admitExcess, Cond.instanceMethod yX5_admitExcess]
def wsL_denominator_r4 : List Cond := [Cond.selects RX5 yX5_admitExcess yX5_admitExcess, Cond.code yX5_admitExcess cX5_admitExcess 4 none, Cond.methodLink RX0 44 yX5_lowerExcess, Cond.instanceMethod yX5_lowerExcess, Cond.selects RX5 yX5_lowerExcess yX5_lowerExcess, Cond.code yX5_lowerExcess cX5_lowerExcess 4 (some .boolean), Cond.constant RX5 63 (1000000), Cond.methodLink RX5 64 yX5_rowOf, Cond.instanceMethod yX5_rowOf, Cond.selects RX5 yX5_rowOf yX5_rowOf, Cond.code yX5_rowOf cX5_rowOf 3 (some .int), Cond.methodLink RX5 68 yX5_columnWithSign, Cond.instanceMethod yX5_columnWithSign, Cond.selects RX5 yX5_columnWithSign yX5_columnWithSign, Cond.code yX5_columnWithSign cX5_columnWithSign 4 (some .int), Cond.methodLink RX5 71 yX5_enter, Cond.instanceMethod yX5_enter, Cond.selects RX5 yX5_enter yX5_enter, Cond.code yX5_enter cX5_enter 9 (some .boolean), Cond.methodLink RX5 77 yX5_leavingRow, Cond.instanceMethod yX5_leavingRow, Cond.selects RX5 yX5_leavingRow yX5_leavingRow, Cond.code yX5_leavingRow cX5_leavingRow 8 (some .int), Cond.methodLink RX0 48 yX5_scaledValue]
def wsL_denominator_r5 : List Cond := [Cond.instanceMethod yX5_scaledValue, Cond.selects RX5 yX5_scaledValue yX5_scaledValue, Cond.code yX5_scaledValue cX5_scaledValue 3 (some .long), Cond.methodLink RX0 56 yX0_commonDivisor, Cond.static yX0_commonDivisor, Cond.code yX0_commonDivisor cX0_commonDivisor 11 (some .long), Cond.methodLink RX0 29 yX0_canKeep, Cond.instanceMethod yX0_canKeep, Cond.selects RX0 yX0_canKeep yX0_canKeep, Cond.code yX0_canKeep cX0_canKeep 3 (some .boolean), Cond.methodLink RX0 37 yX0_findShares, Cond.instanceMethod yX0_findShares, Cond.selects RX0 yX0_findShares yX0_findShares, Cond.code yX0_findShares cX0_findShares 8 none, Cond.methodLink RX0 71 Lib.Math.min.name, Cond.fieldLink RX0 18 "UnlikeUnion$Division" "numerators" "[I", Cond.fieldLink RX0 22 "UnlikeUnion$Division" "denominators" "[I", Cond.methodLink RX0 77 yX5_raise, Cond.instanceMethod yX5_raise, Cond.selects RX5 yX5_raise yX5_raise, Cond.code yX5_raise cX5_raise 5 none, Cond.methodLink RX5 74 yX5_hold, Cond.instanceMethod yX5_hold, Cond.selects RX5 yX5_hold yX5_hold]
def wsL_denominator_r6 : List Cond := [Cond.code yX5_hold cX5_hold 3 none, Cond.methodLink RX6 162 yX4_make, Cond.instanceMethod yX4_make, Cond.selects RX4 yX4_make yX4_make, Cond.initialized RX4, Cond.code yX4_make cX4_make 3 none, Cond.methodLink RX4 15 yX4_matchFrom, Cond.static yX4_matchFrom, Cond.code yX4_matchFrom cX4_matchFrom 8 (some .boolean), Cond.fieldLink RX4 9 "UnlikeUnion$Rounding" "machineOf" "[I", Cond.methodLink RX4 25 yX0_wholeMachine, Cond.instanceMethod yX0_wholeMachine, Cond.selects RX0 yX0_wholeMachine yX0_wholeMachine, Cond.code yX0_wholeMachine cX0_wholeMachine 3 (some .int), Cond.methodLink RX0 81 yX0_hasShare, Cond.instanceMethod yX0_hasShare, Cond.selects RX0 yX0_hasShare yX0_hasShare, Cond.code yX0_hasShare cX0_hasShare 3 (some .boolean), Cond.methodLink RX4 31 yX0_hasShare]
def wsL_denominator : List Cond := .codeWith yL_denominator cL_denominator 4 (some .int) [(0, 6, 7, 22)] :: ((wsL_denominator_r1 ++ (wsL_denominator_r2 ++ (wsL_denominator_r3 ++ (wsL_denominator_r4 ++ (wsL_denominator_r5 ++ wsL_denominator_r6))))) ++ wsX60 ++ wsX00 ++ wsX10 ++ wsX50 ++ wsX40 ++ (vx_atS RX6 145 "java/lang/IndexOutOfBoundsException" ["java/lang/RuntimeException", "java/lang/Exception"]).filter goodWord)
def wsL_divided_r1 : List Cond := [Cond.classLink RL 22 "java/lang/IndexOutOfBoundsException", Cond.methodLink RL 38 yX6_isDivided, Cond.instanceMethod yX6_isDivided, Cond.selects RX6 yX6_isDivided yX6_isDivided, Cond.initialized RX6, Cond.code yX6_isDivided cX6_isDivided 2 (some .boolean), Cond.fieldLink RX6 33 "UnlikeUnion" "division" "LUnlikeUnion$Division;", Cond.methodLink RX6 76 yX6_requireJob, Cond.instanceMethod yX6_requireJob, Cond.selects RX6 yX6_requireJob yX6_requireJob, Cond.code yX6_requireJob cX6_requireJob 2 none, Cond.classLink RX6 141 "java/lang/IndexOutOfBoundsException", Cond.initialized "java/lang/IndexOutOfBoundsException", Cond.fieldLink RX6 12 "UnlikeUnion" "list" "LUnlikeUnion$Jobs;", Cond.methodLink RX6 104 yX6_refreshDivision, Cond.instanceMethod yX6_refreshDivision, Cond.selects RX6 yX6_refreshDivision yX6_refreshDivision, Cond.code yX6_refreshDivision cX6_refreshDivision 1 none, Cond.fieldLink RX6 152 "UnlikeUnion" "divisionStands" "Z", Cond.fieldLink RX6 40 "UnlikeUnion" "rounding" "LUnlikeUnion$Rounding;", Cond.methodLink RX6 159 yX0_make, Cond.instanceMethod yX0_make, Cond.selects RX0 yX0_make yX0_make, Cond.initialized RX0]
def wsL_divided_r2 : List Cond := [Cond.code yX0_make cX0_make 4 none, Cond.fieldLink RX0 33 "UnlikeUnion$Division" "bound" "I", Cond.methodLink RX0 25 yX0_findLeast, Cond.instanceMethod yX0_findLeast, Cond.selects RX0 yX0_findLeast yX0_findLeast, Cond.code yX0_findLeast cX0_findLeast 6 none, Cond.fieldLink RX0 12 "UnlikeUnion$Division" "tableau" "LUnlikeUnion$Tableau;", Cond.fieldLink RX0 60 "UnlikeUnion$Division" "leastNumerator" "I", Cond.fieldLink RX0 63 "UnlikeUnion$Division" "leastDenominator" "I", Cond.methodLink RX0 40 yX5_start, Cond.instanceMethod yX5_start, Cond.selects RX5 yX5_start yX5_start, Cond.initialized RX5, Cond.code yX5_start cX5_start 6 (some .boolean), Cond.fieldLink RX5 13 "UnlikeUnion$Tableau" "cells" "[[J", Cond.constantLong RX5 34 (-1), Cond.fieldLink RX5 16 "UnlikeUnion$Tableau" "basic" "[I", Cond.fieldLink RX5 20 "UnlikeUnion$Tableau" "allowed" "[Z", Cond.methodLink RX5 30 yX5_clear, Cond.instanceMethod yX5_clear, Cond.selects RX5 yX5_clear yX5_clear, Cond.code yX5_clear cX5_clear 4 none, Cond.methodLink RX5 43 Lib.Math.min.name, Cond.static Lib.Math.min.name]
def wsL_divided_r3 : List Cond := [Cond.initialized "java/lang/Math", Cond.code Lib.Math.min.name Lib.Math.min.code 2 (some .int), Cond.fieldLink RX5 49 "UnlikeUnion$Tableau" "rows" "I", Cond.fieldLink RX5 52 "UnlikeUnion$Tableau" "scale" "J", Cond.methodLink RX5 36 yX5_layJob, Cond.instanceMethod yX5_layJob, Cond.selects RX5 yX5_layJob yX5_layJob, Cond.code yX5_layJob cX5_layJob 8 (some .boolean), Cond.methodLink RX5 56 yX1_timeOn, Cond.instanceMethod yX1_timeOn, Cond.selects RX1 yX1_timeOn yX1_timeOn, Cond.initialized RX1, Cond.code yX1_timeOn cX1_timeOn 3 (some .int), Cond.fieldLink RX1 15 "UnlikeUnion$Jobs" "count" "I", Cond.fieldLink RX1 9 "UnlikeUnion$Jobs" "times" "[I", Cond.methodLink RX5 59 yX5_clearBasic, Cond.instanceMethod yX5_clearBasic, Cond.selects RX5 yX5_clearBasic yX5_clearBasic, Cond.code yX5_clearBasic cX5_clearBasic 7 (some .boolean), Cond.methodLink RX5 40 yX5_admitExcess, Cond.instanceMethod yX5_admitExcess, Cond.selects RX5 yX5_admitExcess yX5_admitExcess, Cond.code yX5_admitExcess cX5_admitExcess 4 none, Cond.methodLink RX0 44 yX5_lowerExcess]
def wsL_divided_r4 : List Cond := [Cond.instanceMethod yX5_lowerExcess, Cond.selects RX5 yX5_lowerExcess yX5_lowerExcess, Cond.code yX5_lowerExcess cX5_lowerExcess 4 (some .boolean), Cond.constant RX5 63 (1000000), Cond.methodLink RX5 64 yX5_rowOf, Cond.instanceMethod yX5_rowOf, Cond.selects RX5 yX5_rowOf yX5_rowOf, Cond.code yX5_rowOf cX5_rowOf 3 (some .int), Cond.methodLink RX5 68 yX5_columnWithSign, Cond.instanceMethod yX5_columnWithSign, Cond.selects RX5 yX5_columnWithSign yX5_columnWithSign, Cond.code yX5_columnWithSign cX5_columnWithSign 4 (some .int), Cond.methodLink RX5 71 yX5_enter, Cond.instanceMethod yX5_enter, Cond.selects RX5 yX5_enter yX5_enter, Cond.code yX5_enter cX5_enter 9 (some .boolean), Cond.methodLink RX5 77 yX5_leavingRow, Cond.instanceMethod yX5_leavingRow, Cond.selects RX5 yX5_leavingRow yX5_leavingRow, Cond.code yX5_leavingRow cX5_leavingRow 8 (some .int), Cond.methodLink RX0 48 yX5_scaledValue, Cond.instanceMethod yX5_scaledValue, Cond.selects RX5 yX5_scaledValue yX5_scaledValue, Cond.code yX5_scaledValue cX5_scaledValue 3 (some .long)]
def wsL_divided_r5 : List Cond := [Cond.methodLink RX0 56 yX0_commonDivisor, Cond.static yX0_commonDivisor, Cond.code yX0_commonDivisor cX0_commonDivisor 11 (some .long), Cond.methodLink RX0 29 yX0_canKeep, Cond.instanceMethod yX0_canKeep, Cond.selects RX0 yX0_canKeep yX0_canKeep, Cond.code yX0_canKeep cX0_canKeep 3 (some .boolean), Cond.methodLink RX0 37 yX0_findShares, Cond.instanceMethod yX0_findShares, Cond.selects RX0 yX0_findShares yX0_findShares, Cond.code yX0_findShares cX0_findShares 8 none, Cond.methodLink RX0 71 Lib.Math.min.name, Cond.fieldLink RX0 18 "UnlikeUnion$Division" "numerators" "[I", Cond.fieldLink RX0 22 "UnlikeUnion$Division" "denominators" "[I", Cond.methodLink RX0 77 yX5_raise, Cond.instanceMethod yX5_raise, Cond.selects RX5 yX5_raise yX5_raise, Cond.code yX5_raise cX5_raise 5 none, Cond.methodLink RX5 74 yX5_hold, Cond.instanceMethod yX5_hold, Cond.selects RX5 yX5_hold yX5_hold, Cond.code yX5_hold cX5_hold 3 none, Cond.methodLink RX6 162 yX4_make, Cond.instanceMethod yX4_make]
def wsL_divided_r6 : List Cond := [Cond.selects RX4 yX4_make yX4_make, Cond.initialized RX4, Cond.code yX4_make cX4_make 3 none, Cond.methodLink RX4 15 yX4_matchFrom, Cond.static yX4_matchFrom, Cond.code yX4_matchFrom cX4_matchFrom 8 (some .boolean), Cond.fieldLink RX4 9 "UnlikeUnion$Rounding" "machineOf" "[I", Cond.methodLink RX4 25 yX0_wholeMachine, Cond.instanceMethod yX0_wholeMachine, Cond.selects RX0 yX0_wholeMachine yX0_wholeMachine, Cond.code yX0_wholeMachine cX0_wholeMachine 3 (some .int), Cond.methodLink RX0 81 yX0_hasShare, Cond.instanceMethod yX0_hasShare, Cond.selects RX0 yX0_hasShare yX0_hasShare, Cond.code yX0_hasShare cX0_hasShare 3 (some .boolean), Cond.methodLink RX4 31 yX0_hasShare, Cond.methodLink RX6 116 yX0_wholeMachine]
def wsL_divided : List Cond := .codeWith yL_divided cL_divided 3 (some .int) [(0, 13, 14, 22)] :: ((wsL_divided_r1 ++ (wsL_divided_r2 ++ (wsL_divided_r3 ++ (wsL_divided_r4 ++ (wsL_divided_r5 ++ wsL_divided_r6))))) ++ wsX60 ++ wsX10 ++ wsX00 ++ wsX50 ++ wsX40 ++ (vx_atS RX6 145 "java/lang/IndexOutOfBoundsException" ["java/lang/RuntimeException", "java/lang/Exception"]).filter goodWord)
def wsL_roundedOn_r1 : List Cond := [Cond.classLink RL 22 "java/lang/IndexOutOfBoundsException", Cond.methodLink RL 42 yX6_roundedMachine, Cond.instanceMethod yX6_roundedMachine, Cond.selects RX6 yX6_roundedMachine yX6_roundedMachine, Cond.initialized RX6, Cond.code yX6_roundedMachine cX6_roundedMachine 2 (some .int), Cond.fieldLink RX6 40 "UnlikeUnion" "rounding" "LUnlikeUnion$Rounding;", Cond.methodLink RX6 76 yX6_requireJob, Cond.instanceMethod yX6_requireJob, Cond.selects RX6 yX6_requireJob yX6_requireJob, Cond.code yX6_requireJob cX6_requireJob 2 none, Cond.classLink RX6 141 "java/lang/IndexOutOfBoundsException", Cond.initialized "java/lang/IndexOutOfBoundsException", Cond.fieldLink RX6 12 "UnlikeUnion" "list" "LUnlikeUnion$Jobs;", Cond.methodLink RX6 104 yX6_refreshDivision, Cond.instanceMethod yX6_refreshDivision, Cond.selects RX6 yX6_refreshDivision yX6_refreshDivision, Cond.code yX6_refreshDivision cX6_refreshDivision 1 none, Cond.fieldLink RX6 152 "UnlikeUnion" "divisionStands" "Z", Cond.fieldLink RX6 33 "UnlikeUnion" "division" "LUnlikeUnion$Division;", Cond.methodLink RX6 159 yX0_make, Cond.instanceMethod yX0_make, Cond.selects RX0 yX0_make yX0_make, Cond.initialized RX0]
def wsL_roundedOn_r2 : List Cond := [Cond.code yX0_make cX0_make 4 none, Cond.fieldLink RX0 33 "UnlikeUnion$Division" "bound" "I", Cond.methodLink RX0 25 yX0_findLeast, Cond.instanceMethod yX0_findLeast, Cond.selects RX0 yX0_findLeast yX0_findLeast, Cond.code yX0_findLeast cX0_findLeast 6 none, Cond.fieldLink RX0 12 "UnlikeUnion$Division" "tableau" "LUnlikeUnion$Tableau;", Cond.fieldLink RX0 60 "UnlikeUnion$Division" "leastNumerator" "I", Cond.fieldLink RX0 63 "UnlikeUnion$Division" "leastDenominator" "I", Cond.methodLink RX0 40 yX5_start, Cond.instanceMethod yX5_start, Cond.selects RX5 yX5_start yX5_start, Cond.initialized RX5, Cond.code yX5_start cX5_start 6 (some .boolean), Cond.fieldLink RX5 13 "UnlikeUnion$Tableau" "cells" "[[J", Cond.constantLong RX5 34 (-1), Cond.fieldLink RX5 16 "UnlikeUnion$Tableau" "basic" "[I", Cond.fieldLink RX5 20 "UnlikeUnion$Tableau" "allowed" "[Z", Cond.methodLink RX5 30 yX5_clear, Cond.instanceMethod yX5_clear, Cond.selects RX5 yX5_clear yX5_clear, Cond.code yX5_clear cX5_clear 4 none, Cond.methodLink RX5 43 Lib.Math.min.name, Cond.static Lib.Math.min.name]
def wsL_roundedOn_r3 : List Cond := [Cond.initialized "java/lang/Math", Cond.code Lib.Math.min.name Lib.Math.min.code 2 (some .int), Cond.fieldLink RX5 49 "UnlikeUnion$Tableau" "rows" "I", Cond.fieldLink RX5 52 "UnlikeUnion$Tableau" "scale" "J", Cond.methodLink RX5 36 yX5_layJob, Cond.instanceMethod yX5_layJob, Cond.selects RX5 yX5_layJob yX5_layJob, Cond.code yX5_layJob cX5_layJob 8 (some .boolean), Cond.methodLink RX5 56 yX1_timeOn, Cond.instanceMethod yX1_timeOn, Cond.selects RX1 yX1_timeOn yX1_timeOn, Cond.initialized RX1, Cond.code yX1_timeOn cX1_timeOn 3 (some .int), Cond.fieldLink RX1 15 "UnlikeUnion$Jobs" "count" "I", Cond.fieldLink RX1 9 "UnlikeUnion$Jobs" "times" "[I", Cond.methodLink RX5 59 yX5_clearBasic, Cond.instanceMethod yX5_clearBasic, Cond.selects RX5 yX5_clearBasic yX5_clearBasic, Cond.code yX5_clearBasic cX5_clearBasic 7 (some .boolean), Cond.methodLink RX5 40 yX5_admitExcess, Cond.instanceMethod yX5_admitExcess, Cond.selects RX5 yX5_admitExcess yX5_admitExcess, Cond.code yX5_admitExcess cX5_admitExcess 4 none, Cond.methodLink RX0 44 yX5_lowerExcess]
def wsL_roundedOn_r4 : List Cond := [Cond.instanceMethod yX5_lowerExcess, Cond.selects RX5 yX5_lowerExcess yX5_lowerExcess, Cond.code yX5_lowerExcess cX5_lowerExcess 4 (some .boolean), Cond.constant RX5 63 (1000000), Cond.methodLink RX5 64 yX5_rowOf, Cond.instanceMethod yX5_rowOf, Cond.selects RX5 yX5_rowOf yX5_rowOf, Cond.code yX5_rowOf cX5_rowOf 3 (some .int), Cond.methodLink RX5 68 yX5_columnWithSign, Cond.instanceMethod yX5_columnWithSign, Cond.selects RX5 yX5_columnWithSign yX5_columnWithSign, Cond.code yX5_columnWithSign cX5_columnWithSign 4 (some .int), Cond.methodLink RX5 71 yX5_enter, Cond.instanceMethod yX5_enter, Cond.selects RX5 yX5_enter yX5_enter, Cond.code yX5_enter cX5_enter 9 (some .boolean), Cond.methodLink RX5 77 yX5_leavingRow, Cond.instanceMethod yX5_leavingRow, Cond.selects RX5 yX5_leavingRow yX5_leavingRow, Cond.code yX5_leavingRow cX5_leavingRow 8 (some .int), Cond.methodLink RX0 48 yX5_scaledValue, Cond.instanceMethod yX5_scaledValue, Cond.selects RX5 yX5_scaledValue yX5_scaledValue, Cond.code yX5_scaledValue cX5_scaledValue 3 (some .long)]
def wsL_roundedOn_r5 : List Cond := [Cond.methodLink RX0 56 yX0_commonDivisor, Cond.static yX0_commonDivisor, Cond.code yX0_commonDivisor cX0_commonDivisor 11 (some .long), Cond.methodLink RX0 29 yX0_canKeep, Cond.instanceMethod yX0_canKeep, Cond.selects RX0 yX0_canKeep yX0_canKeep, Cond.code yX0_canKeep cX0_canKeep 3 (some .boolean), Cond.methodLink RX0 37 yX0_findShares, Cond.instanceMethod yX0_findShares, Cond.selects RX0 yX0_findShares yX0_findShares, Cond.code yX0_findShares cX0_findShares 8 none, Cond.methodLink RX0 71 Lib.Math.min.name, Cond.fieldLink RX0 18 "UnlikeUnion$Division" "numerators" "[I", Cond.fieldLink RX0 22 "UnlikeUnion$Division" "denominators" "[I", Cond.methodLink RX0 77 yX5_raise, Cond.instanceMethod yX5_raise, Cond.selects RX5 yX5_raise yX5_raise, Cond.code yX5_raise cX5_raise 5 none, Cond.methodLink RX5 74 yX5_hold, Cond.instanceMethod yX5_hold, Cond.selects RX5 yX5_hold yX5_hold, Cond.code yX5_hold cX5_hold 3 none, Cond.methodLink RX6 162 yX4_make, Cond.instanceMethod yX4_make]
def wsL_roundedOn_r6 : List Cond := [Cond.selects RX4 yX4_make yX4_make, Cond.initialized RX4, Cond.code yX4_make cX4_make 3 none, Cond.methodLink RX4 15 yX4_matchFrom, Cond.static yX4_matchFrom, Cond.code yX4_matchFrom cX4_matchFrom 8 (some .boolean), Cond.fieldLink RX4 9 "UnlikeUnion$Rounding" "machineOf" "[I", Cond.methodLink RX4 25 yX0_wholeMachine, Cond.instanceMethod yX0_wholeMachine, Cond.selects RX0 yX0_wholeMachine yX0_wholeMachine, Cond.code yX0_wholeMachine cX0_wholeMachine 3 (some .int), Cond.methodLink RX0 81 yX0_hasShare, Cond.instanceMethod yX0_hasShare, Cond.selects RX0 yX0_hasShare yX0_hasShare, Cond.code yX0_hasShare cX0_hasShare 3 (some .boolean), Cond.methodLink RX4 31 yX0_hasShare]
def wsL_roundedOn : List Cond := .codeWith yL_roundedOn cL_roundedOn 3 (some .int) [(0, 5, 6, 22)] :: ((wsL_roundedOn_r1 ++ (wsL_roundedOn_r2 ++ (wsL_roundedOn_r3 ++ (wsL_roundedOn_r4 ++ (wsL_roundedOn_r5 ++ wsL_roundedOn_r6))))) ++ wsX60 ++ wsX40 ++ wsX10 ++ wsX00 ++ wsX50 ++ (vx_atS RX6 145 "java/lang/IndexOutOfBoundsException" ["java/lang/RuntimeException", "java/lang/Exception"]).filter goodWord)
def wsL_assign_r1 : List Cond := [Cond.classLink RL 22 "java/lang/IndexOutOfBoundsException", Cond.classLink RL 17 "java/lang/IllegalStateException", Cond.methodLink RL 45 yX6_assign, Cond.instanceMethod yX6_assign, Cond.selects RX6 yX6_assign yX6_assign, Cond.initialized RX6, Cond.code yX6_assign cX6_assign 4 (some .int), Cond.classLink RX6 61 "java/lang/IllegalStateException", Cond.initialized "java/lang/IllegalStateException", Cond.fieldLink RX6 12 "UnlikeUnion" "list" "LUnlikeUnion$Jobs;", Cond.fieldLink RX6 19 "UnlikeUnion" "own" "LUnlikeUnion$OwnPlan;", Cond.methodLink RX6 76 yX6_requireJob, Cond.instanceMethod yX6_requireJob, Cond.selects RX6 yX6_requireJob yX6_requireJob, Cond.code yX6_requireJob cX6_requireJob 2 none, Cond.classLink RX6 141 "java/lang/IndexOutOfBoundsException", Cond.initialized "java/lang/IndexOutOfBoundsException", Cond.methodLink RX6 80 yX6_requireMachine, Cond.static yX6_requireMachine, Cond.code yX6_requireMachine cX6_requireMachine 1 none, Cond.methodLink RX6 87 yX1_timeOn, Cond.instanceMethod yX1_timeOn, Cond.selects RX1 yX1_timeOn yX1_timeOn, Cond.initialized RX1]
def wsL_assign_r2 : List Cond := [Cond.code yX1_timeOn cX1_timeOn 3 (some .int), Cond.fieldLink RX1 15 "UnlikeUnion$Jobs" "count" "I", Cond.fieldLink RX1 9 "UnlikeUnion$Jobs" "times" "[I"]
def wsL_assign : List Cond := .codeWith yL_assign cL_assign 4 (some .int) [(0, 6, 7, 22), (0, 6, 11, 17)] :: ((wsL_assign_r1 ++ wsL_assign_r2) ++ wsX60 ++ wsX20 ++ wsX10 ++ (vx_atS RX6 65 "java/lang/IllegalStateException" ["java/lang/RuntimeException", "java/lang/Exception"]).filter goodWord ++ (vx_atS RX6 145 "java/lang/IndexOutOfBoundsException" ["java/lang/RuntimeException", "java/lang/Exception"]).filter goodWord)
def wsL_machine : List Cond := .codeWith yL_machine cL_machine 3 (some .int) [(0, 5, 6, 22)] :: ([.classLink RL 22 "java/lang/IndexOutOfBoundsException", .methodLink RL 48 yX6_machine, .instanceMethod yX6_machine, .selects RX6 yX6_machine yX6_machine, .initialized RX6, .code yX6_machine cX6_machine 2 (some .int), .fieldLink RX6 19 "UnlikeUnion" "own" "LUnlikeUnion$OwnPlan;", .methodLink RX6 76 yX6_requireJob, .instanceMethod yX6_requireJob, .selects RX6 yX6_requireJob yX6_requireJob, .code yX6_requireJob cX6_requireJob 2 none, .classLink RX6 141 "java/lang/IndexOutOfBoundsException", .initialized "java/lang/IndexOutOfBoundsException", .fieldLink RX6 12 "UnlikeUnion" "list" "LUnlikeUnion$Jobs;"] ++ wsX60 ++ wsX20 ++ wsX10 ++ (vx_atS RX6 145 "java/lang/IndexOutOfBoundsException" ["java/lang/RuntimeException", "java/lang/Exception"]).filter goodWord)
def wsL_load : List Cond := .codeWith yL_load cL_load 3 (some .int) [(0, 5, 6, 22)] :: ([.classLink RL 22 "java/lang/IndexOutOfBoundsException", .methodLink RL 51 yX6_load, .instanceMethod yX6_load, .selects RX6 yX6_load yX6_load, .initialized RX6, .code yX6_load cX6_load 2 (some .int), .fieldLink RX6 12 "UnlikeUnion" "list" "LUnlikeUnion$Jobs;", .fieldLink RX6 19 "UnlikeUnion" "own" "LUnlikeUnion$OwnPlan;", .methodLink RX6 80 yX6_requireMachine, .static yX6_requireMachine, .code yX6_requireMachine cX6_requireMachine 1 none, .classLink RX6 141 "java/lang/IndexOutOfBoundsException", .initialized "java/lang/IndexOutOfBoundsException", .methodLink RX6 133 yX1_loadOn, .instanceMethod yX1_loadOn, .selects RX1 yX1_loadOn yX1_loadOn, .initialized RX1, .code yX1_loadOn cX1_loadOn 5 (some .int), .fieldLink RX1 15 "UnlikeUnion$Jobs" "count" "I", .methodLink RX1 19 yX1_timeOn, .instanceMethod yX1_timeOn, .selects RX1 yX1_timeOn yX1_timeOn, .code yX1_timeOn cX1_timeOn 3 (some .int), .fieldLink RX1 9 "UnlikeUnion$Jobs" "times" "[I"] ++ wsX60 ++ wsX20 ++ wsX10 ++ (vx_atS RX6 145 "java/lang/IndexOutOfBoundsException" ["java/lang/RuntimeException", "java/lang/Exception"]).filter goodWord)
def wsL_common : List Cond := .code yL_common cL_common 10 (some .long) :: ([])
def wsL_isWithin_r1 : List Cond := [Cond.methodLink RL 54 yX6_jobs, Cond.instanceMethod yX6_jobs, Cond.selects RX6 yX6_jobs yX6_jobs, Cond.initialized RX6, Cond.code yX6_jobs cX6_jobs 1 (some .int), Cond.fieldLink RX6 12 "UnlikeUnion" "list" "LUnlikeUnion$Jobs;", Cond.methodLink RL 58 yL_numerator, Cond.static yL_numerator, Cond.initialized RL, Cond.codeWith yL_numerator cL_numerator 4 (some .int) [(0, 6, 7, 22)], Cond.classLink RL 22 "java/lang/IndexOutOfBoundsException", Cond.methodLink RL 32 yX6_numerator, Cond.instanceMethod yX6_numerator, Cond.selects RX6 yX6_numerator yX6_numerator, Cond.code yX6_numerator cX6_numerator 3 (some .int), Cond.fieldLink RX6 33 "UnlikeUnion" "division" "LUnlikeUnion$Division;", Cond.methodLink RX6 76 yX6_requireJob, Cond.instanceMethod yX6_requireJob, Cond.selects RX6 yX6_requireJob yX6_requireJob, Cond.code yX6_requireJob cX6_requireJob 2 none, Cond.classLink RX6 141 "java/lang/IndexOutOfBoundsException", Cond.initialized "java/lang/IndexOutOfBoundsException", Cond.methodLink RX6 80 yX6_requireMachine, Cond.static yX6_requireMachine]
def wsL_isWithin_r2 : List Cond := [Cond.code yX6_requireMachine cX6_requireMachine 1 none, Cond.methodLink RX6 104 yX6_refreshDivision, Cond.instanceMethod yX6_refreshDivision, Cond.selects RX6 yX6_refreshDivision yX6_refreshDivision, Cond.code yX6_refreshDivision cX6_refreshDivision 1 none, Cond.fieldLink RX6 152 "UnlikeUnion" "divisionStands" "Z", Cond.fieldLink RX6 40 "UnlikeUnion" "rounding" "LUnlikeUnion$Rounding;", Cond.methodLink RX6 159 yX0_make, Cond.instanceMethod yX0_make, Cond.selects RX0 yX0_make yX0_make, Cond.initialized RX0, Cond.code yX0_make cX0_make 4 none, Cond.fieldLink RX0 33 "UnlikeUnion$Division" "bound" "I", Cond.methodLink RX0 25 yX0_findLeast, Cond.instanceMethod yX0_findLeast, Cond.selects RX0 yX0_findLeast yX0_findLeast, Cond.code yX0_findLeast cX0_findLeast 6 none, Cond.fieldLink RX0 12 "UnlikeUnion$Division" "tableau" "LUnlikeUnion$Tableau;", Cond.fieldLink RX0 60 "UnlikeUnion$Division" "leastNumerator" "I", Cond.fieldLink RX0 63 "UnlikeUnion$Division" "leastDenominator" "I", Cond.methodLink RX0 40 yX5_start, Cond.instanceMethod yX5_start, Cond.selects RX5 yX5_start yX5_start, Cond.initialized RX5]
def wsL_isWithin_r3 : List Cond := [Cond.code yX5_start cX5_start 6 (some .boolean), Cond.fieldLink RX5 13 "UnlikeUnion$Tableau" "cells" "[[J", Cond.constantLong RX5 34 (-1), Cond.fieldLink RX5 16 "UnlikeUnion$Tableau" "basic" "[I", Cond.fieldLink RX5 20 "UnlikeUnion$Tableau" "allowed" "[Z", Cond.methodLink RX5 30 yX5_clear, Cond.instanceMethod yX5_clear, Cond.selects RX5 yX5_clear yX5_clear, Cond.code yX5_clear cX5_clear 4 none, Cond.methodLink RX5 43 Lib.Math.min.name, Cond.static Lib.Math.min.name, Cond.initialized "java/lang/Math", Cond.code Lib.Math.min.name Lib.Math.min.code 2 (some .int), Cond.fieldLink RX5 49 "UnlikeUnion$Tableau" "rows" "I", Cond.fieldLink RX5 52 "UnlikeUnion$Tableau" "scale" "J", Cond.methodLink RX5 36 yX5_layJob, Cond.instanceMethod yX5_layJob, Cond.selects RX5 yX5_layJob yX5_layJob, Cond.code yX5_layJob cX5_layJob 8 (some .boolean), Cond.methodLink RX5 56 yX1_timeOn, Cond.instanceMethod yX1_timeOn, Cond.selects RX1 yX1_timeOn yX1_timeOn, Cond.initialized RX1, Cond.code yX1_timeOn cX1_timeOn 3 (some .int)]
def wsL_isWithin_r4 : List Cond := [Cond.fieldLink RX1 15 "UnlikeUnion$Jobs" "count" "I", Cond.fieldLink RX1 9 "UnlikeUnion$Jobs" "times" "[I", Cond.methodLink RX5 59 yX5_clearBasic, Cond.instanceMethod yX5_clearBasic, Cond.selects RX5 yX5_clearBasic yX5_clearBasic, Cond.code yX5_clearBasic cX5_clearBasic 7 (some .boolean), Cond.methodLink RX5 40 yX5_admitExcess, Cond.instanceMethod yX5_admitExcess, Cond.selects RX5 yX5_admitExcess yX5_admitExcess, Cond.code yX5_admitExcess cX5_admitExcess 4 none, Cond.methodLink RX0 44 yX5_lowerExcess, Cond.instanceMethod yX5_lowerExcess, Cond.selects RX5 yX5_lowerExcess yX5_lowerExcess, Cond.code yX5_lowerExcess cX5_lowerExcess 4 (some .boolean), Cond.constant RX5 63 (1000000), Cond.methodLink RX5 64 yX5_rowOf, Cond.instanceMethod yX5_rowOf, Cond.selects RX5 yX5_rowOf yX5_rowOf, Cond.code yX5_rowOf cX5_rowOf 3 (some .int), Cond.methodLink RX5 68 yX5_columnWithSign, Cond.instanceMethod yX5_columnWithSign, Cond.selects RX5 yX5_columnWithSign yX5_columnWithSign, Cond.code yX5_columnWithSign cX5_columnWithSign 4 (some .int), Cond.methodLink RX5 71 yX5_enter]
def wsL_isWithin_r5 : List Cond := [Cond.instanceMethod yX5_enter, Cond.selects RX5 yX5_enter yX5_enter, Cond.code yX5_enter cX5_enter 9 (some .boolean), Cond.methodLink RX5 77 yX5_leavingRow, Cond.instanceMethod yX5_leavingRow, Cond.selects RX5 yX5_leavingRow yX5_leavingRow, Cond.code yX5_leavingRow cX5_leavingRow 8 (some .int), Cond.methodLink RX0 48 yX5_scaledValue, Cond.instanceMethod yX5_scaledValue, Cond.selects RX5 yX5_scaledValue yX5_scaledValue, Cond.code yX5_scaledValue cX5_scaledValue 3 (some .long), Cond.methodLink RX0 56 yX0_commonDivisor, Cond.static yX0_commonDivisor, Cond.code yX0_commonDivisor cX0_commonDivisor 11 (some .long), Cond.methodLink RX0 29 yX0_canKeep, Cond.instanceMethod yX0_canKeep, Cond.selects RX0 yX0_canKeep yX0_canKeep, Cond.code yX0_canKeep cX0_canKeep 3 (some .boolean), Cond.methodLink RX0 37 yX0_findShares, Cond.instanceMethod yX0_findShares, Cond.selects RX0 yX0_findShares yX0_findShares, Cond.code yX0_findShares cX0_findShares 8 none, Cond.methodLink RX0 71 Lib.Math.min.name, Cond.fieldLink RX0 18 "UnlikeUnion$Division" "numerators" "[I"]
def wsL_isWithin_r6 : List Cond := [Cond.fieldLink RX0 22 "UnlikeUnion$Division" "denominators" "[I", Cond.methodLink RX0 77 yX5_raise, Cond.instanceMethod yX5_raise, Cond.selects RX5 yX5_raise yX5_raise, Cond.code yX5_raise cX5_raise 5 none, Cond.methodLink RX5 74 yX5_hold, Cond.instanceMethod yX5_hold, Cond.selects RX5 yX5_hold yX5_hold, Cond.code yX5_hold cX5_hold 3 none, Cond.methodLink RX6 162 yX4_make, Cond.instanceMethod yX4_make, Cond.selects RX4 yX4_make yX4_make, Cond.initialized RX4, Cond.code yX4_make cX4_make 3 none, Cond.methodLink RX4 15 yX4_matchFrom, Cond.static yX4_matchFrom, Cond.code yX4_matchFrom cX4_matchFrom 8 (some .boolean), Cond.fieldLink RX4 9 "UnlikeUnion$Rounding" "machineOf" "[I", Cond.methodLink RX4 25 yX0_wholeMachine, Cond.instanceMethod yX0_wholeMachine, Cond.selects RX0 yX0_wholeMachine yX0_wholeMachine, Cond.code yX0_wholeMachine cX0_wholeMachine 3 (some .int), Cond.methodLink RX0 81 yX0_hasShare, Cond.instanceMethod yX0_hasShare]
def wsL_isWithin_r7 : List Cond := [Cond.selects RX0 yX0_hasShare yX0_hasShare, Cond.code yX0_hasShare cX0_hasShare 3 (some .boolean), Cond.methodLink RX4 31 yX0_hasShare, Cond.methodLink RL 63 yL_denominator, Cond.static yL_denominator, Cond.codeWith yL_denominator cL_denominator 4 (some .int) [(0, 6, 7, 22)], Cond.methodLink RL 35 yX6_denominator, Cond.instanceMethod yX6_denominator, Cond.selects RX6 yX6_denominator yX6_denominator, Cond.code yX6_denominator cX6_denominator 3 (some .int), Cond.methodLink RL 65 yL_time, Cond.static yL_time, Cond.codeWith yL_time cL_time 4 (some .int) [(0, 6, 7, 22)], Cond.methodLink RL 24 yX6_time, Cond.instanceMethod yX6_time, Cond.selects RX6 yX6_time yX6_time, Cond.code yX6_time cX6_time 3 (some .int), Cond.methodLink RX6 87 yX1_timeOn, Cond.methodLink RL 67 yL_common, Cond.static yL_common, Cond.code yL_common cL_common 10 (some .long)]
def wsL_isWithin : List Cond := .code yL_isWithin cL_isWithin 16 (some .boolean) :: ((wsL_isWithin_r1 ++ (wsL_isWithin_r2 ++ (wsL_isWithin_r3 ++ (wsL_isWithin_r4 ++ (wsL_isWithin_r5 ++ (wsL_isWithin_r6 ++ wsL_isWithin_r7)))))) ++ wsX60 ++ wsX10 ++ wsX00 ++ wsX50 ++ wsX40 ++ (vx_atS RX6 145 "java/lang/IndexOutOfBoundsException" ["java/lang/RuntimeException", "java/lang/Exception"]).filter goodWord)
def wsL_divides_r1 : List Cond := [Cond.methodLink RL 71 yX6_bound, Cond.instanceMethod yX6_bound, Cond.selects RX6 yX6_bound yX6_bound, Cond.initialized RX6, Cond.code yX6_bound cX6_bound 1 (some .int), Cond.fieldLink RX6 33 "UnlikeUnion" "division" "LUnlikeUnion$Division;", Cond.methodLink RX6 104 yX6_refreshDivision, Cond.instanceMethod yX6_refreshDivision, Cond.selects RX6 yX6_refreshDivision yX6_refreshDivision, Cond.code yX6_refreshDivision cX6_refreshDivision 1 none, Cond.fieldLink RX6 152 "UnlikeUnion" "divisionStands" "Z", Cond.fieldLink RX6 12 "UnlikeUnion" "list" "LUnlikeUnion$Jobs;", Cond.fieldLink RX6 40 "UnlikeUnion" "rounding" "LUnlikeUnion$Rounding;", Cond.methodLink RX6 159 yX0_make, Cond.instanceMethod yX0_make, Cond.selects RX0 yX0_make yX0_make, Cond.initialized RX0, Cond.code yX0_make cX0_make 4 none, Cond.fieldLink RX0 33 "UnlikeUnion$Division" "bound" "I", Cond.methodLink RX0 25 yX0_findLeast, Cond.instanceMethod yX0_findLeast, Cond.selects RX0 yX0_findLeast yX0_findLeast, Cond.code yX0_findLeast cX0_findLeast 6 none, Cond.fieldLink RX0 12 "UnlikeUnion$Division" "tableau" "LUnlikeUnion$Tableau;"]
def wsL_divides_r2 : List Cond := [Cond.fieldLink RX0 60 "UnlikeUnion$Division" "leastNumerator" "I", Cond.fieldLink RX0 63 "UnlikeUnion$Division" "leastDenominator" "I", Cond.methodLink RX0 40 yX5_start, Cond.instanceMethod yX5_start, Cond.selects RX5 yX5_start yX5_start, Cond.initialized RX5, Cond.code yX5_start cX5_start 6 (some .boolean), Cond.fieldLink RX5 13 "UnlikeUnion$Tableau" "cells" "[[J", Cond.constantLong RX5 34 (-1), Cond.fieldLink RX5 16 "UnlikeUnion$Tableau" "basic" "[I", Cond.fieldLink RX5 20 "UnlikeUnion$Tableau" "allowed" "[Z", Cond.methodLink RX5 30 yX5_clear, Cond.instanceMethod yX5_clear, Cond.selects RX5 yX5_clear yX5_clear, Cond.code yX5_clear cX5_clear 4 none, Cond.methodLink RX5 43 Lib.Math.min.name, Cond.static Lib.Math.min.name, Cond.initialized "java/lang/Math", Cond.code Lib.Math.min.name Lib.Math.min.code 2 (some .int), Cond.fieldLink RX5 49 "UnlikeUnion$Tableau" "rows" "I", Cond.fieldLink RX5 52 "UnlikeUnion$Tableau" "scale" "J", Cond.methodLink RX5 36 yX5_layJob, Cond.instanceMethod yX5_layJob, Cond.selects RX5 yX5_layJob yX5_layJob]
def wsL_divides_r3 : List Cond := [Cond.code yX5_layJob cX5_layJob 8 (some .boolean), Cond.methodLink RX5 56 yX1_timeOn, Cond.instanceMethod yX1_timeOn, Cond.selects RX1 yX1_timeOn yX1_timeOn, Cond.initialized RX1, Cond.code yX1_timeOn cX1_timeOn 3 (some .int), Cond.fieldLink RX1 15 "UnlikeUnion$Jobs" "count" "I", Cond.fieldLink RX1 9 "UnlikeUnion$Jobs" "times" "[I", Cond.methodLink RX5 59 yX5_clearBasic, Cond.instanceMethod yX5_clearBasic, Cond.selects RX5 yX5_clearBasic yX5_clearBasic, Cond.code yX5_clearBasic cX5_clearBasic 7 (some .boolean), Cond.methodLink RX5 40 yX5_admitExcess, Cond.instanceMethod yX5_admitExcess, Cond.selects RX5 yX5_admitExcess yX5_admitExcess, Cond.code yX5_admitExcess cX5_admitExcess 4 none, Cond.methodLink RX0 44 yX5_lowerExcess, Cond.instanceMethod yX5_lowerExcess, Cond.selects RX5 yX5_lowerExcess yX5_lowerExcess, Cond.code yX5_lowerExcess cX5_lowerExcess 4 (some .boolean), Cond.constant RX5 63 (1000000), Cond.methodLink RX5 64 yX5_rowOf, Cond.instanceMethod yX5_rowOf, Cond.selects RX5 yX5_rowOf yX5_rowOf]
def wsL_divides_r4 : List Cond := [Cond.code yX5_rowOf cX5_rowOf 3 (some .int), Cond.methodLink RX5 68 yX5_columnWithSign, Cond.instanceMethod yX5_columnWithSign, Cond.selects RX5 yX5_columnWithSign yX5_columnWithSign, Cond.code yX5_columnWithSign cX5_columnWithSign 4 (some .int), Cond.methodLink RX5 71 yX5_enter, Cond.instanceMethod yX5_enter, Cond.selects RX5 yX5_enter yX5_enter, Cond.code yX5_enter cX5_enter 9 (some .boolean), Cond.methodLink RX5 77 yX5_leavingRow, Cond.instanceMethod yX5_leavingRow, Cond.selects RX5 yX5_leavingRow yX5_leavingRow, Cond.code yX5_leavingRow cX5_leavingRow 8 (some .int), Cond.methodLink RX0 48 yX5_scaledValue, Cond.instanceMethod yX5_scaledValue, Cond.selects RX5 yX5_scaledValue yX5_scaledValue, Cond.code yX5_scaledValue cX5_scaledValue 3 (some .long), Cond.methodLink RX0 56 yX0_commonDivisor, Cond.static yX0_commonDivisor, Cond.code yX0_commonDivisor cX0_commonDivisor 11 (some .long), Cond.methodLink RX0 29 yX0_canKeep, Cond.instanceMethod yX0_canKeep, Cond.selects RX0 yX0_canKeep yX0_canKeep, Cond.code yX0_canKeep cX0_canKeep 3 (some .boolean)]
def wsL_divides_r5 : List Cond := [Cond.methodLink RX0 37 yX0_findShares, Cond.instanceMethod yX0_findShares, Cond.selects RX0 yX0_findShares yX0_findShares, Cond.code yX0_findShares cX0_findShares 8 none, Cond.methodLink RX0 71 Lib.Math.min.name, Cond.fieldLink RX0 18 "UnlikeUnion$Division" "numerators" "[I", Cond.fieldLink RX0 22 "UnlikeUnion$Division" "denominators" "[I", Cond.methodLink RX0 77 yX5_raise, Cond.instanceMethod yX5_raise, Cond.selects RX5 yX5_raise yX5_raise, Cond.code yX5_raise cX5_raise 5 none, Cond.methodLink RX5 74 yX5_hold, Cond.instanceMethod yX5_hold, Cond.selects RX5 yX5_hold yX5_hold, Cond.code yX5_hold cX5_hold 3 none, Cond.methodLink RX6 162 yX4_make, Cond.instanceMethod yX4_make, Cond.selects RX4 yX4_make yX4_make, Cond.initialized RX4, Cond.code yX4_make cX4_make 3 none, Cond.methodLink RX4 15 yX4_matchFrom, Cond.static yX4_matchFrom, Cond.code yX4_matchFrom cX4_matchFrom 8 (some .boolean), Cond.fieldLink RX4 9 "UnlikeUnion$Rounding" "machineOf" "[I"]
def wsL_divides_r6 : List Cond := [Cond.methodLink RX4 25 yX0_wholeMachine, Cond.instanceMethod yX0_wholeMachine, Cond.selects RX0 yX0_wholeMachine yX0_wholeMachine, Cond.code yX0_wholeMachine cX0_wholeMachine 3 (some .int), Cond.methodLink RX0 81 yX0_hasShare, Cond.instanceMethod yX0_hasShare, Cond.selects RX0 yX0_hasShare yX0_hasShare, Cond.code yX0_hasShare cX0_hasShare 3 (some .boolean), Cond.methodLink RX4 31 yX0_hasShare, Cond.methodLink RL 54 yX6_jobs, Cond.instanceMethod yX6_jobs, Cond.selects RX6 yX6_jobs yX6_jobs, Cond.code yX6_jobs cX6_jobs 1 (some .int), Cond.methodLink RL 58 yL_numerator, Cond.static yL_numerator, Cond.initialized RL, Cond.codeWith yL_numerator cL_numerator 4 (some .int) [(0, 6, 7, 22)], Cond.classLink RL 22 "java/lang/IndexOutOfBoundsException", Cond.methodLink RL 32 yX6_numerator, Cond.instanceMethod yX6_numerator, Cond.selects RX6 yX6_numerator yX6_numerator, Cond.code yX6_numerator cX6_numerator 3 (some .int), Cond.methodLink RX6 76 yX6_requireJob, Cond.instanceMethod yX6_requireJob]
def wsL_divides_r7 : List Cond := [Cond.selects RX6 yX6_requireJob yX6_requireJob, Cond.code yX6_requireJob cX6_requireJob 2 none, Cond.classLink RX6 141 "java/lang/IndexOutOfBoundsException", Cond.initialized "java/lang/IndexOutOfBoundsException", Cond.methodLink RX6 80 yX6_requireMachine, Cond.static yX6_requireMachine, Cond.code yX6_requireMachine cX6_requireMachine 1 none, Cond.methodLink RL 63 yL_denominator, Cond.static yL_denominator, Cond.codeWith yL_denominator cL_denominator 4 (some .int) [(0, 6, 7, 22)], Cond.methodLink RL 35 yX6_denominator, Cond.instanceMethod yX6_denominator, Cond.selects RX6 yX6_denominator yX6_denominator, Cond.code yX6_denominator cX6_denominator 3 (some .int), Cond.methodLink RL 65 yL_time, Cond.static yL_time, Cond.codeWith yL_time cL_time 4 (some .int) [(0, 6, 7, 22)], Cond.methodLink RL 24 yX6_time, Cond.instanceMethod yX6_time, Cond.selects RX6 yX6_time yX6_time, Cond.code yX6_time cX6_time 3 (some .int), Cond.methodLink RX6 87 yX1_timeOn, Cond.methodLink RL 67 yL_common, Cond.static yL_common]
def wsL_divides_r8 : List Cond := [Cond.code yL_common cL_common 10 (some .long), Cond.methodLink RL 74 yL_roundedOn, Cond.static yL_roundedOn, Cond.codeWith yL_roundedOn cL_roundedOn 3 (some .int) [(0, 5, 6, 22)], Cond.methodLink RL 42 yX6_roundedMachine, Cond.instanceMethod yX6_roundedMachine, Cond.selects RX6 yX6_roundedMachine yX6_roundedMachine, Cond.code yX6_roundedMachine cX6_roundedMachine 2 (some .int), Cond.methodLink RL 78 yL_divided, Cond.static yL_divided, Cond.codeWith yL_divided cL_divided 3 (some .int) [(0, 13, 14, 22)], Cond.methodLink RL 38 yX6_isDivided, Cond.instanceMethod yX6_isDivided, Cond.selects RX6 yX6_isDivided yX6_isDivided, Cond.code yX6_isDivided cX6_isDivided 2 (some .boolean), Cond.methodLink RX6 116 yX0_wholeMachine, Cond.methodLink RL 81 yL_isWithin, Cond.static yL_isWithin, Cond.code yL_isWithin cL_isWithin 16 (some .boolean), Cond.methodLink RL 85 yX6_leastNumerator, Cond.instanceMethod yX6_leastNumerator, Cond.selects RX6 yX6_leastNumerator yX6_leastNumerator, Cond.code yX6_leastNumerator cX6_leastNumerator 1 (some .int), Cond.methodLink RL 88 yX6_leastDenominator]
def wsL_divides_r9 : List Cond := [Cond.instanceMethod yX6_leastDenominator, Cond.selects RX6 yX6_leastDenominator yX6_leastDenominator, Cond.code yX6_leastDenominator cX6_leastDenominator 1 (some .int)]
def wsL_divides : List Cond := .code yL_divides cL_divides 17 (some .boolean) :: ((wsL_divides_r1 ++ (wsL_divides_r2 ++ (wsL_divides_r3 ++ (wsL_divides_r4 ++ (wsL_divides_r5 ++ (wsL_divides_r6 ++ (wsL_divides_r7 ++ (wsL_divides_r8 ++ wsL_divides_r9)))))))) ++ wsX60 ++ wsX00 ++ wsX50 ++ wsX10 ++ wsX40 ++ (vx_atS RX6 145 "java/lang/IndexOutOfBoundsException" ["java/lang/RuntimeException", "java/lang/Exception"]).filter goodWord)
def wsL_plans_r1 : List Cond := [Cond.methodLink RL 91 yX6_shortest, Cond.instanceMethod yX6_shortest, Cond.selects RX6 yX6_shortest yX6_shortest, Cond.initialized RX6, Cond.code yX6_shortest cX6_shortest 1 (some .int), Cond.fieldLink RX6 26 "UnlikeUnion" "search" "LUnlikeUnion$PlanSearch;", Cond.methodLink RX6 91 yX6_refreshSearch, Cond.instanceMethod yX6_refreshSearch, Cond.selects RX6 yX6_refreshSearch yX6_refreshSearch, Cond.code yX6_refreshSearch cX6_refreshSearch 1 none, Cond.fieldLink RX6 148 "UnlikeUnion" "searchStands" "Z", Cond.fieldLink RX6 12 "UnlikeUnion" "list" "LUnlikeUnion$Jobs;", Cond.methodLink RX6 155 yX3_find, Cond.instanceMethod yX3_find, Cond.selects RX3 yX3_find yX3_find, Cond.initialized RX3, Cond.code yX3_find cX3_find 2 none, Cond.fieldLink RX3 24 "UnlikeUnion$PlanSearch" "bestLength" "I", Cond.methodLink RX3 21 yX3_clearLoads, Cond.instanceMethod yX3_clearLoads, Cond.selects RX3 yX3_clearLoads yX3_clearLoads, Cond.code yX3_clearLoads cX3_clearLoads 2 none, Cond.fieldLink RX3 9 "UnlikeUnion$PlanSearch" "loads" "[I", Cond.methodLink RX3 28 yX3_searchFrom]
def wsL_plans_r2 : List Cond := [Cond.static yX3_searchFrom, Cond.code yX3_searchFrom cX3_searchFrom 6 none, Cond.fieldLink RX3 15 "UnlikeUnion$PlanSearch" "chosen" "[I", Cond.methodLink RX3 36 yX3_greatest, Cond.instanceMethod yX3_greatest, Cond.selects RX3 yX3_greatest yX3_greatest, Cond.code yX3_greatest cX3_greatest 1 (some .int), Cond.methodLink RX3 58 Lib.Math.max.name, Cond.static Lib.Math.max.name, Cond.initialized "java/lang/Math", Cond.code Lib.Math.max.name Lib.Math.max.code 2 (some .int), Cond.methodLink RX3 45 yX3_keep, Cond.instanceMethod yX3_keep, Cond.selects RX3 yX3_keep yX3_keep, Cond.code yX3_keep cX3_keep 3 none, Cond.fieldLink RX3 18 "UnlikeUnion$PlanSearch" "best" "[I", Cond.methodLink RX3 49 yX1_timeOn, Cond.instanceMethod yX1_timeOn, Cond.selects RX1 yX1_timeOn yX1_timeOn, Cond.initialized RX1, Cond.code yX1_timeOn cX1_timeOn 3 (some .int), Cond.fieldLink RX1 15 "UnlikeUnion$Jobs" "count" "I", Cond.fieldLink RX1 9 "UnlikeUnion$Jobs" "times" "[I", Cond.methodLink RL 94 yX6_shortestByTrying]
def wsL_plans_r3 : List Cond := [Cond.instanceMethod yX6_shortestByTrying, Cond.selects RX6 yX6_shortestByTrying yX6_shortestByTrying, Cond.code yX6_shortestByTrying cX6_shortestByTrying 1 (some .int), Cond.methodLink RX6 97 yX3_tryAll, Cond.instanceMethod yX3_tryAll, Cond.selects RX3 yX3_tryAll yX3_tryAll, Cond.code yX3_tryAll cX3_tryAll 2 (some .int), Cond.methodLink RX3 32 yX3_tryFrom, Cond.static yX3_tryFrom, Cond.code yX3_tryFrom cX3_tryFrom 6 (some .int), Cond.methodLink RX3 53 Lib.Math.min.name, Cond.static Lib.Math.min.name, Cond.code Lib.Math.min.name Lib.Math.min.code 2 (some .int), Cond.methodLink RL 54 yX6_jobs, Cond.instanceMethod yX6_jobs, Cond.selects RX6 yX6_jobs yX6_jobs, Cond.code yX6_jobs cX6_jobs 1 (some .int), Cond.methodLink RL 65 yL_time, Cond.static yL_time, Cond.initialized RL, Cond.codeWith yL_time cL_time 4 (some .int) [(0, 6, 7, 22)], Cond.classLink RL 22 "java/lang/IndexOutOfBoundsException", Cond.methodLink RL 24 yX6_time, Cond.instanceMethod yX6_time]
def wsL_plans_r4 : List Cond := [Cond.selects RX6 yX6_time yX6_time, Cond.code yX6_time cX6_time 3 (some .int), Cond.methodLink RX6 76 yX6_requireJob, Cond.instanceMethod yX6_requireJob, Cond.selects RX6 yX6_requireJob yX6_requireJob, Cond.code yX6_requireJob cX6_requireJob 2 none, Cond.classLink RX6 141 "java/lang/IndexOutOfBoundsException", Cond.initialized "java/lang/IndexOutOfBoundsException", Cond.methodLink RX6 80 yX6_requireMachine, Cond.static yX6_requireMachine, Cond.code yX6_requireMachine cX6_requireMachine 1 none, Cond.methodLink RX6 87 yX1_timeOn, Cond.methodLink RL 97 yL_shortestOn, Cond.static yL_shortestOn, Cond.codeWith yL_shortestOn cL_shortestOn 3 (some .int) [(0, 5, 6, 22)], Cond.methodLink RL 28 yX6_shortestMachine, Cond.instanceMethod yX6_shortestMachine, Cond.selects RX6 yX6_shortestMachine yX6_shortestMachine, Cond.code yX6_shortestMachine cX6_shortestMachine 2 (some .int), Cond.methodLink RL 74 yL_roundedOn, Cond.static yL_roundedOn, Cond.codeWith yL_roundedOn cL_roundedOn 3 (some .int) [(0, 5, 6, 22)], Cond.methodLink RL 42 yX6_roundedMachine, Cond.instanceMethod yX6_roundedMachine]
def wsL_plans_r5 : List Cond := [Cond.selects RX6 yX6_roundedMachine yX6_roundedMachine, Cond.code yX6_roundedMachine cX6_roundedMachine 2 (some .int), Cond.fieldLink RX6 40 "UnlikeUnion" "rounding" "LUnlikeUnion$Rounding;", Cond.methodLink RX6 104 yX6_refreshDivision, Cond.instanceMethod yX6_refreshDivision, Cond.selects RX6 yX6_refreshDivision yX6_refreshDivision, Cond.code yX6_refreshDivision cX6_refreshDivision 1 none, Cond.fieldLink RX6 152 "UnlikeUnion" "divisionStands" "Z", Cond.fieldLink RX6 33 "UnlikeUnion" "division" "LUnlikeUnion$Division;", Cond.methodLink RX6 159 yX0_make, Cond.instanceMethod yX0_make, Cond.selects RX0 yX0_make yX0_make, Cond.initialized RX0, Cond.code yX0_make cX0_make 4 none, Cond.fieldLink RX0 33 "UnlikeUnion$Division" "bound" "I", Cond.methodLink RX0 25 yX0_findLeast, Cond.instanceMethod yX0_findLeast, Cond.selects RX0 yX0_findLeast yX0_findLeast, Cond.code yX0_findLeast cX0_findLeast 6 none, Cond.fieldLink RX0 12 "UnlikeUnion$Division" "tableau" "LUnlikeUnion$Tableau;", Cond.fieldLink RX0 60 "UnlikeUnion$Division" "leastNumerator" "I", Cond.fieldLink RX0 63 "UnlikeUnion$Division" "leastDenominator" "I", Cond.methodLink RX0 40 yX5_start, Cond.instanceMethod yX5_start]
def wsL_plans_r6 : List Cond := [Cond.selects RX5 yX5_start yX5_start, Cond.initialized RX5, Cond.code yX5_start cX5_start 6 (some .boolean), Cond.fieldLink RX5 13 "UnlikeUnion$Tableau" "cells" "[[J", Cond.constantLong RX5 34 (-1), Cond.fieldLink RX5 16 "UnlikeUnion$Tableau" "basic" "[I", Cond.fieldLink RX5 20 "UnlikeUnion$Tableau" "allowed" "[Z", Cond.methodLink RX5 30 yX5_clear, Cond.instanceMethod yX5_clear, Cond.selects RX5 yX5_clear yX5_clear, Cond.code yX5_clear cX5_clear 4 none, Cond.methodLink RX5 43 Lib.Math.min.name, Cond.fieldLink RX5 49 "UnlikeUnion$Tableau" "rows" "I", Cond.fieldLink RX5 52 "UnlikeUnion$Tableau" "scale" "J", Cond.methodLink RX5 36 yX5_layJob, Cond.instanceMethod yX5_layJob, Cond.selects RX5 yX5_layJob yX5_layJob, Cond.code yX5_layJob cX5_layJob 8 (some .boolean), Cond.methodLink RX5 56 yX1_timeOn, Cond.methodLink RX5 59 yX5_clearBasic, Cond.instanceMethod yX5_clearBasic, Cond.selects RX5 yX5_clearBasic yX5_clearBasic, Cond.code yX5_clearBasic cX5_clearBasic 7 (some .boolean), Cond.methodLink RX5 40 yX5_admitExcess]
def wsL_plans_r7 : List Cond := [Cond.instanceMethod yX5_admitExcess, Cond.selects RX5 yX5_admitExcess yX5_admitExcess, Cond.code yX5_admitExcess cX5_admitExcess 4 none, Cond.methodLink RX0 44 yX5_lowerExcess, Cond.instanceMethod yX5_lowerExcess, Cond.selects RX5 yX5_lowerExcess yX5_lowerExcess, Cond.code yX5_lowerExcess cX5_lowerExcess 4 (some .boolean), Cond.constant RX5 63 (1000000), Cond.methodLink RX5 64 yX5_rowOf, Cond.instanceMethod yX5_rowOf, Cond.selects RX5 yX5_rowOf yX5_rowOf, Cond.code yX5_rowOf cX5_rowOf 3 (some .int), Cond.methodLink RX5 68 yX5_columnWithSign, Cond.instanceMethod yX5_columnWithSign, Cond.selects RX5 yX5_columnWithSign yX5_columnWithSign, Cond.code yX5_columnWithSign cX5_columnWithSign 4 (some .int), Cond.methodLink RX5 71 yX5_enter, Cond.instanceMethod yX5_enter, Cond.selects RX5 yX5_enter yX5_enter, Cond.code yX5_enter cX5_enter 9 (some .boolean), Cond.methodLink RX5 77 yX5_leavingRow, Cond.instanceMethod yX5_leavingRow, Cond.selects RX5 yX5_leavingRow yX5_leavingRow, Cond.code yX5_leavingRow cX5_leavingRow 8 (some .int)]
def wsL_plans_r8 : List Cond := [Cond.methodLink RX0 48 yX5_scaledValue, Cond.instanceMethod yX5_scaledValue, Cond.selects RX5 yX5_scaledValue yX5_scaledValue, Cond.code yX5_scaledValue cX5_scaledValue 3 (some .long), Cond.methodLink RX0 56 yX0_commonDivisor, Cond.static yX0_commonDivisor, Cond.code yX0_commonDivisor cX0_commonDivisor 11 (some .long), Cond.methodLink RX0 29 yX0_canKeep, Cond.instanceMethod yX0_canKeep, Cond.selects RX0 yX0_canKeep yX0_canKeep, Cond.code yX0_canKeep cX0_canKeep 3 (some .boolean), Cond.methodLink RX0 37 yX0_findShares, Cond.instanceMethod yX0_findShares, Cond.selects RX0 yX0_findShares yX0_findShares, Cond.code yX0_findShares cX0_findShares 8 none, Cond.methodLink RX0 71 Lib.Math.min.name, Cond.fieldLink RX0 18 "UnlikeUnion$Division" "numerators" "[I", Cond.fieldLink RX0 22 "UnlikeUnion$Division" "denominators" "[I", Cond.methodLink RX0 77 yX5_raise, Cond.instanceMethod yX5_raise, Cond.selects RX5 yX5_raise yX5_raise, Cond.code yX5_raise cX5_raise 5 none, Cond.methodLink RX5 74 yX5_hold, Cond.instanceMethod yX5_hold]
def wsL_plans_r9 : List Cond := [Cond.selects RX5 yX5_hold yX5_hold, Cond.code yX5_hold cX5_hold 3 none, Cond.methodLink RX6 162 yX4_make, Cond.instanceMethod yX4_make, Cond.selects RX4 yX4_make yX4_make, Cond.initialized RX4, Cond.code yX4_make cX4_make 3 none, Cond.methodLink RX4 15 yX4_matchFrom, Cond.static yX4_matchFrom, Cond.code yX4_matchFrom cX4_matchFrom 8 (some .boolean), Cond.fieldLink RX4 9 "UnlikeUnion$Rounding" "machineOf" "[I", Cond.methodLink RX4 25 yX0_wholeMachine, Cond.instanceMethod yX0_wholeMachine, Cond.selects RX0 yX0_wholeMachine yX0_wholeMachine, Cond.code yX0_wholeMachine cX0_wholeMachine 3 (some .int), Cond.methodLink RX0 81 yX0_hasShare, Cond.instanceMethod yX0_hasShare, Cond.selects RX0 yX0_hasShare yX0_hasShare, Cond.code yX0_hasShare cX0_hasShare 3 (some .boolean), Cond.methodLink RX4 31 yX0_hasShare, Cond.methodLink RL 100 yL_machine, Cond.static yL_machine, Cond.codeWith yL_machine cL_machine 3 (some .int) [(0, 5, 6, 22)], Cond.methodLink RL 48 yX6_machine]
def wsL_plans_r10 : List Cond := [Cond.instanceMethod yX6_machine, Cond.selects RX6 yX6_machine yX6_machine, Cond.code yX6_machine cX6_machine 2 (some .int), Cond.fieldLink RX6 19 "UnlikeUnion" "own" "LUnlikeUnion$OwnPlan;", Cond.methodLink RL 102 yL_load, Cond.static yL_load, Cond.codeWith yL_load cL_load 3 (some .int) [(0, 5, 6, 22)], Cond.methodLink RL 51 yX6_load, Cond.instanceMethod yX6_load, Cond.selects RX6 yX6_load yX6_load, Cond.code yX6_load cX6_load 2 (some .int), Cond.methodLink RX6 133 yX1_loadOn, Cond.instanceMethod yX1_loadOn, Cond.selects RX1 yX1_loadOn yX1_loadOn, Cond.code yX1_loadOn cX1_loadOn 5 (some .int), Cond.methodLink RX1 19 yX1_timeOn, Cond.methodLink RL 104 yX6_roundedLength, Cond.instanceMethod yX6_roundedLength, Cond.selects RX6 yX6_roundedLength yX6_roundedLength, Cond.code yX6_roundedLength cX6_roundedLength 1 (some .int), Cond.methodLink RX6 127 yX1_greatestLoad, Cond.instanceMethod yX1_greatestLoad, Cond.selects RX1 yX1_greatestLoad yX1_greatestLoad, Cond.code yX1_greatestLoad cX1_greatestLoad 2 (some .int)]
def wsL_plans_r11 : List Cond := [Cond.methodLink RX1 27 Lib.Math.max.name, Cond.methodLink RX1 23 yX1_loadOn, Cond.methodLink RL 107 yX6_length, Cond.instanceMethod yX6_length, Cond.selects RX6 yX6_length yX6_length, Cond.code yX6_length cX6_length 1 (some .int), Cond.methodLink RL 71 yX6_bound, Cond.instanceMethod yX6_bound, Cond.selects RX6 yX6_bound yX6_bound, Cond.code yX6_bound cX6_bound 1 (some .int), Cond.methodLink RL 110 yX6_excess, Cond.instanceMethod yX6_excess, Cond.selects RX6 yX6_excess yX6_excess, Cond.code yX6_excess cX6_excess 1 (some .float)]
def wsL_plans : List Cond := .code yL_plans cL_plans 12 (some .boolean) :: ((wsL_plans_r1 ++ (wsL_plans_r2 ++ (wsL_plans_r3 ++ (wsL_plans_r4 ++ (wsL_plans_r5 ++ (wsL_plans_r6 ++ (wsL_plans_r7 ++ (wsL_plans_r8 ++ (wsL_plans_r9 ++ (wsL_plans_r10 ++ wsL_plans_r11)))))))))) ++ wsX60 ++ wsX30 ++ wsX10 ++ wsX40 ++ wsX00 ++ wsX50 ++ wsX20 ++ (vx_atS RX6 145 "java/lang/IndexOutOfBoundsException" ["java/lang/RuntimeException", "java/lang/Exception"]).filter goodWord)
def wsL_law0_r1 : List Cond := [Cond.classLink RL 10 RX6, Cond.instantiable RX6 7, Cond.initialized RX6, Cond.methodLink RL 114 yX6_init, Cond.instanceMethod yX6_init, Cond.code yX6_init cX6_init 1 none, Cond.methodLink RX6 3 objectInit, Cond.instanceMethod objectInit, Cond.code objectInit ⟨#[0xb1]⟩ 1 none, Cond.classLink RX6 9 RX1, Cond.instantiable RX1 2, Cond.initialized RX1, Cond.fieldLink RX6 12 "UnlikeUnion" "list" "LUnlikeUnion$Jobs;", Cond.classLink RX6 16 RX2, Cond.instantiable RX2 5, Cond.initialized RX2, Cond.fieldLink RX6 19 "UnlikeUnion" "own" "LUnlikeUnion$OwnPlan;", Cond.classLink RX6 23 RX3, Cond.instantiable RX3 4, Cond.initialized RX3, Cond.fieldLink RX6 26 "UnlikeUnion" "search" "LUnlikeUnion$PlanSearch;", Cond.classLink RX6 30 RX0, Cond.instantiable RX0 6, Cond.initialized RX0]
def wsL_law0_r2 : List Cond := [Cond.fieldLink RX6 33 "UnlikeUnion" "division" "LUnlikeUnion$Division;", Cond.classLink RX6 37 RX4, Cond.instantiable RX4 1, Cond.initialized RX4, Cond.fieldLink RX6 40 "UnlikeUnion" "rounding" "LUnlikeUnion$Rounding;", Cond.instanceMethod yX1_init, Cond.code yX1_init cX1_init 1 none, Cond.methodLink RX1 3 objectInit, Cond.arrayClass .int, Cond.fieldLink RX1 9 "UnlikeUnion$Jobs" "times" "[I", Cond.instanceMethod yX2_init, Cond.code yX2_init cX2_init 1 none, Cond.methodLink RX2 3 objectInit, Cond.fieldLink RX2 9 "UnlikeUnion$OwnPlan" "machineOf" "[I", Cond.instanceMethod yX3_init, Cond.code yX3_init cX3_init 1 none, Cond.methodLink RX3 3 objectInit, Cond.fieldLink RX3 9 "UnlikeUnion$PlanSearch" "loads" "[I", Cond.fieldLink RX3 15 "UnlikeUnion$PlanSearch" "chosen" "[I", Cond.fieldLink RX3 18 "UnlikeUnion$PlanSearch" "best" "[I", Cond.instanceMethod yX0_init, Cond.code yX0_init cX0_init 1 none, Cond.methodLink RX0 3 objectInit, Cond.classLink RX0 9 RX5]
def wsL_law0_r3 : List Cond := [Cond.instantiable RX5 5, Cond.initialized RX5, Cond.fieldLink RX0 12 "UnlikeUnion$Division" "tableau" "LUnlikeUnion$Tableau;", Cond.fieldLink RX0 18 "UnlikeUnion$Division" "numerators" "[I", Cond.fieldLink RX0 22 "UnlikeUnion$Division" "denominators" "[I", Cond.instanceMethod yX5_init, Cond.code yX5_init cX5_init 1 none, Cond.methodLink RX5 5 objectInit, Cond.classLink RX5 11 "[[J", Cond.arrayClass .long, Cond.fieldLink RX5 13 "UnlikeUnion$Tableau" "cells" "[[J", Cond.fieldLink RX5 16 "UnlikeUnion$Tableau" "basic" "[I", Cond.arrayClass .boolean, Cond.fieldLink RX5 20 "UnlikeUnion$Tableau" "allowed" "[Z", Cond.instanceMethod yX4_init, Cond.code yX4_init cX4_init 1 none, Cond.methodLink RX4 3 objectInit, Cond.fieldLink RX4 9 "UnlikeUnion$Rounding" "machineOf" "[I", Cond.methodLink RL 115 yL_divides, Cond.static yL_divides, Cond.initialized RL, Cond.code yL_divides cL_divides 17 (some .boolean), Cond.methodLink RL 71 yX6_bound, Cond.instanceMethod yX6_bound]
def wsL_law0_r4 : List Cond := [Cond.selects RX6 yX6_bound yX6_bound, Cond.code yX6_bound cX6_bound 1 (some .int), Cond.methodLink RX6 104 yX6_refreshDivision, Cond.instanceMethod yX6_refreshDivision, Cond.selects RX6 yX6_refreshDivision yX6_refreshDivision, Cond.code yX6_refreshDivision cX6_refreshDivision 1 none, Cond.fieldLink RX6 152 "UnlikeUnion" "divisionStands" "Z", Cond.methodLink RX6 159 yX0_make, Cond.instanceMethod yX0_make, Cond.selects RX0 yX0_make yX0_make, Cond.code yX0_make cX0_make 4 none, Cond.fieldLink RX0 33 "UnlikeUnion$Division" "bound" "I", Cond.methodLink RX0 25 yX0_findLeast, Cond.instanceMethod yX0_findLeast, Cond.selects RX0 yX0_findLeast yX0_findLeast, Cond.code yX0_findLeast cX0_findLeast 6 none, Cond.fieldLink RX0 60 "UnlikeUnion$Division" "leastNumerator" "I", Cond.fieldLink RX0 63 "UnlikeUnion$Division" "leastDenominator" "I", Cond.methodLink RX0 40 yX5_start, Cond.instanceMethod yX5_start, Cond.selects RX5 yX5_start yX5_start, Cond.code yX5_start cX5_start 6 (some .boolean), Cond.constantLong RX5 34 (-1), Cond.methodLink RX5 30 yX5_clear]
def wsL_law0_r5 : List Cond := [Cond.instanceMethod yX5_clear, Cond.selects RX5 yX5_clear yX5_clear, Cond.code yX5_clear cX5_clear 4 none, Cond.methodLink RX5 43 Lib.Math.min.name, Cond.static Lib.Math.min.name, Cond.initialized "java/lang/Math", Cond.code Lib.Math.min.name Lib.Math.min.code 2 (some .int), Cond.fieldLink RX5 49 "UnlikeUnion$Tableau" "rows" "I", Cond.fieldLink RX5 52 "UnlikeUnion$Tableau" "scale" "J", Cond.methodLink RX5 36 yX5_layJob, Cond.instanceMethod yX5_layJob, Cond.selects RX5 yX5_layJob yX5_layJob, Cond.code yX5_layJob cX5_layJob 8 (some .boolean), Cond.methodLink RX5 56 yX1_timeOn, Cond.instanceMethod yX1_timeOn, Cond.selects RX1 yX1_timeOn yX1_timeOn, Cond.code yX1_timeOn cX1_timeOn 3 (some .int), Cond.fieldLink RX1 15 "UnlikeUnion$Jobs" "count" "I", Cond.methodLink RX5 59 yX5_clearBasic, Cond.instanceMethod yX5_clearBasic, Cond.selects RX5 yX5_clearBasic yX5_clearBasic, Cond.code yX5_clearBasic cX5_clearBasic 7 (some .boolean), Cond.methodLink RX5 40 yX5_admitExcess, Cond.instanceMethod yX5_admitExcess]
def wsL_law0_r6 : List Cond := [Cond.selects RX5 yX5_admitExcess yX5_admitExcess, Cond.code yX5_admitExcess cX5_admitExcess 4 none, Cond.methodLink RX0 44 yX5_lowerExcess, Cond.instanceMethod yX5_lowerExcess, Cond.selects RX5 yX5_lowerExcess yX5_lowerExcess, Cond.code yX5_lowerExcess cX5_lowerExcess 4 (some .boolean), Cond.constant RX5 63 (1000000), Cond.methodLink RX5 64 yX5_rowOf, Cond.instanceMethod yX5_rowOf, Cond.selects RX5 yX5_rowOf yX5_rowOf, Cond.code yX5_rowOf cX5_rowOf 3 (some .int), Cond.methodLink RX5 68 yX5_columnWithSign, Cond.instanceMethod yX5_columnWithSign, Cond.selects RX5 yX5_columnWithSign yX5_columnWithSign, Cond.code yX5_columnWithSign cX5_columnWithSign 4 (some .int), Cond.methodLink RX5 71 yX5_enter, Cond.instanceMethod yX5_enter, Cond.selects RX5 yX5_enter yX5_enter, Cond.code yX5_enter cX5_enter 9 (some .boolean), Cond.methodLink RX5 77 yX5_leavingRow, Cond.instanceMethod yX5_leavingRow, Cond.selects RX5 yX5_leavingRow yX5_leavingRow, Cond.code yX5_leavingRow cX5_leavingRow 8 (some .int), Cond.methodLink RX0 48 yX5_scaledValue]
def wsL_law0_r7 : List Cond := [Cond.instanceMethod yX5_scaledValue, Cond.selects RX5 yX5_scaledValue yX5_scaledValue, Cond.code yX5_scaledValue cX5_scaledValue 3 (some .long), Cond.methodLink RX0 56 yX0_commonDivisor, Cond.static yX0_commonDivisor, Cond.code yX0_commonDivisor cX0_commonDivisor 11 (some .long), Cond.methodLink RX0 29 yX0_canKeep, Cond.instanceMethod yX0_canKeep, Cond.selects RX0 yX0_canKeep yX0_canKeep, Cond.code yX0_canKeep cX0_canKeep 3 (some .boolean), Cond.methodLink RX0 37 yX0_findShares, Cond.instanceMethod yX0_findShares, Cond.selects RX0 yX0_findShares yX0_findShares, Cond.code yX0_findShares cX0_findShares 8 none, Cond.methodLink RX0 71 Lib.Math.min.name, Cond.methodLink RX0 77 yX5_raise, Cond.instanceMethod yX5_raise, Cond.selects RX5 yX5_raise yX5_raise, Cond.code yX5_raise cX5_raise 5 none, Cond.methodLink RX5 74 yX5_hold, Cond.instanceMethod yX5_hold, Cond.selects RX5 yX5_hold yX5_hold, Cond.code yX5_hold cX5_hold 3 none, Cond.methodLink RX6 162 yX4_make]
def wsL_law0_r8 : List Cond := [Cond.instanceMethod yX4_make, Cond.selects RX4 yX4_make yX4_make, Cond.code yX4_make cX4_make 3 none, Cond.methodLink RX4 15 yX4_matchFrom, Cond.static yX4_matchFrom, Cond.code yX4_matchFrom cX4_matchFrom 8 (some .boolean), Cond.methodLink RX4 25 yX0_wholeMachine, Cond.instanceMethod yX0_wholeMachine, Cond.selects RX0 yX0_wholeMachine yX0_wholeMachine, Cond.code yX0_wholeMachine cX0_wholeMachine 3 (some .int), Cond.methodLink RX0 81 yX0_hasShare, Cond.instanceMethod yX0_hasShare, Cond.selects RX0 yX0_hasShare yX0_hasShare, Cond.code yX0_hasShare cX0_hasShare 3 (some .boolean), Cond.methodLink RX4 31 yX0_hasShare, Cond.methodLink RL 54 yX6_jobs, Cond.instanceMethod yX6_jobs, Cond.selects RX6 yX6_jobs yX6_jobs, Cond.code yX6_jobs cX6_jobs 1 (some .int), Cond.methodLink RL 58 yL_numerator, Cond.static yL_numerator, Cond.codeWith yL_numerator cL_numerator 4 (some .int) [(0, 6, 7, 22)], Cond.classLink RL 22 "java/lang/IndexOutOfBoundsException", Cond.methodLink RL 32 yX6_numerator]
def wsL_law0_r9 : List Cond := [Cond.instanceMethod yX6_numerator, Cond.selects RX6 yX6_numerator yX6_numerator, Cond.code yX6_numerator cX6_numerator 3 (some .int), Cond.methodLink RX6 76 yX6_requireJob, Cond.instanceMethod yX6_requireJob, Cond.selects RX6 yX6_requireJob yX6_requireJob, Cond.code yX6_requireJob cX6_requireJob 2 none, Cond.classLink RX6 141 "java/lang/IndexOutOfBoundsException", Cond.initialized "java/lang/IndexOutOfBoundsException", Cond.methodLink RX6 80 yX6_requireMachine, Cond.static yX6_requireMachine, Cond.code yX6_requireMachine cX6_requireMachine 1 none, Cond.methodLink RL 63 yL_denominator, Cond.static yL_denominator, Cond.codeWith yL_denominator cL_denominator 4 (some .int) [(0, 6, 7, 22)], Cond.methodLink RL 35 yX6_denominator, Cond.instanceMethod yX6_denominator, Cond.selects RX6 yX6_denominator yX6_denominator, Cond.code yX6_denominator cX6_denominator 3 (some .int), Cond.methodLink RL 65 yL_time, Cond.static yL_time, Cond.codeWith yL_time cL_time 4 (some .int) [(0, 6, 7, 22)], Cond.methodLink RL 24 yX6_time, Cond.instanceMethod yX6_time]
def wsL_law0_r10 : List Cond := [Cond.selects RX6 yX6_time yX6_time, Cond.code yX6_time cX6_time 3 (some .int), Cond.methodLink RX6 87 yX1_timeOn, Cond.methodLink RL 67 yL_common, Cond.static yL_common, Cond.code yL_common cL_common 10 (some .long), Cond.methodLink RL 74 yL_roundedOn, Cond.static yL_roundedOn, Cond.codeWith yL_roundedOn cL_roundedOn 3 (some .int) [(0, 5, 6, 22)], Cond.methodLink RL 42 yX6_roundedMachine, Cond.instanceMethod yX6_roundedMachine, Cond.selects RX6 yX6_roundedMachine yX6_roundedMachine, Cond.code yX6_roundedMachine cX6_roundedMachine 2 (some .int), Cond.methodLink RL 78 yL_divided, Cond.static yL_divided, Cond.codeWith yL_divided cL_divided 3 (some .int) [(0, 13, 14, 22)], Cond.methodLink RL 38 yX6_isDivided, Cond.instanceMethod yX6_isDivided, Cond.selects RX6 yX6_isDivided yX6_isDivided, Cond.code yX6_isDivided cX6_isDivided 2 (some .boolean), Cond.methodLink RX6 116 yX0_wholeMachine, Cond.methodLink RL 81 yL_isWithin, Cond.static yL_isWithin, Cond.code yL_isWithin cL_isWithin 16 (some .boolean)]
def wsL_law0_r11 : List Cond := [Cond.methodLink RL 85 yX6_leastNumerator, Cond.instanceMethod yX6_leastNumerator, Cond.selects RX6 yX6_leastNumerator yX6_leastNumerator, Cond.code yX6_leastNumerator cX6_leastNumerator 1 (some .int), Cond.methodLink RL 88 yX6_leastDenominator, Cond.instanceMethod yX6_leastDenominator, Cond.selects RX6 yX6_leastDenominator yX6_leastDenominator, Cond.code yX6_leastDenominator cX6_leastDenominator 1 (some .int), Cond.methodLink RL 119 yL_plans, Cond.static yL_plans, Cond.code yL_plans cL_plans 12 (some .boolean), Cond.methodLink RL 91 yX6_shortest, Cond.instanceMethod yX6_shortest, Cond.selects RX6 yX6_shortest yX6_shortest, Cond.code yX6_shortest cX6_shortest 1 (some .int), Cond.methodLink RX6 91 yX6_refreshSearch, Cond.instanceMethod yX6_refreshSearch, Cond.selects RX6 yX6_refreshSearch yX6_refreshSearch, Cond.code yX6_refreshSearch cX6_refreshSearch 1 none, Cond.fieldLink RX6 148 "UnlikeUnion" "searchStands" "Z", Cond.methodLink RX6 155 yX3_find, Cond.instanceMethod yX3_find, Cond.selects RX3 yX3_find yX3_find, Cond.code yX3_find cX3_find 2 none]
def wsL_law0_r12 : List Cond := [Cond.fieldLink RX3 24 "UnlikeUnion$PlanSearch" "bestLength" "I", Cond.methodLink RX3 21 yX3_clearLoads, Cond.instanceMethod yX3_clearLoads, Cond.selects RX3 yX3_clearLoads yX3_clearLoads, Cond.code yX3_clearLoads cX3_clearLoads 2 none, Cond.methodLink RX3 28 yX3_searchFrom, Cond.static yX3_searchFrom, Cond.code yX3_searchFrom cX3_searchFrom 6 none, Cond.methodLink RX3 36 yX3_greatest, Cond.instanceMethod yX3_greatest, Cond.selects RX3 yX3_greatest yX3_greatest, Cond.code yX3_greatest cX3_greatest 1 (some .int), Cond.methodLink RX3 58 Lib.Math.max.name, Cond.static Lib.Math.max.name, Cond.code Lib.Math.max.name Lib.Math.max.code 2 (some .int), Cond.methodLink RX3 45 yX3_keep, Cond.instanceMethod yX3_keep, Cond.selects RX3 yX3_keep yX3_keep, Cond.code yX3_keep cX3_keep 3 none, Cond.methodLink RX3 49 yX1_timeOn, Cond.methodLink RL 94 yX6_shortestByTrying, Cond.instanceMethod yX6_shortestByTrying, Cond.selects RX6 yX6_shortestByTrying yX6_shortestByTrying, Cond.code yX6_shortestByTrying cX6_shortestByTrying 1 (some .int)]
def wsL_law0_r13 : List Cond := [Cond.methodLink RX6 97 yX3_tryAll, Cond.instanceMethod yX3_tryAll, Cond.selects RX3 yX3_tryAll yX3_tryAll, Cond.code yX3_tryAll cX3_tryAll 2 (some .int), Cond.methodLink RX3 32 yX3_tryFrom, Cond.static yX3_tryFrom, Cond.code yX3_tryFrom cX3_tryFrom 6 (some .int), Cond.methodLink RX3 53 Lib.Math.min.name, Cond.methodLink RL 97 yL_shortestOn, Cond.static yL_shortestOn, Cond.codeWith yL_shortestOn cL_shortestOn 3 (some .int) [(0, 5, 6, 22)], Cond.methodLink RL 28 yX6_shortestMachine, Cond.instanceMethod yX6_shortestMachine, Cond.selects RX6 yX6_shortestMachine yX6_shortestMachine, Cond.code yX6_shortestMachine cX6_shortestMachine 2 (some .int), Cond.methodLink RL 100 yL_machine, Cond.static yL_machine, Cond.codeWith yL_machine cL_machine 3 (some .int) [(0, 5, 6, 22)], Cond.methodLink RL 48 yX6_machine, Cond.instanceMethod yX6_machine, Cond.selects RX6 yX6_machine yX6_machine, Cond.code yX6_machine cX6_machine 2 (some .int), Cond.methodLink RL 102 yL_load, Cond.static yL_load]
def wsL_law0_r14 : List Cond := [Cond.codeWith yL_load cL_load 3 (some .int) [(0, 5, 6, 22)], Cond.methodLink RL 51 yX6_load, Cond.instanceMethod yX6_load, Cond.selects RX6 yX6_load yX6_load, Cond.code yX6_load cX6_load 2 (some .int), Cond.methodLink RX6 133 yX1_loadOn, Cond.instanceMethod yX1_loadOn, Cond.selects RX1 yX1_loadOn yX1_loadOn, Cond.code yX1_loadOn cX1_loadOn 5 (some .int), Cond.methodLink RX1 19 yX1_timeOn, Cond.methodLink RL 104 yX6_roundedLength, Cond.instanceMethod yX6_roundedLength, Cond.selects RX6 yX6_roundedLength yX6_roundedLength, Cond.code yX6_roundedLength cX6_roundedLength 1 (some .int), Cond.methodLink RX6 127 yX1_greatestLoad, Cond.instanceMethod yX1_greatestLoad, Cond.selects RX1 yX1_greatestLoad yX1_greatestLoad, Cond.code yX1_greatestLoad cX1_greatestLoad 2 (some .int), Cond.methodLink RX1 27 Lib.Math.max.name, Cond.methodLink RX1 23 yX1_loadOn, Cond.methodLink RL 107 yX6_length, Cond.instanceMethod yX6_length, Cond.selects RX6 yX6_length yX6_length, Cond.code yX6_length cX6_length 1 (some .int)]
def wsL_law0_r15 : List Cond := [Cond.methodLink RL 110 yX6_excess, Cond.instanceMethod yX6_excess, Cond.selects RX6 yX6_excess yX6_excess, Cond.code yX6_excess cX6_excess 1 (some .float), Cond.methodLink RL 122 yL_cell, Cond.static yL_cell, Cond.code yL_cell cL_cell 2 (some .int), Cond.constant RL 7 (36299), Cond.constant RL 8 (2147483647), Cond.methodLink RL 126 yL_addJob, Cond.static yL_addJob, Cond.codeWith yL_addJob cL_addJob 5 (some .int) [(0, 7, 8, 15), (0, 7, 13, 17)], Cond.classLink RL 15 "java/lang/IllegalArgumentException", Cond.classLink RL 17 "java/lang/IllegalStateException", Cond.methodLink RL 9 yX6_addJob, Cond.instanceMethod yX6_addJob, Cond.selects RX6 yX6_addJob yX6_addJob, Cond.code yX6_addJob cX6_addJob 5 (some .int), Cond.classLink RX6 48 "java/lang/IllegalArgumentException", Cond.initialized "java/lang/IllegalArgumentException", Cond.classLink RX6 61 "java/lang/IllegalStateException", Cond.initialized "java/lang/IllegalStateException", Cond.methodLink RX6 44 yX6_isTime, Cond.static yX6_isTime]
def wsL_law0_r16 : List Cond := [Cond.code yX6_isTime cX6_isTime 1 (some .boolean), Cond.methodLink RX6 73 yX6_forgetResults, Cond.instanceMethod yX6_forgetResults, Cond.selects RX6 yX6_forgetResults yX6_forgetResults, Cond.code yX6_forgetResults cX6_forgetResults 1 none, Cond.methodLink RL 129 yL_setTime, Cond.static yL_setTime, Cond.codeWith yL_setTime cL_setTime 5 (some .int) [(0, 7, 8, 22), (0, 7, 13, 15), (0, 7, 18, 17)], Cond.methodLink RL 19 yX6_setTime, Cond.instanceMethod yX6_setTime, Cond.selects RX6 yX6_setTime yX6_setTime, Cond.code yX6_setTime cX6_setTime 5 (some .int), Cond.methodLink RL 131 yX6_removeLast, Cond.instanceMethod yX6_removeLast, Cond.selects RX6 yX6_removeLast yX6_removeLast, Cond.code yX6_removeLast cX6_removeLast 1 (some .int), Cond.methodLink RL 134 yL_assign, Cond.static yL_assign, Cond.codeWith yL_assign cL_assign 4 (some .int) [(0, 6, 7, 22), (0, 6, 11, 17)], Cond.methodLink RL 45 yX6_assign, Cond.instanceMethod yX6_assign, Cond.selects RX6 yX6_assign yX6_assign, Cond.code yX6_assign cX6_assign 4 (some .int), Cond.methodLink RL 136 yX6_improve]
def wsL_law0_r17 : List Cond := [Cond.instanceMethod yX6_improve, Cond.selects RX6 yX6_improve yX6_improve, Cond.code yX6_improve cX6_improve 1 (some .int), Cond.methodLink RX6 137 yX2_makeBestChange, Cond.instanceMethod yX2_makeBestChange, Cond.selects RX2 yX2_makeBestChange yX2_makeBestChange, Cond.code yX2_makeBestChange cX2_makeBestChange 3 (some .boolean), Cond.fieldLink RX2 19 "UnlikeUnion$OwnPlan" "bestRank" "I", Cond.fieldLink RX2 23 "UnlikeUnion$OwnPlan" "bestJob" "I", Cond.fieldLink RX2 26 "UnlikeUnion$OwnPlan" "bestOther" "I", Cond.fieldLink RX2 29 "UnlikeUnion$OwnPlan" "bestMachine" "I", Cond.methodLink RX2 15 yX2_rank, Cond.instanceMethod yX2_rank, Cond.selects RX2 yX2_rank yX2_rank, Cond.code yX2_rank cX2_rank 8 (some .int), Cond.methodLink RX2 60 Lib.Math.max.name, Cond.methodLink RX2 65 Lib.Math.min.name, Cond.methodLink RX2 56 yX1_loadOn, Cond.methodLink RX2 37 yX2_meetMoves, Cond.instanceMethod yX2_meetMoves, Cond.selects RX2 yX2_meetMoves yX2_meetMoves, Cond.code yX2_meetMoves cX2_meetMoves 5 none, Cond.methodLink RX2 48 yX1_timeOn, Cond.methodLink RX2 52 yX2_meet]
def wsL_law0_r18 : List Cond := [Cond.instanceMethod yX2_meet, Cond.selects RX2 yX2_meet yX2_meet, Cond.code yX2_meet cX2_meet 5 none, Cond.methodLink RX2 41 yX2_meetSwaps, Cond.instanceMethod yX2_meetSwaps, Cond.selects RX2 yX2_meetSwaps yX2_meetSwaps, Cond.code yX2_meetSwaps cX2_meetSwaps 6 none, Cond.methodLink RX2 44 yX2_swap, Cond.instanceMethod yX2_swap, Cond.selects RX2 yX2_swap yX2_swap, Cond.code yX2_swap cX2_swap 4 none, Cond.methodLink RL 139 yX6_takeRounded, Cond.instanceMethod yX6_takeRounded, Cond.selects RX6 yX6_takeRounded yX6_takeRounded, Cond.code yX6_takeRounded cX6_takeRounded 3 (some .int)]
def wsL_law0 : List Cond := (wsL_law0_r1 ++ (wsL_law0_r2 ++ (wsL_law0_r3 ++ (wsL_law0_r4 ++ (wsL_law0_r5 ++ (wsL_law0_r6 ++ (wsL_law0_r7 ++ (wsL_law0_r8 ++ (wsL_law0_r9 ++ (wsL_law0_r10 ++ (wsL_law0_r11 ++ (wsL_law0_r12 ++ (wsL_law0_r13 ++ (wsL_law0_r14 ++ (wsL_law0_r15 ++ (wsL_law0_r16 ++ (wsL_law0_r17 ++ wsL_law0_r18))))))))))))))))) ++ wsX60 ++ wsX10 ++ wsX20 ++ wsX30 ++ wsX00 ++ wsX40 ++ wsX50 ++ ([] : List Cond)
def wsL_law : List Cond := wsL_law0 ++ (vx_atS RX6 145 "java/lang/IndexOutOfBoundsException" ["java/lang/RuntimeException", "java/lang/Exception"]).filter goodWord ++ (vx_atS RX6 52 "java/lang/IllegalArgumentException" ["java/lang/RuntimeException", "java/lang/Exception"]).filter goodWord ++ (vx_atS RX6 65 "java/lang/IllegalStateException" ["java/lang/RuntimeException", "java/lang/Exception"]).filter goodWord
end
section
set_option maxRecDepth 20000 in
theorem wsL_in_r1 : ∀ w ∈ wsL_law0_r1, w ∈ lw_tbl := fun w h => (goodIn_p wsL_law0_r1 [44, 47] (by decide +kernel) (by decide +kernel) w h).1
set_option maxRecDepth 20000 in
theorem wsL_in_r2 : ∀ w ∈ wsL_law0_r2, w ∈ lw_tbl := fun w h => (goodIn_p wsL_law0_r2 [52, 73, 96, 117] (by decide +kernel) (by decide +kernel) w h).1
set_option maxRecDepth 20000 in
theorem wsL_in_r3 : ∀ w ∈ wsL_law0_r3, w ∈ lw_tbl := fun w h => (goodIn_p wsL_law0_r3 [123, 174, 540] (by decide +kernel) (by decide +kernel) w h).1
set_option maxRecDepth 20000 in
theorem wsL_in_r4 : ∀ w ∈ wsL_law0_r4, w ∈ lw_tbl := fun w h => (goodIn_p wsL_law0_r4 [544, 222, 226, 230, 234] (by decide +kernel) (by decide +kernel) w h).1
set_option maxRecDepth 20000 in
theorem wsL_in_r5 : ∀ w ∈ wsL_law0_r5, w ∈ lw_tbl := fun w h => (goodIn_p wsL_law0_r5 [238, 241, 246, 250, 254] (by decide +kernel) (by decide +kernel) w h).1
set_option maxRecDepth 20000 in
theorem wsL_in_r6 : ∀ w ∈ wsL_law0_r6, w ∈ lw_tbl := fun w h => (goodIn_p wsL_law0_r6 [258, 262, 267, 271, 275, 279] (by decide +kernel) (by decide +kernel) w h).1
set_option maxRecDepth 20000 in
theorem wsL_in_r7 : ∀ w ∈ wsL_law0_r7, w ∈ lw_tbl := fun w h => (goodIn_p wsL_law0_r7 [283, 286, 290, 294, 299, 303] (by decide +kernel) (by decide +kernel) w h).1
set_option maxRecDepth 20000 in
theorem wsL_in_r8 : ∀ w ∈ wsL_law0_r8, w ∈ lw_tbl := fun w h => (goodIn_p wsL_law0_r8 [307, 310, 314, 318, 214] (by decide +kernel) (by decide +kernel) w h).1
set_option maxRecDepth 20000 in
theorem wsL_in_r9 : ∀ w ∈ wsL_law0_r9, w ∈ lw_tbl := fun w h => (goodIn_p wsL_law0_r9 [551, 485, 504, 558] (by decide +kernel) (by decide +kernel) w h).1
set_option maxRecDepth 20000 in
theorem wsL_in_r10 : ∀ w ∈ wsL_law0_r10, w ∈ lw_tbl := fun w h => (goodIn_p wsL_law0_r10 [515, 561, 522, 568, 572] (by decide +kernel) (by decide +kernel) w h).1
set_option maxRecDepth 20000 in
theorem wsL_in_r11 : ∀ w ∈ wsL_law0_r11, w ∈ lw_tbl := fun w h => (goodIn_p wsL_law0_r11 [576, 580, 583, 587, 591, 595] (by decide +kernel) (by decide +kernel) w h).1
set_option maxRecDepth 20000 in
theorem wsL_in_r12 : ∀ w ∈ wsL_law0_r12, w ∈ lw_tbl := fun w h => (goodIn_p wsL_law0_r12 [599, 602, 606, 331, 611, 616] (by decide +kernel) (by decide +kernel) w h).1
set_option maxRecDepth 20000 in
theorem wsL_in_r13 : ∀ w ∈ wsL_law0_r13, w ∈ lw_tbl := fun w h => (goodIn_p wsL_law0_r13 [620, 623, 631, 537] (by decide +kernel) (by decide +kernel) w h).1
set_option maxRecDepth 20000 in
theorem wsL_in_r14 : ∀ w ∈ wsL_law0_r14, w ∈ lw_tbl := fun w h => (goodIn_p wsL_law0_r14 [638, 327, 218, 323, 335] (by decide +kernel) (by decide +kernel) w h).1
set_option maxRecDepth 20000 in
theorem wsL_in_r15 : ∀ w ∈ wsL_law0_r15, w ∈ lw_tbl := fun w h => (goodIn_p wsL_law0_r15 [643, 374, 385] (by decide +kernel) (by decide +kernel) w h).1
set_option maxRecDepth 20000 in
theorem wsL_in_r16 : ∀ w ∈ wsL_law0_r16, w ∈ lw_tbl := fun w h => (goodIn_p wsL_law0_r16 [388, 210, 481, 206, 529] (by decide +kernel) (by decide +kernel) w h).1
set_option maxRecDepth 20000 in
theorem wsL_in_r17 : ∀ w ∈ wsL_law0_r17, w ∈ lw_tbl := fun w h => (goodIn_p wsL_law0_r17 [339, 343, 347, 354] (by decide +kernel) (by decide +kernel) w h).1
set_option maxRecDepth 20000 in
theorem wsL_in_r18 : ∀ w ∈ wsL_law0_r18, w ∈ lw_tbl := fun w h => (goodIn_p wsL_law0_r18 [359, 363, 367, 371] (by decide +kernel) (by decide +kernel) w h).1
set_option maxRecDepth 20000 in
theorem wsL_in_wsX60 : ∀ w ∈ wsX60, w ∈ lw_tbl := by decide +kernel
set_option maxRecDepth 20000 in
theorem wsL_in_wsX10 : ∀ w ∈ wsX10, w ∈ lw_tbl := by decide +kernel
set_option maxRecDepth 20000 in
theorem wsL_in_wsX20 : ∀ w ∈ wsX20, w ∈ lw_tbl := by decide +kernel
set_option maxRecDepth 20000 in
theorem wsL_in_wsX30 : ∀ w ∈ wsX30, w ∈ lw_tbl := by decide +kernel
set_option maxRecDepth 20000 in
theorem wsL_in_wsX00 : ∀ w ∈ wsX00, w ∈ lw_tbl := by decide +kernel
set_option maxRecDepth 20000 in
theorem wsL_in_wsX40 : ∀ w ∈ wsX40, w ∈ lw_tbl := by decide +kernel
set_option maxRecDepth 20000 in
theorem wsL_in_wsX50 : ∀ w ∈ wsX50, w ∈ lw_tbl := by decide +kernel
theorem wsL_law_in0 : ∀ w ∈ wsL_law0, w ∈ lw_tbl := List.forall_mem_append.mpr ⟨List.forall_mem_append.mpr ⟨List.forall_mem_append.mpr ⟨List.forall_mem_append.mpr ⟨List.forall_mem_append.mpr ⟨List.forall_mem_append.mpr ⟨List.forall_mem_append.mpr ⟨List.forall_mem_append.mpr ⟨List.forall_mem_append.mpr ⟨wsL_in_r1, List.forall_mem_append.mpr ⟨wsL_in_r2, List.forall_mem_append.mpr ⟨wsL_in_r3, List.forall_mem_append.mpr ⟨wsL_in_r4, List.forall_mem_append.mpr ⟨wsL_in_r5, List.forall_mem_append.mpr ⟨wsL_in_r6, List.forall_mem_append.mpr ⟨wsL_in_r7, List.forall_mem_append.mpr ⟨wsL_in_r8, List.forall_mem_append.mpr ⟨wsL_in_r9, List.forall_mem_append.mpr ⟨wsL_in_r10, List.forall_mem_append.mpr ⟨wsL_in_r11, List.forall_mem_append.mpr ⟨wsL_in_r12, List.forall_mem_append.mpr ⟨wsL_in_r13, List.forall_mem_append.mpr ⟨wsL_in_r14, List.forall_mem_append.mpr ⟨wsL_in_r15, List.forall_mem_append.mpr ⟨wsL_in_r16, List.forall_mem_append.mpr ⟨wsL_in_r17, wsL_in_r18⟩⟩⟩⟩⟩⟩⟩⟩⟩⟩⟩⟩⟩⟩⟩⟩⟩, wsL_in_wsX60⟩, wsL_in_wsX10⟩, wsL_in_wsX20⟩, wsL_in_wsX30⟩, wsL_in_wsX00⟩, wsL_in_wsX40⟩, wsL_in_wsX50⟩, fun _ h => absurd h List.not_mem_nil⟩
theorem wsL_law_x0 : ∀ w ∈ (vx_atS RX6 145 "java/lang/IndexOutOfBoundsException" ["java/lang/RuntimeException", "java/lang/Exception"]).filter goodWord, w ∈ lw_tbl := by decide +kernel
theorem wsL_law_x1 : ∀ w ∈ (vx_atS RX6 52 "java/lang/IllegalArgumentException" ["java/lang/RuntimeException", "java/lang/Exception"]).filter goodWord, w ∈ lw_tbl := by decide +kernel
theorem wsL_law_x2 : ∀ w ∈ (vx_atS RX6 65 "java/lang/IllegalStateException" ["java/lang/RuntimeException", "java/lang/Exception"]).filter goodWord, w ∈ lw_tbl := by decide +kernel
theorem wsL_law_in : ∀ w ∈ wsL_law, w ∈ lw_tbl := fun w h => (List.mem_append.mp h).elim (fun h => (List.mem_append.mp h).elim (fun h => (List.mem_append.mp h).elim (fun h => wsL_law_in0 w h) (fun h => wsL_law_x0 w h)) (fun h => wsL_law_x1 w h)) (fun h => wsL_law_x2 w h)
theorem inlX0 : ∀ w ∈ wsX00, w ∈ wsL_law := fun _ h => List.mem_append_left _ (List.mem_append_left _ (List.mem_append_left _ (List.mem_append_left _ (List.mem_append_left _ (List.mem_append_left _ (List.mem_append_right _ h))))))
theorem inX0 : ∀ w ∈ wsX00, w ∈ lw_tbl := fun w h => wsL_law_in w (inlX0 w h)
theorem inlX1 : ∀ w ∈ wsX10, w ∈ wsL_law := fun _ h => List.mem_append_left _ (List.mem_append_left _ (List.mem_append_left _ (List.mem_append_left _ (List.mem_append_left _ (List.mem_append_left _ (List.mem_append_left _ (List.mem_append_left _ (List.mem_append_left _ (List.mem_append_right _ h)))))))))
theorem inX1 : ∀ w ∈ wsX10, w ∈ lw_tbl := fun w h => wsL_law_in w (inlX1 w h)
theorem inlX2 : ∀ w ∈ wsX20, w ∈ wsL_law := fun _ h => List.mem_append_left _ (List.mem_append_left _ (List.mem_append_left _ (List.mem_append_left _ (List.mem_append_left _ (List.mem_append_left _ (List.mem_append_left _ (List.mem_append_left _ (List.mem_append_right _ h))))))))
theorem inX2 : ∀ w ∈ wsX20, w ∈ lw_tbl := fun w h => wsL_law_in w (inlX2 w h)
theorem inlX3 : ∀ w ∈ wsX30, w ∈ wsL_law := fun _ h => List.mem_append_left _ (List.mem_append_left _ (List.mem_append_left _ (List.mem_append_left _ (List.mem_append_left _ (List.mem_append_left _ (List.mem_append_left _ (List.mem_append_right _ h)))))))
theorem inX3 : ∀ w ∈ wsX30, w ∈ lw_tbl := fun w h => wsL_law_in w (inlX3 w h)
theorem inlX4 : ∀ w ∈ wsX40, w ∈ wsL_law := fun _ h => List.mem_append_left _ (List.mem_append_left _ (List.mem_append_left _ (List.mem_append_left _ (List.mem_append_left _ (List.mem_append_right _ h)))))
theorem inX4 : ∀ w ∈ wsX40, w ∈ lw_tbl := fun w h => wsL_law_in w (inlX4 w h)
theorem inlX5 : ∀ w ∈ wsX50, w ∈ wsL_law := fun _ h => List.mem_append_left _ (List.mem_append_left _ (List.mem_append_left _ (List.mem_append_left _ (List.mem_append_right _ h))))
theorem inX5 : ∀ w ∈ wsX50, w ∈ lw_tbl := fun w h => wsL_law_in w (inlX5 w h)
theorem inlX6 : ∀ w ∈ wsX60, w ∈ wsL_law := fun _ h => List.mem_append_left _ (List.mem_append_left _ (List.mem_append_left _ (List.mem_append_left _ (List.mem_append_left _ (List.mem_append_left _ (List.mem_append_left _ (List.mem_append_left _ (List.mem_append_left _ (List.mem_append_left _ (List.mem_append_right _ h))))))))))
theorem inX6 : ∀ w ∈ wsX60, w ∈ lw_tbl := fun w h => wsL_law_in w (inlX6 w h)
theorem inX7 : ∀ w ∈ wsX70, w ∈ lw_tbl := by decide +kernel
theorem inJ9 : ∀ w ∈ wsJ90, w ∈ lw_tbl := by decide +kernel
theorem inJ0 : ∀ w ∈ wsJ00, w ∈ lw_tbl := by decide +kernel
abbrev vwCl : List vw_C := [(RX0, TX0, 6), (RX1, TX1, 2), (RX2, TX2, 5), (RX3, TX3, 4), (RX4, TX4, 1), (RX5, TX5, 5), (RX6, TX6, 7)]
end
section
set_option maxRecDepth 20000 in
theorem ggX0_init_X5_init : GoodIn wsX0_init wsX5_init := goodIn_r _ [12, 13, 2, 3, 14, 15, 16, 8, 17, 18, 19, 20, 21, 22, 23, 24] (by decide +kernel) (by decide +kernel)
set_option maxRecDepth 20000 in
theorem gX0_init_X5_init_n11 : GoodIn wsX0_init (wsX5_init) := ggX0_init_X5_init
theorem dX0_init_0 : decode cX0_init 0 = .ok (.aload_n 0, 1) := by decide +kernel
theorem dX0_init_1 : decode cX0_init 1 = .ok (.invokespecial 3, 3) := by decide +kernel
theorem dX0_init_4 : decode cX0_init 4 = .ok (.aload_n 0, 1) := by decide +kernel
theorem dX0_init_5 : decode cX0_init 5 = .ok (.new 9, 3) := by decide +kernel
theorem dX0_init_8 : decode cX0_init 8 = .ok (.dup, 1) := by decide +kernel
theorem dX0_init_9 : decode cX0_init 9 = .ok (.invokespecial 11, 3) := by decide +kernel
theorem dX0_init_12 : decode cX0_init 12 = .ok (.putfield 12, 3) := by decide +kernel
theorem dX0_init_15 : decode cX0_init 15 = .ok (.aload_n 0, 1) := by decide +kernel
theorem dX0_init_16 : decode cX0_init 16 = .ok (.bipush 21, 2) := by decide +kernel
theorem dX0_init_18 : decode cX0_init 18 = .ok (.newarray .int, 2) := by decide +kernel
theorem dX0_init_20 : decode cX0_init 20 = .ok (.putfield 18, 3) := by decide +kernel
theorem dX0_init_23 : decode cX0_init 23 = .ok (.aload_n 0, 1) := by decide +kernel
theorem dX0_init_24 : decode cX0_init 24 = .ok (.bipush 21, 2) := by decide +kernel
theorem dX0_init_26 : decode cX0_init 26 = .ok (.newarray .int, 2) := by decide +kernel
theorem dX0_init_28 : decode cX0_init 28 = .ok (.putfield 22, 3) := by decide +kernel
theorem dX0_init_31 : decode cX0_init 31 = .ok (.return_, 1) := by decide +kernel
set_option maxRecDepth 20000 in
theorem ggX0_make_X0_findLeast : GoodIn wsX0_make wsX0_findLeast := goodIn_r _ [6, 7, 8, 9, 10, 11, 12, 13, 14, 15, 16, 17, 18, 19, 20, 21, 22, 23, 24, 25, 26, 27, 28, 29, 30, 31, 32, 33, 34, 35, 36, 37, 38, 39, 40, 41, 42, 43, 44, 45, 46, 47, 48, 49, 50, 51, 52, 53, 54, 55, 56, 57, 58, 59, 60, 61, 62, 63, 64, 65, 66, 67, 68, 69, 70, 71, 72, 73, 74, 5, 75, 95, 96, 97, 98, 99, 100, 101, 102, 103, 104, 105, 106, 107] (by decide +kernel) (by decide +kernel)
set_option maxRecDepth 20000 in
theorem gX0_make_X0_findLeast : GoodIn wsX0_make (wsV RX0 25 RX0 yX0_findLeast wsX0_findLeast) := goodIn_app (goodIn_of _ (by decide +kernel)) ggX0_make_X0_findLeast
set_option maxRecDepth 20000 in
theorem ggX0_make_X0_canKeep : GoodIn wsX0_make wsX0_canKeep := goodIn_r _ [79, 7, 10, 11, 12, 13, 14, 15, 16, 17, 18, 19, 20, 21, 22, 23, 24, 25, 26, 27, 28, 29, 30, 31, 32, 33, 34, 35, 36, 37, 38, 39, 40, 41, 42, 43, 44, 45, 46, 47, 48, 49, 50, 51, 52, 53, 54, 55, 56, 57, 58, 59, 60, 61, 62, 63, 64, 65, 66, 67, 68, 95, 96, 97, 98, 99, 100, 106, 107, 101, 102, 103, 104, 105] (by decide +kernel) (by decide +kernel)
set_option maxRecDepth 20000 in
theorem gX0_make_X0_canKeep : GoodIn wsX0_make (wsV RX0 29 RX0 yX0_canKeep wsX0_canKeep) := goodIn_app (goodIn_of _ (by decide +kernel)) ggX0_make_X0_canKeep
set_option maxRecDepth 20000 in
theorem ggX0_make_X0_findShares : GoodIn wsX0_make wsX0_findShares := goodIn_r _ [83, 84, 24, 25, 26, 7, 85, 86, 87, 88, 89, 13, 90, 18, 52, 53, 54, 55, 56, 27, 17, 61, 62, 63, 64, 28, 15, 65, 66, 67, 68, 57, 58, 59, 60, 91, 92, 93, 94, 69, 70, 71, 72, 73, 74, 5, 75, 106, 107, 95, 96, 97, 98, 99, 100, 101, 102, 103, 104, 105] (by decide +kernel) (by decide +kernel)
set_option maxRecDepth 20000 in
theorem gX0_make_X0_findShares : GoodIn wsX0_make (wsV RX0 37 RX0 yX0_findShares wsX0_findShares) := goodIn_app (goodIn_of _ (by decide +kernel)) ggX0_make_X0_findShares
theorem dX0_make_0 : decode cX0_make 0 = .ok (.aload_n 0, 1) := by decide +kernel
theorem dX0_make_1 : decode cX0_make 1 = .ok (.aload_n 1, 1) := by decide +kernel
theorem dX0_make_2 : decode cX0_make 2 = .ok (.invokevirtual 25, 3) := by decide +kernel
theorem dX0_make_5 : decode cX0_make 5 = .ok (.iconst (-1), 1) := by decide +kernel
theorem dX0_make_6 : decode cX0_make 6 = .ok (.istore_n 2, 1) := by decide +kernel
theorem dX0_make_7 : decode cX0_make 7 = .ok (.sipush 256, 3) := by decide +kernel
theorem dX0_make_10 : decode cX0_make 10 = .ok (.istore_n 3, 1) := by decide +kernel
theorem dX0_make_11 : decode cX0_make 11 = .ok (.iload_n 3, 1) := by decide +kernel
theorem dX0_make_12 : decode cX0_make 12 = .ok (.ifCond .le 25, 3) := by decide +kernel
theorem dX0_make_15 : decode cX0_make 15 = .ok (.aload_n 0, 1) := by decide +kernel
theorem dX0_make_16 : decode cX0_make 16 = .ok (.aload_n 1, 1) := by decide +kernel
theorem dX0_make_17 : decode cX0_make 17 = .ok (.iload_n 2, 1) := by decide +kernel
theorem dX0_make_18 : decode cX0_make 18 = .ok (.iload_n 3, 1) := by decide +kernel
theorem dX0_make_19 : decode cX0_make 19 = .ok (.iadd, 1) := by decide +kernel
theorem dX0_make_20 : decode cX0_make 20 = .ok (.invokevirtual 29, 3) := by decide +kernel
theorem dX0_make_23 : decode cX0_make 23 = .ok (.ifCond .ne 7, 3) := by decide +kernel
theorem dX0_make_26 : decode cX0_make 26 = .ok (.iload_n 2, 1) := by decide +kernel
theorem dX0_make_27 : decode cX0_make 27 = .ok (.iload_n 3, 1) := by decide +kernel
theorem dX0_make_28 : decode cX0_make 28 = .ok (.iadd, 1) := by decide +kernel
theorem dX0_make_29 : decode cX0_make 29 = .ok (.istore_n 2, 1) := by decide +kernel
theorem dX0_make_30 : decode cX0_make 30 = .ok (.iload_n 3, 1) := by decide +kernel
theorem dX0_make_31 : decode cX0_make 31 = .ok (.iconst 2, 1) := by decide +kernel
theorem dX0_make_32 : decode cX0_make 32 = .ok (.idiv, 1) := by decide +kernel
theorem dX0_make_33 : decode cX0_make 33 = .ok (.istore_n 3, 1) := by decide +kernel
theorem dX0_make_34 : decode cX0_make 34 = .ok (.goto (-23), 3) := by decide +kernel
theorem dX0_make_37 : decode cX0_make 37 = .ok (.aload_n 0, 1) := by decide +kernel
theorem dX0_make_38 : decode cX0_make 38 = .ok (.iload_n 2, 1) := by decide +kernel
theorem dX0_make_39 : decode cX0_make 39 = .ok (.iconst 1, 1) := by decide +kernel
theorem dX0_make_40 : decode cX0_make 40 = .ok (.iadd, 1) := by decide +kernel
theorem dX0_make_41 : decode cX0_make 41 = .ok (.putfield 33, 3) := by decide +kernel
theorem dX0_make_44 : decode cX0_make 44 = .ok (.aload_n 0, 1) := by decide +kernel
theorem dX0_make_45 : decode cX0_make 45 = .ok (.aload_n 1, 1) := by decide +kernel
theorem dX0_make_46 : decode cX0_make 46 = .ok (.aload_n 0, 1) := by decide +kernel
theorem dX0_make_47 : decode cX0_make 47 = .ok (.getfield 33, 3) := by decide +kernel
theorem dX0_make_50 : decode cX0_make 50 = .ok (.invokevirtual 29, 3) := by decide +kernel
theorem dX0_make_53 : decode cX0_make 53 = .ok (.ifCond .eq 8, 3) := by decide +kernel
theorem dX0_make_56 : decode cX0_make 56 = .ok (.aload_n 0, 1) := by decide +kernel
theorem dX0_make_57 : decode cX0_make 57 = .ok (.aload_n 1, 1) := by decide +kernel
theorem dX0_make_58 : decode cX0_make 58 = .ok (.invokevirtual 37, 3) := by decide +kernel
theorem dX0_make_61 : decode cX0_make 61 = .ok (.return_, 1) := by decide +kernel
set_option maxRecDepth 20000 in
theorem ggX0_findLeast_X5_start : GoodIn wsX0_findLeast wsX5_start := goodIn_r _ [8, 9, 10, 11, 12, 13, 14, 15, 7, 16, 17, 18, 19, 20, 21, 22, 23, 24, 25, 26, 27, 28, 29, 30, 31, 32, 33, 34, 35, 36, 37, 38, 39, 40, 41, 82, 83, 77, 78, 79, 80, 81] (by decide +kernel) (by decide +kernel)
set_option maxRecDepth 20000 in
theorem gX0_findLeast_X5_start : GoodIn wsX0_findLeast (wsV RX0 40 RX5 yX5_start wsX5_start) := goodIn_app (goodIn_of _ (by decide +kernel)) ggX0_findLeast_X5_start
set_option maxRecDepth 20000 in
theorem ggX0_findLeast_X5_lowerExcess : GoodIn wsX0_findLeast wsX5_lowerExcess := goodIn_r _ [45, 46, 47, 48, 49, 7, 50, 21, 11, 51, 52, 53, 54, 12, 9, 55, 56, 57, 58, 22, 59, 60, 61, 62, 77, 78, 79, 80, 81] (by decide +kernel) (by decide +kernel)
set_option maxRecDepth 20000 in
theorem gX0_findLeast_X5_lowerExcess : GoodIn wsX0_findLeast (wsV RX0 44 RX5 yX5_lowerExcess wsX5_lowerExcess) := goodIn_app (goodIn_of _ (by decide +kernel)) ggX0_findLeast_X5_lowerExcess
set_option maxRecDepth 20000 in
theorem ggX0_findLeast_X5_scaledValue : GoodIn wsX0_findLeast wsX5_scaledValue := goodIn_r _ [66, 9, 47, 48, 49, 7, 50, 21, 11, 77, 78, 79, 80, 81] (by decide +kernel) (by decide +kernel)
set_option maxRecDepth 20000 in
theorem gX0_findLeast_X5_scaledValue : GoodIn wsX0_findLeast (wsV RX0 48 RX5 yX5_scaledValue wsX5_scaledValue) := goodIn_app (goodIn_of _ (by decide +kernel)) ggX0_findLeast_X5_scaledValue
set_option maxRecDepth 20000 in
theorem ggX0_findLeast_X0_commonDivisor : GoodIn wsX0_findLeast wsX0_commonDivisor := goodIn_r _ [70] (by decide +kernel) (by decide +kernel)
set_option maxRecDepth 20000 in
theorem gX0_findLeast_X0_commonDivisor : GoodIn wsX0_findLeast (va_wsS RX0 56 yX0_commonDivisor wsX0_commonDivisor) := goodIn_app (goodIn_of _ (by decide +kernel)) ggX0_findLeast_X0_commonDivisor
theorem dX0_findLeast_0 : decode cX0_findLeast 0 = .ok (.aload_n 0, 1) := by decide +kernel
theorem dX0_findLeast_1 : decode cX0_findLeast 1 = .ok (.getfield 12, 3) := by decide +kernel
theorem dX0_findLeast_4 : decode cX0_findLeast 4 = .ok (.aload_n 1, 1) := by decide +kernel
theorem dX0_findLeast_5 : decode cX0_findLeast 5 = .ok (.iconst 0, 1) := by decide +kernel
theorem dX0_findLeast_6 : decode cX0_findLeast 6 = .ok (.bipush 50, 2) := by decide +kernel
theorem dX0_findLeast_8 : decode cX0_findLeast 8 = .ok (.invokevirtual 40, 3) := by decide +kernel
theorem dX0_findLeast_11 : decode cX0_findLeast 11 = .ok (.pop, 1) := by decide +kernel
theorem dX0_findLeast_12 : decode cX0_findLeast 12 = .ok (.aload_n 0, 1) := by decide +kernel
theorem dX0_findLeast_13 : decode cX0_findLeast 13 = .ok (.getfield 12, 3) := by decide +kernel
theorem dX0_findLeast_16 : decode cX0_findLeast 16 = .ok (.invokevirtual 44, 3) := by decide +kernel
theorem dX0_findLeast_19 : decode cX0_findLeast 19 = .ok (.pop, 1) := by decide +kernel
theorem dX0_findLeast_20 : decode cX0_findLeast 20 = .ok (.aload_n 0, 1) := by decide +kernel
theorem dX0_findLeast_21 : decode cX0_findLeast 21 = .ok (.getfield 12, 3) := by decide +kernel
theorem dX0_findLeast_24 : decode cX0_findLeast 24 = .ok (.bipush 24, 2) := by decide +kernel
theorem dX0_findLeast_26 : decode cX0_findLeast 26 = .ok (.invokevirtual 48, 3) := by decide +kernel
theorem dX0_findLeast_29 : decode cX0_findLeast 29 = .ok (.lstore_n 2, 1) := by decide +kernel
theorem dX0_findLeast_30 : decode cX0_findLeast 30 = .ok (.lload_n 2, 1) := by decide +kernel
theorem dX0_findLeast_31 : decode cX0_findLeast 31 = .ok (.aload_n 0, 1) := by decide +kernel
theorem dX0_findLeast_32 : decode cX0_findLeast 32 = .ok (.getfield 12, 3) := by decide +kernel
theorem dX0_findLeast_35 : decode cX0_findLeast 35 = .ok (.getfield 52, 3) := by decide +kernel
theorem dX0_findLeast_38 : decode cX0_findLeast 38 = .ok (.invokestatic 56, 3) := by decide +kernel
theorem dX0_findLeast_41 : decode cX0_findLeast 41 = .ok (.lstore 4, 2) := by decide +kernel
theorem dX0_findLeast_43 : decode cX0_findLeast 43 = .ok (.aload_n 0, 1) := by decide +kernel
theorem dX0_findLeast_44 : decode cX0_findLeast 44 = .ok (.lload 4, 2) := by decide +kernel
theorem dX0_findLeast_46 : decode cX0_findLeast 46 = .ok (.lconst 0, 1) := by decide +kernel
theorem dX0_findLeast_47 : decode cX0_findLeast 47 = .ok (.lcmp, 1) := by decide +kernel
theorem dX0_findLeast_48 : decode cX0_findLeast 48 = .ok (.ifCond .ne 7, 3) := by decide +kernel
theorem dX0_findLeast_51 : decode cX0_findLeast 51 = .ok (.iconst 0, 1) := by decide +kernel
theorem dX0_findLeast_52 : decode cX0_findLeast 52 = .ok (.goto 8, 3) := by decide +kernel
theorem dX0_findLeast_55 : decode cX0_findLeast 55 = .ok (.lload_n 2, 1) := by decide +kernel
theorem dX0_findLeast_56 : decode cX0_findLeast 56 = .ok (.lload 4, 2) := by decide +kernel
theorem dX0_findLeast_58 : decode cX0_findLeast 58 = .ok (.ldiv, 1) := by decide +kernel
theorem dX0_findLeast_59 : decode cX0_findLeast 59 = .ok (.l2i, 1) := by decide +kernel
theorem dX0_findLeast_60 : decode cX0_findLeast 60 = .ok (.putfield 60, 3) := by decide +kernel
theorem dX0_findLeast_63 : decode cX0_findLeast 63 = .ok (.aload_n 0, 1) := by decide +kernel
theorem dX0_findLeast_64 : decode cX0_findLeast 64 = .ok (.lload 4, 2) := by decide +kernel
theorem dX0_findLeast_66 : decode cX0_findLeast 66 = .ok (.lconst 0, 1) := by decide +kernel
theorem dX0_findLeast_67 : decode cX0_findLeast 67 = .ok (.lcmp, 1) := by decide +kernel
theorem dX0_findLeast_68 : decode cX0_findLeast 68 = .ok (.ifCond .ne 7, 3) := by decide +kernel
theorem dX0_findLeast_71 : decode cX0_findLeast 71 = .ok (.iconst 1, 1) := by decide +kernel
theorem dX0_findLeast_72 : decode cX0_findLeast 72 = .ok (.goto 14, 3) := by decide +kernel
theorem dX0_findLeast_75 : decode cX0_findLeast 75 = .ok (.aload_n 0, 1) := by decide +kernel
theorem dX0_findLeast_76 : decode cX0_findLeast 76 = .ok (.getfield 12, 3) := by decide +kernel
theorem dX0_findLeast_79 : decode cX0_findLeast 79 = .ok (.getfield 52, 3) := by decide +kernel
theorem dX0_findLeast_82 : decode cX0_findLeast 82 = .ok (.lload 4, 2) := by decide +kernel
theorem dX0_findLeast_84 : decode cX0_findLeast 84 = .ok (.ldiv, 1) := by decide +kernel
theorem dX0_findLeast_85 : decode cX0_findLeast 85 = .ok (.l2i, 1) := by decide +kernel
theorem dX0_findLeast_86 : decode cX0_findLeast 86 = .ok (.putfield 63, 3) := by decide +kernel
theorem dX0_findLeast_89 : decode cX0_findLeast 89 = .ok (.return_, 1) := by decide +kernel
set_option maxRecDepth 20000 in
theorem ggX0_canKeep_X5_start : GoodIn wsX0_canKeep wsX5_start := goodIn_r _ [6, 7, 8, 9, 10, 11, 12, 13, 5, 14, 15, 16, 17, 18, 19, 20, 21, 22, 23, 24, 25, 26, 27, 28, 29, 30, 31, 32, 33, 34, 35, 36, 37, 38, 39, 67, 68, 69, 70, 71, 72, 73] (by decide +kernel) (by decide +kernel)
set_option maxRecDepth 20000 in
theorem gX0_canKeep_X5_start : GoodIn wsX0_canKeep (wsV RX0 40 RX5 yX5_start wsX5_start) := goodIn_app (goodIn_of _ (by decide +kernel)) ggX0_canKeep_X5_start
set_option maxRecDepth 20000 in
theorem ggX0_canKeep_X5_lowerExcess : GoodIn wsX0_canKeep wsX5_lowerExcess := goodIn_r _ [43, 44, 45, 46, 47, 5, 48, 19, 9, 49, 50, 51, 52, 10, 7, 53, 54, 55, 56, 20, 57, 58, 59, 60, 69, 70, 71, 72, 73] (by decide +kernel) (by decide +kernel)
set_option maxRecDepth 20000 in
theorem gX0_canKeep_X5_lowerExcess : GoodIn wsX0_canKeep (wsV RX0 44 RX5 yX5_lowerExcess wsX5_lowerExcess) := goodIn_app (goodIn_of _ (by decide +kernel)) ggX0_canKeep_X5_lowerExcess
theorem dX0_canKeep_0 : decode cX0_canKeep 0 = .ok (.aload_n 0, 1) := by decide +kernel
theorem dX0_canKeep_1 : decode cX0_canKeep 1 = .ok (.getfield 12, 3) := by decide +kernel
theorem dX0_canKeep_4 : decode cX0_canKeep 4 = .ok (.aload_n 1, 1) := by decide +kernel
theorem dX0_canKeep_5 : decode cX0_canKeep 5 = .ok (.iload_n 2, 1) := by decide +kernel
theorem dX0_canKeep_6 : decode cX0_canKeep 6 = .ok (.iload_n 2, 1) := by decide +kernel
theorem dX0_canKeep_7 : decode cX0_canKeep 7 = .ok (.invokevirtual 40, 3) := by decide +kernel
theorem dX0_canKeep_10 : decode cX0_canKeep 10 = .ok (.ifCond .eq 17, 3) := by decide +kernel
theorem dX0_canKeep_13 : decode cX0_canKeep 13 = .ok (.aload_n 0, 1) := by decide +kernel
theorem dX0_canKeep_14 : decode cX0_canKeep 14 = .ok (.getfield 12, 3) := by decide +kernel
theorem dX0_canKeep_17 : decode cX0_canKeep 17 = .ok (.invokevirtual 44, 3) := by decide +kernel
theorem dX0_canKeep_20 : decode cX0_canKeep 20 = .ok (.ifCond .eq 7, 3) := by decide +kernel
theorem dX0_canKeep_23 : decode cX0_canKeep 23 = .ok (.iconst 1, 1) := by decide +kernel
theorem dX0_canKeep_24 : decode cX0_canKeep 24 = .ok (.goto 4, 3) := by decide +kernel
theorem dX0_canKeep_27 : decode cX0_canKeep 27 = .ok (.iconst 0, 1) := by decide +kernel
theorem dX0_canKeep_28 : decode cX0_canKeep 28 = .ok (.ireturn, 1) := by decide +kernel
set_option maxRecDepth 20000 in
theorem ggX0_findShares_X5_raise : GoodIn wsX0_findShares wsX5_raise := goodIn_r _ [12, 13, 14, 15, 16, 17, 11, 18, 19, 20, 21, 22, 23, 24, 25, 26, 27, 28, 29, 30, 31, 32, 33, 34, 35, 36, 37, 38, 55, 56, 57, 58, 59] (by decide +kernel) (by decide +kernel)
set_option maxRecDepth 20000 in
theorem gX0_findShares_X5_raise : GoodIn wsX0_findShares (wsV RX0 77 RX5 yX5_raise wsX5_raise) := goodIn_app (goodIn_of _ (by decide +kernel)) ggX0_findShares_X5_raise
set_option maxRecDepth 20000 in
theorem ggX0_findShares_X5_scaledValue : GoodIn wsX0_findShares wsX5_scaledValue := goodIn_r _ [42, 26, 15, 16, 17, 11, 18, 19, 20, 55, 56, 57, 58, 59] (by decide +kernel) (by decide +kernel)
set_option maxRecDepth 20000 in
theorem gX0_findShares_X5_scaledValue : GoodIn wsX0_findShares (wsV RX0 48 RX5 yX5_scaledValue wsX5_scaledValue) := goodIn_app (goodIn_of _ (by decide +kernel)) ggX0_findShares_X5_scaledValue
set_option maxRecDepth 20000 in
theorem ggX0_findShares_X0_commonDivisor : GoodIn wsX0_findShares wsX0_commonDivisor := goodIn_r _ [46] (by decide +kernel) (by decide +kernel)
set_option maxRecDepth 20000 in
theorem gX0_findShares_X0_commonDivisor : GoodIn wsX0_findShares (va_wsS RX0 56 yX0_commonDivisor wsX0_commonDivisor) := goodIn_app (goodIn_of _ (by decide +kernel)) ggX0_findShares_X0_commonDivisor
theorem dX0_findShares_0 : decode cX0_findShares 0 = .ok (.aload_n 1, 1) := by decide +kernel
theorem dX0_findShares_1 : decode cX0_findShares 1 = .ok (.getfield 66, 3) := by decide +kernel
theorem dX0_findShares_4 : decode cX0_findShares 4 = .ok (.iconst 3, 1) := by decide +kernel
theorem dX0_findShares_5 : decode cX0_findShares 5 = .ok (.imul, 1) := by decide +kernel
theorem dX0_findShares_6 : decode cX0_findShares 6 = .ok (.bipush 21, 2) := by decide +kernel
theorem dX0_findShares_8 : decode cX0_findShares 8 = .ok (.invokestatic 71, 3) := by decide +kernel
theorem dX0_findShares_11 : decode cX0_findShares 11 = .ok (.istore_n 2, 1) := by decide +kernel
theorem dX0_findShares_12 : decode cX0_findShares 12 = .ok (.iconst 0, 1) := by decide +kernel
theorem dX0_findShares_13 : decode cX0_findShares 13 = .ok (.istore_n 3, 1) := by decide +kernel
theorem dX0_findShares_14 : decode cX0_findShares 14 = .ok (.iload_n 3, 1) := by decide +kernel
theorem dX0_findShares_15 : decode cX0_findShares 15 = .ok (.iload_n 2, 1) := by decide +kernel
theorem dX0_findShares_16 : decode cX0_findShares 16 = .ok (.if_icmp .ge 17, 3) := by decide +kernel
theorem dX0_findShares_19 : decode cX0_findShares 19 = .ok (.aload_n 0, 1) := by decide +kernel
theorem dX0_findShares_20 : decode cX0_findShares 20 = .ok (.getfield 12, 3) := by decide +kernel
theorem dX0_findShares_23 : decode cX0_findShares 23 = .ok (.iload_n 3, 1) := by decide +kernel
theorem dX0_findShares_24 : decode cX0_findShares 24 = .ok (.invokevirtual 77, 3) := by decide +kernel
theorem dX0_findShares_27 : decode cX0_findShares 27 = .ok (.iinc 3 1, 3) := by decide +kernel
theorem dX0_findShares_30 : decode cX0_findShares 30 = .ok (.goto (-16), 3) := by decide +kernel
theorem dX0_findShares_33 : decode cX0_findShares 33 = .ok (.iconst 0, 1) := by decide +kernel
theorem dX0_findShares_34 : decode cX0_findShares 34 = .ok (.istore_n 3, 1) := by decide +kernel
theorem dX0_findShares_35 : decode cX0_findShares 35 = .ok (.iload_n 3, 1) := by decide +kernel
theorem dX0_findShares_36 : decode cX0_findShares 36 = .ok (.iload_n 2, 1) := by decide +kernel
theorem dX0_findShares_37 : decode cX0_findShares 37 = .ok (.if_icmp .ge 84, 3) := by decide +kernel
theorem dX0_findShares_40 : decode cX0_findShares 40 = .ok (.aload_n 0, 1) := by decide +kernel
theorem dX0_findShares_41 : decode cX0_findShares 41 = .ok (.getfield 12, 3) := by decide +kernel
theorem dX0_findShares_44 : decode cX0_findShares 44 = .ok (.iload_n 3, 1) := by decide +kernel
theorem dX0_findShares_45 : decode cX0_findShares 45 = .ok (.invokevirtual 48, 3) := by decide +kernel
theorem dX0_findShares_48 : decode cX0_findShares 48 = .ok (.lstore 4, 2) := by decide +kernel
theorem dX0_findShares_50 : decode cX0_findShares 50 = .ok (.lload 4, 2) := by decide +kernel
theorem dX0_findShares_52 : decode cX0_findShares 52 = .ok (.aload_n 0, 1) := by decide +kernel
theorem dX0_findShares_53 : decode cX0_findShares 53 = .ok (.getfield 12, 3) := by decide +kernel
theorem dX0_findShares_56 : decode cX0_findShares 56 = .ok (.getfield 52, 3) := by decide +kernel
theorem dX0_findShares_59 : decode cX0_findShares 59 = .ok (.invokestatic 56, 3) := by decide +kernel
theorem dX0_findShares_62 : decode cX0_findShares 62 = .ok (.lstore 6, 2) := by decide +kernel
theorem dX0_findShares_64 : decode cX0_findShares 64 = .ok (.aload_n 0, 1) := by decide +kernel
theorem dX0_findShares_65 : decode cX0_findShares 65 = .ok (.getfield 18, 3) := by decide +kernel
theorem dX0_findShares_68 : decode cX0_findShares 68 = .ok (.iload_n 3, 1) := by decide +kernel
theorem dX0_findShares_69 : decode cX0_findShares 69 = .ok (.lload 6, 2) := by decide +kernel
theorem dX0_findShares_71 : decode cX0_findShares 71 = .ok (.lconst 0, 1) := by decide +kernel
theorem dX0_findShares_72 : decode cX0_findShares 72 = .ok (.lcmp, 1) := by decide +kernel
theorem dX0_findShares_73 : decode cX0_findShares 73 = .ok (.ifCond .ne 7, 3) := by decide +kernel
theorem dX0_findShares_76 : decode cX0_findShares 76 = .ok (.iconst 0, 1) := by decide +kernel
theorem dX0_findShares_77 : decode cX0_findShares 77 = .ok (.goto 9, 3) := by decide +kernel
theorem dX0_findShares_80 : decode cX0_findShares 80 = .ok (.lload 4, 2) := by decide +kernel
theorem dX0_findShares_82 : decode cX0_findShares 82 = .ok (.lload 6, 2) := by decide +kernel
theorem dX0_findShares_84 : decode cX0_findShares 84 = .ok (.ldiv, 1) := by decide +kernel
theorem dX0_findShares_85 : decode cX0_findShares 85 = .ok (.l2i, 1) := by decide +kernel
theorem dX0_findShares_86 : decode cX0_findShares 86 = .ok (.iastore, 1) := by decide +kernel
theorem dX0_findShares_87 : decode cX0_findShares 87 = .ok (.aload_n 0, 1) := by decide +kernel
theorem dX0_findShares_88 : decode cX0_findShares 88 = .ok (.getfield 22, 3) := by decide +kernel
theorem dX0_findShares_91 : decode cX0_findShares 91 = .ok (.iload_n 3, 1) := by decide +kernel
theorem dX0_findShares_92 : decode cX0_findShares 92 = .ok (.lload 6, 2) := by decide +kernel
theorem dX0_findShares_94 : decode cX0_findShares 94 = .ok (.lconst 0, 1) := by decide +kernel
theorem dX0_findShares_95 : decode cX0_findShares 95 = .ok (.lcmp, 1) := by decide +kernel
theorem dX0_findShares_96 : decode cX0_findShares 96 = .ok (.ifCond .ne 7, 3) := by decide +kernel
theorem dX0_findShares_99 : decode cX0_findShares 99 = .ok (.iconst 1, 1) := by decide +kernel
theorem dX0_findShares_100 : decode cX0_findShares 100 = .ok (.goto 14, 3) := by decide +kernel
theorem dX0_findShares_103 : decode cX0_findShares 103 = .ok (.aload_n 0, 1) := by decide +kernel
theorem dX0_findShares_104 : decode cX0_findShares 104 = .ok (.getfield 12, 3) := by decide +kernel
theorem dX0_findShares_107 : decode cX0_findShares 107 = .ok (.getfield 52, 3) := by decide +kernel
theorem dX0_findShares_110 : decode cX0_findShares 110 = .ok (.lload 6, 2) := by decide +kernel
theorem dX0_findShares_112 : decode cX0_findShares 112 = .ok (.ldiv, 1) := by decide +kernel
theorem dX0_findShares_113 : decode cX0_findShares 113 = .ok (.l2i, 1) := by decide +kernel
theorem dX0_findShares_114 : decode cX0_findShares 114 = .ok (.iastore, 1) := by decide +kernel
theorem dX0_findShares_115 : decode cX0_findShares 115 = .ok (.iinc 3 1, 3) := by decide +kernel
theorem dX0_findShares_118 : decode cX0_findShares 118 = .ok (.goto (-83), 3) := by decide +kernel
theorem dX0_findShares_121 : decode cX0_findShares 121 = .ok (.return_, 1) := by decide +kernel
set_option maxRecDepth 20000 in
theorem ggX0_wholeMachine_X0_hasShare : GoodIn wsX0_wholeMachine wsX0_hasShare := goodIn_r _ [6, 7, 8, 9, 10, 11, 12, 13] (by decide +kernel) (by decide +kernel)
set_option maxRecDepth 20000 in
theorem gX0_wholeMachine_X0_hasShare : GoodIn wsX0_wholeMachine (wsV RX0 81 RX0 yX0_hasShare wsX0_hasShare) := goodIn_app (goodIn_of _ (by decide +kernel)) ggX0_wholeMachine_X0_hasShare
theorem dX0_wholeMachine_0 : decode cX0_wholeMachine 0 = .ok (.iconst 0, 1) := by decide +kernel
theorem dX0_wholeMachine_1 : decode cX0_wholeMachine 1 = .ok (.istore_n 2, 1) := by decide +kernel
theorem dX0_wholeMachine_2 : decode cX0_wholeMachine 2 = .ok (.iload_n 2, 1) := by decide +kernel
theorem dX0_wholeMachine_3 : decode cX0_wholeMachine 3 = .ok (.iconst 3, 1) := by decide +kernel
theorem dX0_wholeMachine_4 : decode cX0_wholeMachine 4 = .ok (.if_icmp .ge 34, 3) := by decide +kernel
theorem dX0_wholeMachine_7 : decode cX0_wholeMachine 7 = .ok (.aload_n 0, 1) := by decide +kernel
theorem dX0_wholeMachine_8 : decode cX0_wholeMachine 8 = .ok (.iload_n 1, 1) := by decide +kernel
theorem dX0_wholeMachine_9 : decode cX0_wholeMachine 9 = .ok (.iload_n 2, 1) := by decide +kernel
theorem dX0_wholeMachine_10 : decode cX0_wholeMachine 10 = .ok (.invokevirtual 81, 3) := by decide +kernel
theorem dX0_wholeMachine_13 : decode cX0_wholeMachine 13 = .ok (.ifCond .eq 19, 3) := by decide +kernel
theorem dX0_wholeMachine_16 : decode cX0_wholeMachine 16 = .ok (.aload_n 0, 1) := by decide +kernel
theorem dX0_wholeMachine_17 : decode cX0_wholeMachine 17 = .ok (.getfield 22, 3) := by decide +kernel
theorem dX0_wholeMachine_20 : decode cX0_wholeMachine 20 = .ok (.iload_n 1, 1) := by decide +kernel
theorem dX0_wholeMachine_21 : decode cX0_wholeMachine 21 = .ok (.iconst 3, 1) := by decide +kernel
theorem dX0_wholeMachine_22 : decode cX0_wholeMachine 22 = .ok (.imul, 1) := by decide +kernel
theorem dX0_wholeMachine_23 : decode cX0_wholeMachine 23 = .ok (.iload_n 2, 1) := by decide +kernel
theorem dX0_wholeMachine_24 : decode cX0_wholeMachine 24 = .ok (.iadd, 1) := by decide +kernel
theorem dX0_wholeMachine_25 : decode cX0_wholeMachine 25 = .ok (.iaload, 1) := by decide +kernel
theorem dX0_wholeMachine_26 : decode cX0_wholeMachine 26 = .ok (.iconst 1, 1) := by decide +kernel
theorem dX0_wholeMachine_27 : decode cX0_wholeMachine 27 = .ok (.if_icmp .ne 5, 3) := by decide +kernel
theorem dX0_wholeMachine_30 : decode cX0_wholeMachine 30 = .ok (.iload_n 2, 1) := by decide +kernel
theorem dX0_wholeMachine_31 : decode cX0_wholeMachine 31 = .ok (.ireturn, 1) := by decide +kernel
theorem dX0_wholeMachine_32 : decode cX0_wholeMachine 32 = .ok (.iinc 2 1, 3) := by decide +kernel
theorem dX0_wholeMachine_35 : decode cX0_wholeMachine 35 = .ok (.goto (-33), 3) := by decide +kernel
theorem dX0_wholeMachine_38 : decode cX0_wholeMachine 38 = .ok (.iconst (-1), 1) := by decide +kernel
theorem dX0_wholeMachine_39 : decode cX0_wholeMachine 39 = .ok (.ireturn, 1) := by decide +kernel
theorem dX0_hasShare_0 : decode cX0_hasShare 0 = .ok (.iload_n 1, 1) := by decide +kernel
theorem dX0_hasShare_1 : decode cX0_hasShare 1 = .ok (.ifCond .lt 35, 3) := by decide +kernel
theorem dX0_hasShare_4 : decode cX0_hasShare 4 = .ok (.iload_n 1, 1) := by decide +kernel
theorem dX0_hasShare_5 : decode cX0_hasShare 5 = .ok (.bipush 7, 2) := by decide +kernel
theorem dX0_hasShare_7 : decode cX0_hasShare 7 = .ok (.if_icmp .ge 29, 3) := by decide +kernel
theorem dX0_hasShare_10 : decode cX0_hasShare 10 = .ok (.iload_n 2, 1) := by decide +kernel
theorem dX0_hasShare_11 : decode cX0_hasShare 11 = .ok (.ifCond .lt 25, 3) := by decide +kernel
theorem dX0_hasShare_14 : decode cX0_hasShare 14 = .ok (.iload_n 2, 1) := by decide +kernel
theorem dX0_hasShare_15 : decode cX0_hasShare 15 = .ok (.iconst 3, 1) := by decide +kernel
theorem dX0_hasShare_16 : decode cX0_hasShare 16 = .ok (.if_icmp .ge 20, 3) := by decide +kernel
theorem dX0_hasShare_19 : decode cX0_hasShare 19 = .ok (.aload_n 0, 1) := by decide +kernel
theorem dX0_hasShare_20 : decode cX0_hasShare 20 = .ok (.getfield 18, 3) := by decide +kernel
theorem dX0_hasShare_23 : decode cX0_hasShare 23 = .ok (.iload_n 1, 1) := by decide +kernel
theorem dX0_hasShare_24 : decode cX0_hasShare 24 = .ok (.iconst 3, 1) := by decide +kernel
theorem dX0_hasShare_25 : decode cX0_hasShare 25 = .ok (.imul, 1) := by decide +kernel
theorem dX0_hasShare_26 : decode cX0_hasShare 26 = .ok (.iload_n 2, 1) := by decide +kernel
theorem dX0_hasShare_27 : decode cX0_hasShare 27 = .ok (.iadd, 1) := by decide +kernel
theorem dX0_hasShare_28 : decode cX0_hasShare 28 = .ok (.iaload, 1) := by decide +kernel
theorem dX0_hasShare_29 : decode cX0_hasShare 29 = .ok (.ifCond .le 7, 3) := by decide +kernel
theorem dX0_hasShare_32 : decode cX0_hasShare 32 = .ok (.iconst 1, 1) := by decide +kernel
theorem dX0_hasShare_33 : decode cX0_hasShare 33 = .ok (.goto 4, 3) := by decide +kernel
theorem dX0_hasShare_36 : decode cX0_hasShare 36 = .ok (.iconst 0, 1) := by decide +kernel
theorem dX0_hasShare_37 : decode cX0_hasShare 37 = .ok (.ireturn, 1) := by decide +kernel
theorem dX0_commonDivisor_0 : decode cX0_commonDivisor 0 = .ok (.lload_n 0, 1) := by decide +kernel
theorem dX0_commonDivisor_1 : decode cX0_commonDivisor 1 = .ok (.lstore 4, 2) := by decide +kernel
theorem dX0_commonDivisor_3 : decode cX0_commonDivisor 3 = .ok (.lload_n 2, 1) := by decide +kernel
theorem dX0_commonDivisor_4 : decode cX0_commonDivisor 4 = .ok (.lstore 6, 2) := by decide +kernel
theorem dX0_commonDivisor_6 : decode cX0_commonDivisor 6 = .ok (.iconst 0, 1) := by decide +kernel
theorem dX0_commonDivisor_7 : decode cX0_commonDivisor 7 = .ok (.istore 8, 2) := by decide +kernel
theorem dX0_commonDivisor_9 : decode cX0_commonDivisor 9 = .ok (.iload 8, 2) := by decide +kernel
theorem dX0_commonDivisor_11 : decode cX0_commonDivisor 11 = .ok (.sipush 1000, 3) := by decide +kernel
theorem dX0_commonDivisor_14 : decode cX0_commonDivisor 14 = .ok (.if_icmp .ge 31, 3) := by decide +kernel
theorem dX0_commonDivisor_17 : decode cX0_commonDivisor 17 = .ok (.lload 6, 2) := by decide +kernel
theorem dX0_commonDivisor_19 : decode cX0_commonDivisor 19 = .ok (.lconst 0, 1) := by decide +kernel
theorem dX0_commonDivisor_20 : decode cX0_commonDivisor 20 = .ok (.lcmp, 1) := by decide +kernel
theorem dX0_commonDivisor_21 : decode cX0_commonDivisor 21 = .ok (.ifCond .eq 24, 3) := by decide +kernel
theorem dX0_commonDivisor_24 : decode cX0_commonDivisor 24 = .ok (.lload 4, 2) := by decide +kernel
theorem dX0_commonDivisor_26 : decode cX0_commonDivisor 26 = .ok (.lload 6, 2) := by decide +kernel
theorem dX0_commonDivisor_28 : decode cX0_commonDivisor 28 = .ok (.lrem, 1) := by decide +kernel
theorem dX0_commonDivisor_29 : decode cX0_commonDivisor 29 = .ok (.lstore 9, 2) := by decide +kernel
theorem dX0_commonDivisor_31 : decode cX0_commonDivisor 31 = .ok (.lload 6, 2) := by decide +kernel
theorem dX0_commonDivisor_33 : decode cX0_commonDivisor 33 = .ok (.lstore 4, 2) := by decide +kernel
theorem dX0_commonDivisor_35 : decode cX0_commonDivisor 35 = .ok (.lload 9, 2) := by decide +kernel
theorem dX0_commonDivisor_37 : decode cX0_commonDivisor 37 = .ok (.lstore 6, 2) := by decide +kernel
theorem dX0_commonDivisor_39 : decode cX0_commonDivisor 39 = .ok (.iinc 8 1, 3) := by decide +kernel
theorem dX0_commonDivisor_42 : decode cX0_commonDivisor 42 = .ok (.goto (-33), 3) := by decide +kernel
theorem dX0_commonDivisor_45 : decode cX0_commonDivisor 45 = .ok (.lload 4, 2) := by decide +kernel
theorem dX0_commonDivisor_47 : decode cX0_commonDivisor 47 = .ok (.lreturn, 1) := by decide +kernel
theorem dX1_init_0 : decode cX1_init 0 = .ok (.aload_n 0, 1) := by decide +kernel
theorem dX1_init_1 : decode cX1_init 1 = .ok (.invokespecial 3, 3) := by decide +kernel
theorem dX1_init_4 : decode cX1_init 4 = .ok (.aload_n 0, 1) := by decide +kernel
theorem dX1_init_5 : decode cX1_init 5 = .ok (.bipush 21, 2) := by decide +kernel
theorem dX1_init_7 : decode cX1_init 7 = .ok (.newarray .int, 2) := by decide +kernel
theorem dX1_init_9 : decode cX1_init 9 = .ok (.putfield 9, 3) := by decide +kernel
theorem dX1_init_12 : decode cX1_init 12 = .ok (.return_, 1) := by decide +kernel
theorem dX1_timeOn_0 : decode cX1_timeOn 0 = .ok (.iload_n 1, 1) := by decide +kernel
theorem dX1_timeOn_1 : decode cX1_timeOn 1 = .ok (.ifCond .lt 26, 3) := by decide +kernel
theorem dX1_timeOn_4 : decode cX1_timeOn 4 = .ok (.iload_n 1, 1) := by decide +kernel
theorem dX1_timeOn_5 : decode cX1_timeOn 5 = .ok (.aload_n 0, 1) := by decide +kernel
theorem dX1_timeOn_6 : decode cX1_timeOn 6 = .ok (.getfield 15, 3) := by decide +kernel
theorem dX1_timeOn_9 : decode cX1_timeOn 9 = .ok (.if_icmp .ge 18, 3) := by decide +kernel
theorem dX1_timeOn_12 : decode cX1_timeOn 12 = .ok (.iload_n 1, 1) := by decide +kernel
theorem dX1_timeOn_13 : decode cX1_timeOn 13 = .ok (.bipush 7, 2) := by decide +kernel
theorem dX1_timeOn_15 : decode cX1_timeOn 15 = .ok (.if_icmp .ge 12, 3) := by decide +kernel
theorem dX1_timeOn_18 : decode cX1_timeOn 18 = .ok (.iload_n 2, 1) := by decide +kernel
theorem dX1_timeOn_19 : decode cX1_timeOn 19 = .ok (.ifCond .lt 8, 3) := by decide +kernel
theorem dX1_timeOn_22 : decode cX1_timeOn 22 = .ok (.iload_n 2, 1) := by decide +kernel
theorem dX1_timeOn_23 : decode cX1_timeOn 23 = .ok (.iconst 3, 1) := by decide +kernel
theorem dX1_timeOn_24 : decode cX1_timeOn 24 = .ok (.if_icmp .lt 5, 3) := by decide +kernel
theorem dX1_timeOn_27 : decode cX1_timeOn 27 = .ok (.iconst 0, 1) := by decide +kernel
theorem dX1_timeOn_28 : decode cX1_timeOn 28 = .ok (.ireturn, 1) := by decide +kernel
theorem dX1_timeOn_29 : decode cX1_timeOn 29 = .ok (.aload_n 0, 1) := by decide +kernel
theorem dX1_timeOn_30 : decode cX1_timeOn 30 = .ok (.getfield 9, 3) := by decide +kernel
theorem dX1_timeOn_33 : decode cX1_timeOn 33 = .ok (.iload_n 1, 1) := by decide +kernel
theorem dX1_timeOn_34 : decode cX1_timeOn 34 = .ok (.iconst 3, 1) := by decide +kernel
theorem dX1_timeOn_35 : decode cX1_timeOn 35 = .ok (.imul, 1) := by decide +kernel
theorem dX1_timeOn_36 : decode cX1_timeOn 36 = .ok (.iload_n 2, 1) := by decide +kernel
theorem dX1_timeOn_37 : decode cX1_timeOn 37 = .ok (.iadd, 1) := by decide +kernel
theorem dX1_timeOn_38 : decode cX1_timeOn 38 = .ok (.iaload, 1) := by decide +kernel
theorem dX1_timeOn_39 : decode cX1_timeOn 39 = .ok (.ireturn, 1) := by decide +kernel
set_option maxRecDepth 20000 in
theorem ggX1_loadOn_X1_timeOn : GoodIn wsX1_loadOn wsX1_timeOn := goodIn_r _ [6, 1, 7, 8, 9] (by decide +kernel) (by decide +kernel)
set_option maxRecDepth 20000 in
theorem gX1_loadOn_X1_timeOn : GoodIn wsX1_loadOn (wsV RX1 19 RX1 yX1_timeOn wsX1_timeOn) := goodIn_app (goodIn_of _ (by decide +kernel)) ggX1_loadOn_X1_timeOn
theorem dX1_loadOn_0 : decode cX1_loadOn 0 = .ok (.iconst 0, 1) := by decide +kernel
theorem dX1_loadOn_1 : decode cX1_loadOn 1 = .ok (.istore_n 3, 1) := by decide +kernel
theorem dX1_loadOn_2 : decode cX1_loadOn 2 = .ok (.iconst 0, 1) := by decide +kernel
theorem dX1_loadOn_3 : decode cX1_loadOn 3 = .ok (.istore 4, 2) := by decide +kernel
theorem dX1_loadOn_5 : decode cX1_loadOn 5 = .ok (.iload 4, 2) := by decide +kernel
theorem dX1_loadOn_7 : decode cX1_loadOn 7 = .ok (.aload_n 0, 1) := by decide +kernel
theorem dX1_loadOn_8 : decode cX1_loadOn 8 = .ok (.getfield 15, 3) := by decide +kernel
theorem dX1_loadOn_11 : decode cX1_loadOn 11 = .ok (.if_icmp .ge 34, 3) := by decide +kernel
theorem dX1_loadOn_14 : decode cX1_loadOn 14 = .ok (.iload 4, 2) := by decide +kernel
theorem dX1_loadOn_16 : decode cX1_loadOn 16 = .ok (.aload_n 1, 1) := by decide +kernel
theorem dX1_loadOn_17 : decode cX1_loadOn 17 = .ok (.arraylength, 1) := by decide +kernel
theorem dX1_loadOn_18 : decode cX1_loadOn 18 = .ok (.if_icmp .ge 27, 3) := by decide +kernel
theorem dX1_loadOn_21 : decode cX1_loadOn 21 = .ok (.aload_n 1, 1) := by decide +kernel
theorem dX1_loadOn_22 : decode cX1_loadOn 22 = .ok (.iload 4, 2) := by decide +kernel
theorem dX1_loadOn_24 : decode cX1_loadOn 24 = .ok (.iaload, 1) := by decide +kernel
theorem dX1_loadOn_25 : decode cX1_loadOn 25 = .ok (.iload_n 2, 1) := by decide +kernel
theorem dX1_loadOn_26 : decode cX1_loadOn 26 = .ok (.if_icmp .ne 13, 3) := by decide +kernel
theorem dX1_loadOn_29 : decode cX1_loadOn 29 = .ok (.iload_n 3, 1) := by decide +kernel
theorem dX1_loadOn_30 : decode cX1_loadOn 30 = .ok (.aload_n 0, 1) := by decide +kernel
theorem dX1_loadOn_31 : decode cX1_loadOn 31 = .ok (.iload 4, 2) := by decide +kernel
theorem dX1_loadOn_33 : decode cX1_loadOn 33 = .ok (.iload_n 2, 1) := by decide +kernel
theorem dX1_loadOn_34 : decode cX1_loadOn 34 = .ok (.invokevirtual 19, 3) := by decide +kernel
theorem dX1_loadOn_37 : decode cX1_loadOn 37 = .ok (.iadd, 1) := by decide +kernel
theorem dX1_loadOn_38 : decode cX1_loadOn 38 = .ok (.istore_n 3, 1) := by decide +kernel
theorem dX1_loadOn_39 : decode cX1_loadOn 39 = .ok (.iinc 4 1, 3) := by decide +kernel
theorem dX1_loadOn_42 : decode cX1_loadOn 42 = .ok (.goto (-37), 3) := by decide +kernel
theorem dX1_loadOn_45 : decode cX1_loadOn 45 = .ok (.iload_n 3, 1) := by decide +kernel
theorem dX1_loadOn_46 : decode cX1_loadOn 46 = .ok (.ireturn, 1) := by decide +kernel
set_option maxRecDepth 20000 in
theorem ggX1_greatestLoad_X1_loadOn : GoodIn wsX1_greatestLoad wsX1_loadOn := goodIn_r _ [9, 10, 11, 12, 13, 8, 14, 15, 16, 17] (by decide +kernel) (by decide +kernel)
set_option maxRecDepth 20000 in
theorem gX1_greatestLoad_X1_loadOn : GoodIn wsX1_greatestLoad (wsV RX1 23 RX1 yX1_loadOn wsX1_loadOn) := goodIn_app (goodIn_of _ (by decide +kernel)) ggX1_greatestLoad_X1_loadOn
theorem dX1_greatestLoad_0 : decode cX1_greatestLoad 0 = .ok (.aload_n 0, 1) := by decide +kernel
theorem dX1_greatestLoad_1 : decode cX1_greatestLoad 1 = .ok (.aload_n 1, 1) := by decide +kernel
theorem dX1_greatestLoad_2 : decode cX1_greatestLoad 2 = .ok (.iconst 0, 1) := by decide +kernel
theorem dX1_greatestLoad_3 : decode cX1_greatestLoad 3 = .ok (.invokevirtual 23, 3) := by decide +kernel
theorem dX1_greatestLoad_6 : decode cX1_greatestLoad 6 = .ok (.aload_n 0, 1) := by decide +kernel
theorem dX1_greatestLoad_7 : decode cX1_greatestLoad 7 = .ok (.aload_n 1, 1) := by decide +kernel
theorem dX1_greatestLoad_8 : decode cX1_greatestLoad 8 = .ok (.iconst 1, 1) := by decide +kernel
theorem dX1_greatestLoad_9 : decode cX1_greatestLoad 9 = .ok (.invokevirtual 23, 3) := by decide +kernel
theorem dX1_greatestLoad_12 : decode cX1_greatestLoad 12 = .ok (.invokestatic 27, 3) := by decide +kernel
theorem dX1_greatestLoad_15 : decode cX1_greatestLoad 15 = .ok (.aload_n 0, 1) := by decide +kernel
theorem dX1_greatestLoad_16 : decode cX1_greatestLoad 16 = .ok (.aload_n 1, 1) := by decide +kernel
theorem dX1_greatestLoad_17 : decode cX1_greatestLoad 17 = .ok (.iconst 2, 1) := by decide +kernel
theorem dX1_greatestLoad_18 : decode cX1_greatestLoad 18 = .ok (.invokevirtual 23, 3) := by decide +kernel
theorem dX1_greatestLoad_21 : decode cX1_greatestLoad 21 = .ok (.invokestatic 27, 3) := by decide +kernel
theorem dX1_greatestLoad_24 : decode cX1_greatestLoad 24 = .ok (.ireturn, 1) := by decide +kernel
theorem dX2_init_0 : decode cX2_init 0 = .ok (.aload_n 0, 1) := by decide +kernel
theorem dX2_init_1 : decode cX2_init 1 = .ok (.invokespecial 3, 3) := by decide +kernel
theorem dX2_init_4 : decode cX2_init 4 = .ok (.aload_n 0, 1) := by decide +kernel
theorem dX2_init_5 : decode cX2_init 5 = .ok (.bipush 7, 2) := by decide +kernel
theorem dX2_init_7 : decode cX2_init 7 = .ok (.newarray .int, 2) := by decide +kernel
theorem dX2_init_9 : decode cX2_init 9 = .ok (.putfield 9, 3) := by decide +kernel
theorem dX2_init_12 : decode cX2_init 12 = .ok (.return_, 1) := by decide +kernel
set_option maxRecDepth 20000 in
theorem ggX2_makeBestChange_X2_rank : GoodIn wsX2_makeBestChange wsX2_rank := goodIn_r _ [10, 5, 11, 12, 13, 14, 15, 16, 17, 18, 19, 20, 21, 22, 23, 24, 25, 26, 27, 28, 46, 47, 48, 49, 50, 51, 52] (by decide +kernel) (by decide +kernel)
set_option maxRecDepth 20000 in
theorem gX2_makeBestChange_X2_rank : GoodIn wsX2_makeBestChange (wsV RX2 15 RX2 yX2_rank wsX2_rank) := goodIn_app (goodIn_of _ (by decide +kernel)) ggX2_makeBestChange_X2_rank
set_option maxRecDepth 20000 in
theorem ggX2_makeBestChange_X2_meetMoves : GoodIn wsX2_makeBestChange wsX2_meetMoves := goodIn_r _ [32, 5, 33, 25, 26, 21, 27, 23, 28, 6, 7, 8, 9, 10, 11, 12, 13, 14, 15, 16, 17, 18, 19, 20, 22, 24, 34, 35, 36, 37, 1, 2, 3, 4, 46, 47, 48, 49, 50, 51, 52] (by decide +kernel) (by decide +kernel)
set_option maxRecDepth 20000 in
theorem gX2_makeBestChange_X2_meetMoves : GoodIn wsX2_makeBestChange (wsV RX2 37 RX2 yX2_meetMoves wsX2_meetMoves) := goodIn_app (goodIn_of _ (by decide +kernel)) ggX2_makeBestChange_X2_meetMoves
set_option maxRecDepth 20000 in
theorem ggX2_makeBestChange_X2_meetSwaps : GoodIn wsX2_makeBestChange wsX2_meetSwaps := goodIn_r _ [41, 5, 33, 25, 26, 21, 27, 23, 28, 42, 43, 44, 9, 45, 6, 7, 8, 10, 11, 12, 13, 14, 15, 16, 17, 18, 19, 20, 22, 24, 34, 35, 36, 37, 1, 2, 3, 4, 51, 52, 46, 47, 48, 49, 50] (by decide +kernel) (by decide +kernel)
set_option maxRecDepth 20000 in
theorem gX2_makeBestChange_X2_meetSwaps : GoodIn wsX2_makeBestChange (wsV RX2 41 RX2 yX2_meetSwaps wsX2_meetSwaps) := goodIn_app (goodIn_of _ (by decide +kernel)) ggX2_makeBestChange_X2_meetSwaps
set_option maxRecDepth 20000 in
theorem ggX2_makeBestChange_X2_swap : GoodIn wsX2_makeBestChange wsX2_swap := goodIn_r _ [45, 5, 46, 47, 48, 49, 50] (by decide +kernel) (by decide +kernel)
set_option maxRecDepth 20000 in
theorem gX2_makeBestChange_X2_swap : GoodIn wsX2_makeBestChange (wsV RX2 44 RX2 yX2_swap wsX2_swap) := goodIn_app (goodIn_of _ (by decide +kernel)) ggX2_makeBestChange_X2_swap
theorem dX2_makeBestChange_0 : decode cX2_makeBestChange 0 = .ok (.aload_n 0, 1) := by decide +kernel
theorem dX2_makeBestChange_1 : decode cX2_makeBestChange 1 = .ok (.aload_n 0, 1) := by decide +kernel
theorem dX2_makeBestChange_2 : decode cX2_makeBestChange 2 = .ok (.aload_n 1, 1) := by decide +kernel
theorem dX2_makeBestChange_3 : decode cX2_makeBestChange 3 = .ok (.invokevirtual 15, 3) := by decide +kernel
theorem dX2_makeBestChange_6 : decode cX2_makeBestChange 6 = .ok (.putfield 19, 3) := by decide +kernel
theorem dX2_makeBestChange_9 : decode cX2_makeBestChange 9 = .ok (.aload_n 0, 1) := by decide +kernel
theorem dX2_makeBestChange_10 : decode cX2_makeBestChange 10 = .ok (.iconst (-1), 1) := by decide +kernel
theorem dX2_makeBestChange_11 : decode cX2_makeBestChange 11 = .ok (.putfield 23, 3) := by decide +kernel
theorem dX2_makeBestChange_14 : decode cX2_makeBestChange 14 = .ok (.aload_n 0, 1) := by decide +kernel
theorem dX2_makeBestChange_15 : decode cX2_makeBestChange 15 = .ok (.iconst (-1), 1) := by decide +kernel
theorem dX2_makeBestChange_16 : decode cX2_makeBestChange 16 = .ok (.putfield 26, 3) := by decide +kernel
theorem dX2_makeBestChange_19 : decode cX2_makeBestChange 19 = .ok (.aload_n 0, 1) := by decide +kernel
theorem dX2_makeBestChange_20 : decode cX2_makeBestChange 20 = .ok (.iconst (-1), 1) := by decide +kernel
theorem dX2_makeBestChange_21 : decode cX2_makeBestChange 21 = .ok (.putfield 29, 3) := by decide +kernel
theorem dX2_makeBestChange_24 : decode cX2_makeBestChange 24 = .ok (.iconst 0, 1) := by decide +kernel
theorem dX2_makeBestChange_25 : decode cX2_makeBestChange 25 = .ok (.istore_n 2, 1) := by decide +kernel
theorem dX2_makeBestChange_26 : decode cX2_makeBestChange 26 = .ok (.iload_n 2, 1) := by decide +kernel
theorem dX2_makeBestChange_27 : decode cX2_makeBestChange 27 = .ok (.aload_n 1, 1) := by decide +kernel
theorem dX2_makeBestChange_28 : decode cX2_makeBestChange 28 = .ok (.getfield 32, 3) := by decide +kernel
theorem dX2_makeBestChange_31 : decode cX2_makeBestChange 31 = .ok (.if_icmp .ge 21, 3) := by decide +kernel
theorem dX2_makeBestChange_34 : decode cX2_makeBestChange 34 = .ok (.iload_n 2, 1) := by decide +kernel
theorem dX2_makeBestChange_35 : decode cX2_makeBestChange 35 = .ok (.bipush 7, 2) := by decide +kernel
theorem dX2_makeBestChange_37 : decode cX2_makeBestChange 37 = .ok (.if_icmp .ge 15, 3) := by decide +kernel
theorem dX2_makeBestChange_40 : decode cX2_makeBestChange 40 = .ok (.aload_n 0, 1) := by decide +kernel
theorem dX2_makeBestChange_41 : decode cX2_makeBestChange 41 = .ok (.aload_n 1, 1) := by decide +kernel
theorem dX2_makeBestChange_42 : decode cX2_makeBestChange 42 = .ok (.iload_n 2, 1) := by decide +kernel
theorem dX2_makeBestChange_43 : decode cX2_makeBestChange 43 = .ok (.invokevirtual 37, 3) := by decide +kernel
theorem dX2_makeBestChange_46 : decode cX2_makeBestChange 46 = .ok (.iinc 2 1, 3) := by decide +kernel
theorem dX2_makeBestChange_49 : decode cX2_makeBestChange 49 = .ok (.goto (-23), 3) := by decide +kernel
theorem dX2_makeBestChange_52 : decode cX2_makeBestChange 52 = .ok (.iconst 0, 1) := by decide +kernel
theorem dX2_makeBestChange_53 : decode cX2_makeBestChange 53 = .ok (.istore_n 2, 1) := by decide +kernel
theorem dX2_makeBestChange_54 : decode cX2_makeBestChange 54 = .ok (.iload_n 2, 1) := by decide +kernel
theorem dX2_makeBestChange_55 : decode cX2_makeBestChange 55 = .ok (.aload_n 1, 1) := by decide +kernel
theorem dX2_makeBestChange_56 : decode cX2_makeBestChange 56 = .ok (.getfield 32, 3) := by decide +kernel
theorem dX2_makeBestChange_59 : decode cX2_makeBestChange 59 = .ok (.if_icmp .ge 21, 3) := by decide +kernel
theorem dX2_makeBestChange_62 : decode cX2_makeBestChange 62 = .ok (.iload_n 2, 1) := by decide +kernel
theorem dX2_makeBestChange_63 : decode cX2_makeBestChange 63 = .ok (.bipush 7, 2) := by decide +kernel
theorem dX2_makeBestChange_65 : decode cX2_makeBestChange 65 = .ok (.if_icmp .ge 15, 3) := by decide +kernel
theorem dX2_makeBestChange_68 : decode cX2_makeBestChange 68 = .ok (.aload_n 0, 1) := by decide +kernel
theorem dX2_makeBestChange_69 : decode cX2_makeBestChange 69 = .ok (.aload_n 1, 1) := by decide +kernel
theorem dX2_makeBestChange_70 : decode cX2_makeBestChange 70 = .ok (.iload_n 2, 1) := by decide +kernel
theorem dX2_makeBestChange_71 : decode cX2_makeBestChange 71 = .ok (.invokevirtual 41, 3) := by decide +kernel
theorem dX2_makeBestChange_74 : decode cX2_makeBestChange 74 = .ok (.iinc 2 1, 3) := by decide +kernel
theorem dX2_makeBestChange_77 : decode cX2_makeBestChange 77 = .ok (.goto (-23), 3) := by decide +kernel
theorem dX2_makeBestChange_80 : decode cX2_makeBestChange 80 = .ok (.aload_n 0, 1) := by decide +kernel
theorem dX2_makeBestChange_81 : decode cX2_makeBestChange 81 = .ok (.getfield 23, 3) := by decide +kernel
theorem dX2_makeBestChange_84 : decode cX2_makeBestChange 84 = .ok (.ifCond .lt 12, 3) := by decide +kernel
theorem dX2_makeBestChange_87 : decode cX2_makeBestChange 87 = .ok (.aload_n 0, 1) := by decide +kernel
theorem dX2_makeBestChange_88 : decode cX2_makeBestChange 88 = .ok (.getfield 23, 3) := by decide +kernel
theorem dX2_makeBestChange_91 : decode cX2_makeBestChange 91 = .ok (.bipush 7, 2) := by decide +kernel
theorem dX2_makeBestChange_93 : decode cX2_makeBestChange 93 = .ok (.if_icmp .lt 5, 3) := by decide +kernel
theorem dX2_makeBestChange_96 : decode cX2_makeBestChange 96 = .ok (.iconst 0, 1) := by decide +kernel
theorem dX2_makeBestChange_97 : decode cX2_makeBestChange 97 = .ok (.ireturn, 1) := by decide +kernel
theorem dX2_makeBestChange_98 : decode cX2_makeBestChange 98 = .ok (.aload_n 0, 1) := by decide +kernel
theorem dX2_makeBestChange_99 : decode cX2_makeBestChange 99 = .ok (.getfield 26, 3) := by decide +kernel
theorem dX2_makeBestChange_102 : decode cX2_makeBestChange 102 = .ok (.ifCond .lt 27, 3) := by decide +kernel
theorem dX2_makeBestChange_105 : decode cX2_makeBestChange 105 = .ok (.aload_n 0, 1) := by decide +kernel
theorem dX2_makeBestChange_106 : decode cX2_makeBestChange 106 = .ok (.getfield 26, 3) := by decide +kernel
theorem dX2_makeBestChange_109 : decode cX2_makeBestChange 109 = .ok (.bipush 7, 2) := by decide +kernel
theorem dX2_makeBestChange_111 : decode cX2_makeBestChange 111 = .ok (.if_icmp .ge 18, 3) := by decide +kernel
theorem dX2_makeBestChange_114 : decode cX2_makeBestChange 114 = .ok (.aload_n 0, 1) := by decide +kernel
theorem dX2_makeBestChange_115 : decode cX2_makeBestChange 115 = .ok (.aload_n 0, 1) := by decide +kernel
theorem dX2_makeBestChange_116 : decode cX2_makeBestChange 116 = .ok (.getfield 23, 3) := by decide +kernel
theorem dX2_makeBestChange_119 : decode cX2_makeBestChange 119 = .ok (.aload_n 0, 1) := by decide +kernel
theorem dX2_makeBestChange_120 : decode cX2_makeBestChange 120 = .ok (.getfield 26, 3) := by decide +kernel
theorem dX2_makeBestChange_123 : decode cX2_makeBestChange 123 = .ok (.invokevirtual 44, 3) := by decide +kernel
theorem dX2_makeBestChange_126 : decode cX2_makeBestChange 126 = .ok (.goto 16, 3) := by decide +kernel
theorem dX2_makeBestChange_129 : decode cX2_makeBestChange 129 = .ok (.aload_n 0, 1) := by decide +kernel
theorem dX2_makeBestChange_130 : decode cX2_makeBestChange 130 = .ok (.getfield 9, 3) := by decide +kernel
theorem dX2_makeBestChange_133 : decode cX2_makeBestChange 133 = .ok (.aload_n 0, 1) := by decide +kernel
theorem dX2_makeBestChange_134 : decode cX2_makeBestChange 134 = .ok (.getfield 23, 3) := by decide +kernel
theorem dX2_makeBestChange_137 : decode cX2_makeBestChange 137 = .ok (.aload_n 0, 1) := by decide +kernel
theorem dX2_makeBestChange_138 : decode cX2_makeBestChange 138 = .ok (.getfield 29, 3) := by decide +kernel
theorem dX2_makeBestChange_141 : decode cX2_makeBestChange 141 = .ok (.iastore, 1) := by decide +kernel
theorem dX2_makeBestChange_142 : decode cX2_makeBestChange 142 = .ok (.iconst 1, 1) := by decide +kernel
theorem dX2_makeBestChange_143 : decode cX2_makeBestChange 143 = .ok (.ireturn, 1) := by decide +kernel
set_option maxRecDepth 20000 in
theorem ggX2_meetMoves_X1_timeOn : GoodIn wsX2_meetMoves wsX1_timeOn := goodIn_r _ [6, 7, 8, 39, 40] (by decide +kernel) (by decide +kernel)
set_option maxRecDepth 20000 in
theorem gX2_meetMoves_X1_timeOn : GoodIn wsX2_meetMoves (wsV RX2 48 RX1 yX1_timeOn wsX1_timeOn) := goodIn_app (goodIn_of _ (by decide +kernel)) ggX2_meetMoves_X1_timeOn
set_option maxRecDepth 20000 in
theorem ggX2_meetMoves_X2_rank : GoodIn wsX2_meetMoves wsX2_rank := goodIn_r _ [13, 1, 14, 15, 16, 17, 18, 19, 20, 21, 22, 23, 5, 24, 7, 25, 3, 4, 6, 8, 34, 35, 36, 37, 38, 39, 40] (by decide +kernel) (by decide +kernel)
set_option maxRecDepth 20000 in
theorem gX2_meetMoves_X2_rank : GoodIn wsX2_meetMoves (wsV RX2 15 RX2 yX2_rank wsX2_rank) := goodIn_app (goodIn_of _ (by decide +kernel)) ggX2_meetMoves_X2_rank
set_option maxRecDepth 20000 in
theorem ggX2_meetMoves_X2_meet : GoodIn wsX2_meetMoves wsX2_meet := goodIn_r _ [29, 30, 31, 32, 33, 34, 35, 36, 37, 38] (by decide +kernel) (by decide +kernel)
set_option maxRecDepth 20000 in
theorem gX2_meetMoves_X2_meet : GoodIn wsX2_meetMoves (wsV RX2 52 RX2 yX2_meet wsX2_meet) := goodIn_app (goodIn_of _ (by decide +kernel)) ggX2_meetMoves_X2_meet
theorem dX2_meetMoves_0 : decode cX2_meetMoves 0 = .ok (.aload_n 0, 1) := by decide +kernel
theorem dX2_meetMoves_1 : decode cX2_meetMoves 1 = .ok (.getfield 9, 3) := by decide +kernel
theorem dX2_meetMoves_4 : decode cX2_meetMoves 4 = .ok (.iload_n 2, 1) := by decide +kernel
theorem dX2_meetMoves_5 : decode cX2_meetMoves 5 = .ok (.iaload, 1) := by decide +kernel
theorem dX2_meetMoves_6 : decode cX2_meetMoves 6 = .ok (.istore_n 3, 1) := by decide +kernel
theorem dX2_meetMoves_7 : decode cX2_meetMoves 7 = .ok (.iconst 0, 1) := by decide +kernel
theorem dX2_meetMoves_8 : decode cX2_meetMoves 8 = .ok (.istore 4, 2) := by decide +kernel
theorem dX2_meetMoves_10 : decode cX2_meetMoves 10 = .ok (.iload 4, 2) := by decide +kernel
theorem dX2_meetMoves_12 : decode cX2_meetMoves 12 = .ok (.iconst 3, 1) := by decide +kernel
theorem dX2_meetMoves_13 : decode cX2_meetMoves 13 = .ok (.if_icmp .ge 46, 3) := by decide +kernel
theorem dX2_meetMoves_16 : decode cX2_meetMoves 16 = .ok (.iload 4, 2) := by decide +kernel
theorem dX2_meetMoves_18 : decode cX2_meetMoves 18 = .ok (.iload_n 3, 1) := by decide +kernel
theorem dX2_meetMoves_19 : decode cX2_meetMoves 19 = .ok (.if_icmp .eq 34, 3) := by decide +kernel
theorem dX2_meetMoves_22 : decode cX2_meetMoves 22 = .ok (.aload_n 1, 1) := by decide +kernel
theorem dX2_meetMoves_23 : decode cX2_meetMoves 23 = .ok (.iload_n 2, 1) := by decide +kernel
theorem dX2_meetMoves_24 : decode cX2_meetMoves 24 = .ok (.iload 4, 2) := by decide +kernel
theorem dX2_meetMoves_26 : decode cX2_meetMoves 26 = .ok (.invokevirtual 48, 3) := by decide +kernel
theorem dX2_meetMoves_29 : decode cX2_meetMoves 29 = .ok (.ifCond .le 24, 3) := by decide +kernel
theorem dX2_meetMoves_32 : decode cX2_meetMoves 32 = .ok (.aload_n 0, 1) := by decide +kernel
theorem dX2_meetMoves_33 : decode cX2_meetMoves 33 = .ok (.getfield 9, 3) := by decide +kernel
theorem dX2_meetMoves_36 : decode cX2_meetMoves 36 = .ok (.iload_n 2, 1) := by decide +kernel
theorem dX2_meetMoves_37 : decode cX2_meetMoves 37 = .ok (.iload 4, 2) := by decide +kernel
theorem dX2_meetMoves_39 : decode cX2_meetMoves 39 = .ok (.iastore, 1) := by decide +kernel
theorem dX2_meetMoves_40 : decode cX2_meetMoves 40 = .ok (.aload_n 0, 1) := by decide +kernel
theorem dX2_meetMoves_41 : decode cX2_meetMoves 41 = .ok (.aload_n 0, 1) := by decide +kernel
theorem dX2_meetMoves_42 : decode cX2_meetMoves 42 = .ok (.aload_n 1, 1) := by decide +kernel
theorem dX2_meetMoves_43 : decode cX2_meetMoves 43 = .ok (.invokevirtual 15, 3) := by decide +kernel
theorem dX2_meetMoves_46 : decode cX2_meetMoves 46 = .ok (.iload_n 2, 1) := by decide +kernel
theorem dX2_meetMoves_47 : decode cX2_meetMoves 47 = .ok (.iconst (-1), 1) := by decide +kernel
theorem dX2_meetMoves_48 : decode cX2_meetMoves 48 = .ok (.iload 4, 2) := by decide +kernel
theorem dX2_meetMoves_50 : decode cX2_meetMoves 50 = .ok (.invokevirtual 52, 3) := by decide +kernel
theorem dX2_meetMoves_53 : decode cX2_meetMoves 53 = .ok (.iinc 4 1, 3) := by decide +kernel
theorem dX2_meetMoves_56 : decode cX2_meetMoves 56 = .ok (.goto (-46), 3) := by decide +kernel
theorem dX2_meetMoves_59 : decode cX2_meetMoves 59 = .ok (.aload_n 0, 1) := by decide +kernel
theorem dX2_meetMoves_60 : decode cX2_meetMoves 60 = .ok (.getfield 9, 3) := by decide +kernel
theorem dX2_meetMoves_63 : decode cX2_meetMoves 63 = .ok (.iload_n 2, 1) := by decide +kernel
theorem dX2_meetMoves_64 : decode cX2_meetMoves 64 = .ok (.iload_n 3, 1) := by decide +kernel
theorem dX2_meetMoves_65 : decode cX2_meetMoves 65 = .ok (.iastore, 1) := by decide +kernel
theorem dX2_meetMoves_66 : decode cX2_meetMoves 66 = .ok (.return_, 1) := by decide +kernel
set_option maxRecDepth 20000 in
theorem ggX2_meetSwaps_X1_timeOn : GoodIn wsX2_meetSwaps wsX1_timeOn := goodIn_r _ [6, 7, 8, 38, 39] (by decide +kernel) (by decide +kernel)
set_option maxRecDepth 20000 in
theorem gX2_meetSwaps_X1_timeOn : GoodIn wsX2_meetSwaps (wsV RX2 48 RX1 yX1_timeOn wsX1_timeOn) := goodIn_app (goodIn_of _ (by decide +kernel)) ggX2_meetSwaps_X1_timeOn
set_option maxRecDepth 20000 in
theorem ggX2_meetSwaps_X2_swap : GoodIn wsX2_meetSwaps wsX2_swap := goodIn_r _ [13, 1, 40, 41, 42, 43, 44] (by decide +kernel) (by decide +kernel)
set_option maxRecDepth 20000 in
theorem gX2_meetSwaps_X2_swap : GoodIn wsX2_meetSwaps (wsV RX2 44 RX2 yX2_swap wsX2_swap) := goodIn_app (goodIn_of _ (by decide +kernel)) ggX2_meetSwaps_X2_swap
set_option maxRecDepth 20000 in
theorem ggX2_meetSwaps_X2_rank : GoodIn wsX2_meetSwaps wsX2_rank := goodIn_r _ [17, 1, 18, 19, 20, 21, 22, 23, 24, 25, 26, 27, 5, 28, 7, 29, 3, 4, 6, 8, 40, 41, 42, 43, 44, 38, 39] (by decide +kernel) (by decide +kernel)
set_option maxRecDepth 20000 in
theorem gX2_meetSwaps_X2_rank : GoodIn wsX2_meetSwaps (wsV RX2 15 RX2 yX2_rank wsX2_rank) := goodIn_app (goodIn_of _ (by decide +kernel)) ggX2_meetSwaps_X2_rank
set_option maxRecDepth 20000 in
theorem ggX2_meetSwaps_X2_meet : GoodIn wsX2_meetSwaps wsX2_meet := goodIn_r _ [33, 34, 35, 36, 37, 40, 41, 42, 43, 44] (by decide +kernel) (by decide +kernel)
set_option maxRecDepth 20000 in
theorem gX2_meetSwaps_X2_meet : GoodIn wsX2_meetSwaps (wsV RX2 52 RX2 yX2_meet wsX2_meet) := goodIn_app (goodIn_of _ (by decide +kernel)) ggX2_meetSwaps_X2_meet
theorem dX2_meetSwaps_0 : decode cX2_meetSwaps 0 = .ok (.iload_n 2, 1) := by decide +kernel
theorem dX2_meetSwaps_1 : decode cX2_meetSwaps 1 = .ok (.iconst 1, 1) := by decide +kernel
theorem dX2_meetSwaps_2 : decode cX2_meetSwaps 2 = .ok (.iadd, 1) := by decide +kernel
theorem dX2_meetSwaps_3 : decode cX2_meetSwaps 3 = .ok (.istore_n 3, 1) := by decide +kernel
theorem dX2_meetSwaps_4 : decode cX2_meetSwaps 4 = .ok (.iload_n 3, 1) := by decide +kernel
theorem dX2_meetSwaps_5 : decode cX2_meetSwaps 5 = .ok (.aload_n 1, 1) := by decide +kernel
theorem dX2_meetSwaps_6 : decode cX2_meetSwaps 6 = .ok (.getfield 32, 3) := by decide +kernel
theorem dX2_meetSwaps_9 : decode cX2_meetSwaps 9 = .ok (.if_icmp .ge 82, 3) := by decide +kernel
theorem dX2_meetSwaps_12 : decode cX2_meetSwaps 12 = .ok (.iload_n 3, 1) := by decide +kernel
theorem dX2_meetSwaps_13 : decode cX2_meetSwaps 13 = .ok (.bipush 7, 2) := by decide +kernel
theorem dX2_meetSwaps_15 : decode cX2_meetSwaps 15 = .ok (.if_icmp .ge 76, 3) := by decide +kernel
theorem dX2_meetSwaps_18 : decode cX2_meetSwaps 18 = .ok (.aload_n 0, 1) := by decide +kernel
theorem dX2_meetSwaps_19 : decode cX2_meetSwaps 19 = .ok (.getfield 9, 3) := by decide +kernel
theorem dX2_meetSwaps_22 : decode cX2_meetSwaps 22 = .ok (.iload_n 2, 1) := by decide +kernel
theorem dX2_meetSwaps_23 : decode cX2_meetSwaps 23 = .ok (.iaload, 1) := by decide +kernel
theorem dX2_meetSwaps_24 : decode cX2_meetSwaps 24 = .ok (.istore 4, 2) := by decide +kernel
theorem dX2_meetSwaps_26 : decode cX2_meetSwaps 26 = .ok (.aload_n 0, 1) := by decide +kernel
theorem dX2_meetSwaps_27 : decode cX2_meetSwaps 27 = .ok (.getfield 9, 3) := by decide +kernel
theorem dX2_meetSwaps_30 : decode cX2_meetSwaps 30 = .ok (.iload_n 3, 1) := by decide +kernel
theorem dX2_meetSwaps_31 : decode cX2_meetSwaps 31 = .ok (.iaload, 1) := by decide +kernel
theorem dX2_meetSwaps_32 : decode cX2_meetSwaps 32 = .ok (.istore 5, 2) := by decide +kernel
theorem dX2_meetSwaps_34 : decode cX2_meetSwaps 34 = .ok (.iload 4, 2) := by decide +kernel
theorem dX2_meetSwaps_36 : decode cX2_meetSwaps 36 = .ok (.iload 5, 2) := by decide +kernel
theorem dX2_meetSwaps_38 : decode cX2_meetSwaps 38 = .ok (.if_icmp .eq 47, 3) := by decide +kernel
theorem dX2_meetSwaps_41 : decode cX2_meetSwaps 41 = .ok (.aload_n 1, 1) := by decide +kernel
theorem dX2_meetSwaps_42 : decode cX2_meetSwaps 42 = .ok (.iload_n 2, 1) := by decide +kernel
theorem dX2_meetSwaps_43 : decode cX2_meetSwaps 43 = .ok (.iload 5, 2) := by decide +kernel
theorem dX2_meetSwaps_45 : decode cX2_meetSwaps 45 = .ok (.invokevirtual 48, 3) := by decide +kernel
theorem dX2_meetSwaps_48 : decode cX2_meetSwaps 48 = .ok (.ifCond .le 37, 3) := by decide +kernel
theorem dX2_meetSwaps_51 : decode cX2_meetSwaps 51 = .ok (.aload_n 1, 1) := by decide +kernel
theorem dX2_meetSwaps_52 : decode cX2_meetSwaps 52 = .ok (.iload_n 3, 1) := by decide +kernel
theorem dX2_meetSwaps_53 : decode cX2_meetSwaps 53 = .ok (.iload 4, 2) := by decide +kernel
theorem dX2_meetSwaps_55 : decode cX2_meetSwaps 55 = .ok (.invokevirtual 48, 3) := by decide +kernel
theorem dX2_meetSwaps_58 : decode cX2_meetSwaps 58 = .ok (.ifCond .le 27, 3) := by decide +kernel
theorem dX2_meetSwaps_61 : decode cX2_meetSwaps 61 = .ok (.aload_n 0, 1) := by decide +kernel
theorem dX2_meetSwaps_62 : decode cX2_meetSwaps 62 = .ok (.iload_n 2, 1) := by decide +kernel
theorem dX2_meetSwaps_63 : decode cX2_meetSwaps 63 = .ok (.iload_n 3, 1) := by decide +kernel
theorem dX2_meetSwaps_64 : decode cX2_meetSwaps 64 = .ok (.invokevirtual 44, 3) := by decide +kernel
theorem dX2_meetSwaps_67 : decode cX2_meetSwaps 67 = .ok (.aload_n 0, 1) := by decide +kernel
theorem dX2_meetSwaps_68 : decode cX2_meetSwaps 68 = .ok (.aload_n 0, 1) := by decide +kernel
theorem dX2_meetSwaps_69 : decode cX2_meetSwaps 69 = .ok (.aload_n 1, 1) := by decide +kernel
theorem dX2_meetSwaps_70 : decode cX2_meetSwaps 70 = .ok (.invokevirtual 15, 3) := by decide +kernel
theorem dX2_meetSwaps_73 : decode cX2_meetSwaps 73 = .ok (.iload_n 2, 1) := by decide +kernel
theorem dX2_meetSwaps_74 : decode cX2_meetSwaps 74 = .ok (.iload_n 3, 1) := by decide +kernel
theorem dX2_meetSwaps_75 : decode cX2_meetSwaps 75 = .ok (.iconst (-1), 1) := by decide +kernel
theorem dX2_meetSwaps_76 : decode cX2_meetSwaps 76 = .ok (.invokevirtual 52, 3) := by decide +kernel
theorem dX2_meetSwaps_79 : decode cX2_meetSwaps 79 = .ok (.aload_n 0, 1) := by decide +kernel
theorem dX2_meetSwaps_80 : decode cX2_meetSwaps 80 = .ok (.iload_n 2, 1) := by decide +kernel
theorem dX2_meetSwaps_81 : decode cX2_meetSwaps 81 = .ok (.iload_n 3, 1) := by decide +kernel
theorem dX2_meetSwaps_82 : decode cX2_meetSwaps 82 = .ok (.invokevirtual 44, 3) := by decide +kernel
theorem dX2_meetSwaps_85 : decode cX2_meetSwaps 85 = .ok (.iinc 3 1, 3) := by decide +kernel
theorem dX2_meetSwaps_88 : decode cX2_meetSwaps 88 = .ok (.goto (-84), 3) := by decide +kernel
theorem dX2_meetSwaps_91 : decode cX2_meetSwaps 91 = .ok (.return_, 1) := by decide +kernel
theorem dX2_meet_0 : decode cX2_meet 0 = .ok (.iload_n 1, 1) := by decide +kernel
theorem dX2_meet_1 : decode cX2_meet 1 = .ok (.aload_n 0, 1) := by decide +kernel
theorem dX2_meet_2 : decode cX2_meet 2 = .ok (.getfield 19, 3) := by decide +kernel
theorem dX2_meet_5 : decode cX2_meet 5 = .ok (.if_icmp .ge 24, 3) := by decide +kernel
theorem dX2_meet_8 : decode cX2_meet 8 = .ok (.aload_n 0, 1) := by decide +kernel
theorem dX2_meet_9 : decode cX2_meet 9 = .ok (.iload_n 1, 1) := by decide +kernel
theorem dX2_meet_10 : decode cX2_meet 10 = .ok (.putfield 19, 3) := by decide +kernel
theorem dX2_meet_13 : decode cX2_meet 13 = .ok (.aload_n 0, 1) := by decide +kernel
theorem dX2_meet_14 : decode cX2_meet 14 = .ok (.iload_n 2, 1) := by decide +kernel
theorem dX2_meet_15 : decode cX2_meet 15 = .ok (.putfield 23, 3) := by decide +kernel
theorem dX2_meet_18 : decode cX2_meet 18 = .ok (.aload_n 0, 1) := by decide +kernel
theorem dX2_meet_19 : decode cX2_meet 19 = .ok (.iload_n 3, 1) := by decide +kernel
theorem dX2_meet_20 : decode cX2_meet 20 = .ok (.putfield 26, 3) := by decide +kernel
theorem dX2_meet_23 : decode cX2_meet 23 = .ok (.aload_n 0, 1) := by decide +kernel
theorem dX2_meet_24 : decode cX2_meet 24 = .ok (.iload 4, 2) := by decide +kernel
theorem dX2_meet_26 : decode cX2_meet 26 = .ok (.putfield 29, 3) := by decide +kernel
theorem dX2_meet_29 : decode cX2_meet 29 = .ok (.return_, 1) := by decide +kernel
theorem dX2_swap_0 : decode cX2_swap 0 = .ok (.iload_n 1, 1) := by decide +kernel
theorem dX2_swap_1 : decode cX2_swap 1 = .ok (.ifCond .lt 45, 3) := by decide +kernel
theorem dX2_swap_4 : decode cX2_swap 4 = .ok (.iload_n 1, 1) := by decide +kernel
theorem dX2_swap_5 : decode cX2_swap 5 = .ok (.bipush 7, 2) := by decide +kernel
theorem dX2_swap_7 : decode cX2_swap 7 = .ok (.if_icmp .ge 39, 3) := by decide +kernel
theorem dX2_swap_10 : decode cX2_swap 10 = .ok (.iload_n 2, 1) := by decide +kernel
theorem dX2_swap_11 : decode cX2_swap 11 = .ok (.ifCond .lt 35, 3) := by decide +kernel
theorem dX2_swap_14 : decode cX2_swap 14 = .ok (.iload_n 2, 1) := by decide +kernel
theorem dX2_swap_15 : decode cX2_swap 15 = .ok (.bipush 7, 2) := by decide +kernel
theorem dX2_swap_17 : decode cX2_swap 17 = .ok (.if_icmp .ge 29, 3) := by decide +kernel
theorem dX2_swap_20 : decode cX2_swap 20 = .ok (.aload_n 0, 1) := by decide +kernel
theorem dX2_swap_21 : decode cX2_swap 21 = .ok (.getfield 9, 3) := by decide +kernel
theorem dX2_swap_24 : decode cX2_swap 24 = .ok (.iload_n 1, 1) := by decide +kernel
theorem dX2_swap_25 : decode cX2_swap 25 = .ok (.iaload, 1) := by decide +kernel
theorem dX2_swap_26 : decode cX2_swap 26 = .ok (.istore_n 3, 1) := by decide +kernel
theorem dX2_swap_27 : decode cX2_swap 27 = .ok (.aload_n 0, 1) := by decide +kernel
theorem dX2_swap_28 : decode cX2_swap 28 = .ok (.getfield 9, 3) := by decide +kernel
theorem dX2_swap_31 : decode cX2_swap 31 = .ok (.iload_n 1, 1) := by decide +kernel
theorem dX2_swap_32 : decode cX2_swap 32 = .ok (.aload_n 0, 1) := by decide +kernel
theorem dX2_swap_33 : decode cX2_swap 33 = .ok (.getfield 9, 3) := by decide +kernel
theorem dX2_swap_36 : decode cX2_swap 36 = .ok (.iload_n 2, 1) := by decide +kernel
theorem dX2_swap_37 : decode cX2_swap 37 = .ok (.iaload, 1) := by decide +kernel
theorem dX2_swap_38 : decode cX2_swap 38 = .ok (.iastore, 1) := by decide +kernel
theorem dX2_swap_39 : decode cX2_swap 39 = .ok (.aload_n 0, 1) := by decide +kernel
theorem dX2_swap_40 : decode cX2_swap 40 = .ok (.getfield 9, 3) := by decide +kernel
theorem dX2_swap_43 : decode cX2_swap 43 = .ok (.iload_n 2, 1) := by decide +kernel
theorem dX2_swap_44 : decode cX2_swap 44 = .ok (.iload_n 3, 1) := by decide +kernel
theorem dX2_swap_45 : decode cX2_swap 45 = .ok (.iastore, 1) := by decide +kernel
theorem dX2_swap_46 : decode cX2_swap 46 = .ok (.return_, 1) := by decide +kernel
set_option maxRecDepth 20000 in
theorem ggX2_rank_X1_loadOn : GoodIn wsX2_rank wsX1_loadOn := goodIn_r _ [13, 14, 15, 16, 17, 12, 18, 19, 25, 26] (by decide +kernel) (by decide +kernel)
set_option maxRecDepth 20000 in
theorem gX2_rank_X1_loadOn : GoodIn wsX2_rank (wsV RX2 56 RX1 yX1_loadOn wsX1_loadOn) := goodIn_app (goodIn_of _ (by decide +kernel)) ggX2_rank_X1_loadOn
theorem dX2_rank_0 : decode cX2_rank 0 = .ok (.aload_n 1, 1) := by decide +kernel
theorem dX2_rank_1 : decode cX2_rank 1 = .ok (.aload_n 0, 1) := by decide +kernel
theorem dX2_rank_2 : decode cX2_rank 2 = .ok (.getfield 9, 3) := by decide +kernel
theorem dX2_rank_5 : decode cX2_rank 5 = .ok (.iconst 0, 1) := by decide +kernel
theorem dX2_rank_6 : decode cX2_rank 6 = .ok (.invokevirtual 56, 3) := by decide +kernel
theorem dX2_rank_9 : decode cX2_rank 9 = .ok (.istore_n 2, 1) := by decide +kernel
theorem dX2_rank_10 : decode cX2_rank 10 = .ok (.aload_n 1, 1) := by decide +kernel
theorem dX2_rank_11 : decode cX2_rank 11 = .ok (.aload_n 0, 1) := by decide +kernel
theorem dX2_rank_12 : decode cX2_rank 12 = .ok (.getfield 9, 3) := by decide +kernel
theorem dX2_rank_15 : decode cX2_rank 15 = .ok (.iconst 1, 1) := by decide +kernel
theorem dX2_rank_16 : decode cX2_rank 16 = .ok (.invokevirtual 56, 3) := by decide +kernel
theorem dX2_rank_19 : decode cX2_rank 19 = .ok (.istore_n 3, 1) := by decide +kernel
theorem dX2_rank_20 : decode cX2_rank 20 = .ok (.aload_n 1, 1) := by decide +kernel
theorem dX2_rank_21 : decode cX2_rank 21 = .ok (.aload_n 0, 1) := by decide +kernel
theorem dX2_rank_22 : decode cX2_rank 22 = .ok (.getfield 9, 3) := by decide +kernel
theorem dX2_rank_25 : decode cX2_rank 25 = .ok (.iconst 2, 1) := by decide +kernel
theorem dX2_rank_26 : decode cX2_rank 26 = .ok (.invokevirtual 56, 3) := by decide +kernel
theorem dX2_rank_29 : decode cX2_rank 29 = .ok (.istore 4, 2) := by decide +kernel
theorem dX2_rank_31 : decode cX2_rank 31 = .ok (.iload_n 2, 1) := by decide +kernel
theorem dX2_rank_32 : decode cX2_rank 32 = .ok (.iload_n 3, 1) := by decide +kernel
theorem dX2_rank_33 : decode cX2_rank 33 = .ok (.invokestatic 60, 3) := by decide +kernel
theorem dX2_rank_36 : decode cX2_rank 36 = .ok (.iload 4, 2) := by decide +kernel
theorem dX2_rank_38 : decode cX2_rank 38 = .ok (.invokestatic 60, 3) := by decide +kernel
theorem dX2_rank_41 : decode cX2_rank 41 = .ok (.istore 5, 2) := by decide +kernel
theorem dX2_rank_43 : decode cX2_rank 43 = .ok (.iload_n 2, 1) := by decide +kernel
theorem dX2_rank_44 : decode cX2_rank 44 = .ok (.iload_n 3, 1) := by decide +kernel
theorem dX2_rank_45 : decode cX2_rank 45 = .ok (.invokestatic 65, 3) := by decide +kernel
theorem dX2_rank_48 : decode cX2_rank 48 = .ok (.iload 4, 2) := by decide +kernel
theorem dX2_rank_50 : decode cX2_rank 50 = .ok (.invokestatic 65, 3) := by decide +kernel
theorem dX2_rank_53 : decode cX2_rank 53 = .ok (.istore 6, 2) := by decide +kernel
theorem dX2_rank_55 : decode cX2_rank 55 = .ok (.iload_n 2, 1) := by decide +kernel
theorem dX2_rank_56 : decode cX2_rank 56 = .ok (.iload_n 3, 1) := by decide +kernel
theorem dX2_rank_57 : decode cX2_rank 57 = .ok (.iadd, 1) := by decide +kernel
theorem dX2_rank_58 : decode cX2_rank 58 = .ok (.iload 4, 2) := by decide +kernel
theorem dX2_rank_60 : decode cX2_rank 60 = .ok (.iadd, 1) := by decide +kernel
theorem dX2_rank_61 : decode cX2_rank 61 = .ok (.iload 5, 2) := by decide +kernel
theorem dX2_rank_63 : decode cX2_rank 63 = .ok (.isub, 1) := by decide +kernel
theorem dX2_rank_64 : decode cX2_rank 64 = .ok (.iload 6, 2) := by decide +kernel
theorem dX2_rank_66 : decode cX2_rank 66 = .ok (.isub, 1) := by decide +kernel
theorem dX2_rank_67 : decode cX2_rank 67 = .ok (.istore 7, 2) := by decide +kernel
theorem dX2_rank_69 : decode cX2_rank 69 = .ok (.iload 5, 2) := by decide +kernel
theorem dX2_rank_71 : decode cX2_rank 71 = .ok (.sipush 1000, 3) := by decide +kernel
theorem dX2_rank_74 : decode cX2_rank 74 = .ok (.imul, 1) := by decide +kernel
theorem dX2_rank_75 : decode cX2_rank 75 = .ok (.iload 7, 2) := by decide +kernel
theorem dX2_rank_77 : decode cX2_rank 77 = .ok (.iadd, 1) := by decide +kernel
theorem dX2_rank_78 : decode cX2_rank 78 = .ok (.sipush 1000, 3) := by decide +kernel
theorem dX2_rank_81 : decode cX2_rank 81 = .ok (.imul, 1) := by decide +kernel
theorem dX2_rank_82 : decode cX2_rank 82 = .ok (.iload 6, 2) := by decide +kernel
theorem dX2_rank_84 : decode cX2_rank 84 = .ok (.iadd, 1) := by decide +kernel
theorem dX2_rank_85 : decode cX2_rank 85 = .ok (.ireturn, 1) := by decide +kernel
theorem dX3_init_0 : decode cX3_init 0 = .ok (.aload_n 0, 1) := by decide +kernel
theorem dX3_init_1 : decode cX3_init 1 = .ok (.invokespecial 3, 3) := by decide +kernel
theorem dX3_init_4 : decode cX3_init 4 = .ok (.aload_n 0, 1) := by decide +kernel
theorem dX3_init_5 : decode cX3_init 5 = .ok (.iconst 3, 1) := by decide +kernel
theorem dX3_init_6 : decode cX3_init 6 = .ok (.newarray .int, 2) := by decide +kernel
theorem dX3_init_8 : decode cX3_init 8 = .ok (.putfield 9, 3) := by decide +kernel
theorem dX3_init_11 : decode cX3_init 11 = .ok (.aload_n 0, 1) := by decide +kernel
theorem dX3_init_12 : decode cX3_init 12 = .ok (.bipush 7, 2) := by decide +kernel
theorem dX3_init_14 : decode cX3_init 14 = .ok (.newarray .int, 2) := by decide +kernel
theorem dX3_init_16 : decode cX3_init 16 = .ok (.putfield 15, 3) := by decide +kernel
theorem dX3_init_19 : decode cX3_init 19 = .ok (.aload_n 0, 1) := by decide +kernel
theorem dX3_init_20 : decode cX3_init 20 = .ok (.bipush 7, 2) := by decide +kernel
theorem dX3_init_22 : decode cX3_init 22 = .ok (.newarray .int, 2) := by decide +kernel
theorem dX3_init_24 : decode cX3_init 24 = .ok (.putfield 18, 3) := by decide +kernel
theorem dX3_init_27 : decode cX3_init 27 = .ok (.return_, 1) := by decide +kernel
set_option maxRecDepth 20000 in
theorem ggX3_find_X3_clearLoads : GoodIn wsX3_find wsX3_clearLoads := goodIn_r _ [6, 7, 32, 33, 34, 35] (by decide +kernel) (by decide +kernel)
set_option maxRecDepth 20000 in
theorem gX3_find_X3_clearLoads : GoodIn wsX3_find (wsV RX3 21 RX3 yX3_clearLoads wsX3_clearLoads) := goodIn_app (goodIn_of _ (by decide +kernel)) ggX3_find_X3_clearLoads
set_option maxRecDepth 20000 in
theorem ggX3_find_X3_searchFrom : GoodIn wsX3_find wsX3_searchFrom := goodIn_r _ [10, 1, 11, 7, 12, 13, 14, 5, 15, 16, 17, 18, 19, 20, 21, 22, 23, 24, 25, 26, 27, 28, 29, 30, 31, 8, 9, 32, 33, 34, 35, 36, 37] (by decide +kernel) (by decide +kernel)
set_option maxRecDepth 20000 in
theorem gX3_find_X3_searchFrom : GoodIn wsX3_find (va_wsS RX3 28 yX3_searchFrom wsX3_searchFrom) := goodIn_app (goodIn_of _ (by decide +kernel)) ggX3_find_X3_searchFrom
theorem dX3_find_0 : decode cX3_find 0 = .ok (.aload_n 0, 1) := by decide +kernel
theorem dX3_find_1 : decode cX3_find 1 = .ok (.invokevirtual 21, 3) := by decide +kernel
theorem dX3_find_4 : decode cX3_find 4 = .ok (.aload_n 0, 1) := by decide +kernel
theorem dX3_find_5 : decode cX3_find 5 = .ok (.sipush 351, 3) := by decide +kernel
theorem dX3_find_8 : decode cX3_find 8 = .ok (.putfield 24, 3) := by decide +kernel
theorem dX3_find_11 : decode cX3_find 11 = .ok (.aload_n 0, 1) := by decide +kernel
theorem dX3_find_12 : decode cX3_find 12 = .ok (.aload_n 1, 1) := by decide +kernel
theorem dX3_find_13 : decode cX3_find 13 = .ok (.iconst 0, 1) := by decide +kernel
theorem dX3_find_14 : decode cX3_find 14 = .ok (.invokestatic 28, 3) := by decide +kernel
theorem dX3_find_17 : decode cX3_find 17 = .ok (.return_, 1) := by decide +kernel
set_option maxRecDepth 20000 in
theorem ggX3_tryAll_X3_clearLoads : GoodIn wsX3_tryAll wsX3_clearLoads := goodIn_r _ [5, 6, 28, 29, 30, 31] (by decide +kernel) (by decide +kernel)
set_option maxRecDepth 20000 in
theorem gX3_tryAll_X3_clearLoads : GoodIn wsX3_tryAll (wsV RX3 21 RX3 yX3_clearLoads wsX3_clearLoads) := goodIn_app (goodIn_of _ (by decide +kernel)) ggX3_tryAll_X3_clearLoads
set_option maxRecDepth 20000 in
theorem ggX3_tryAll_X3_tryFrom : GoodIn wsX3_tryAll wsX3_tryFrom := goodIn_r _ [9, 6, 10, 11, 12, 13, 14, 15, 16, 4, 17, 18, 19, 20, 21, 22, 23, 24, 25, 26, 27, 7, 8, 32, 33, 28, 29, 30, 31] (by decide +kernel) (by decide +kernel)
set_option maxRecDepth 20000 in
theorem gX3_tryAll_X3_tryFrom : GoodIn wsX3_tryAll (va_wsS RX3 32 yX3_tryFrom wsX3_tryFrom) := goodIn_app (goodIn_of _ (by decide +kernel)) ggX3_tryAll_X3_tryFrom
theorem dX3_tryAll_0 : decode cX3_tryAll 0 = .ok (.aload_n 0, 1) := by decide +kernel
theorem dX3_tryAll_1 : decode cX3_tryAll 1 = .ok (.invokevirtual 21, 3) := by decide +kernel
theorem dX3_tryAll_4 : decode cX3_tryAll 4 = .ok (.aload_n 0, 1) := by decide +kernel
theorem dX3_tryAll_5 : decode cX3_tryAll 5 = .ok (.aload_n 1, 1) := by decide +kernel
theorem dX3_tryAll_6 : decode cX3_tryAll 6 = .ok (.iconst 0, 1) := by decide +kernel
theorem dX3_tryAll_7 : decode cX3_tryAll 7 = .ok (.invokestatic 32, 3) := by decide +kernel
theorem dX3_tryAll_10 : decode cX3_tryAll 10 = .ok (.ireturn, 1) := by decide +kernel
set_option maxRecDepth 20000 in
theorem ggX3_searchFrom_X3_greatest : GoodIn wsX3_searchFrom wsX3_greatest := goodIn_r _ [8, 3, 9, 10, 11, 12, 27, 28, 29, 30] (by decide +kernel) (by decide +kernel)
set_option maxRecDepth 20000 in
theorem gX3_searchFrom_X3_greatest : GoodIn wsX3_searchFrom (wsV RX3 36 RX3 yX3_greatest wsX3_greatest) := goodIn_app (goodIn_of _ (by decide +kernel)) ggX3_searchFrom_X3_greatest
set_option maxRecDepth 20000 in
theorem ggX3_searchFrom_X3_keep : GoodIn wsX3_searchFrom wsX3_keep := goodIn_r _ [16, 1, 17, 2, 27, 28, 29, 30] (by decide +kernel) (by decide +kernel)
set_option maxRecDepth 20000 in
theorem gX3_searchFrom_X3_keep : GoodIn wsX3_searchFrom (wsV RX3 45 RX3 yX3_keep wsX3_keep) := goodIn_app (goodIn_of _ (by decide +kernel)) ggX3_searchFrom_X3_keep
set_option maxRecDepth 20000 in
theorem ggX3_searchFrom_X1_timeOn : GoodIn wsX3_searchFrom wsX1_timeOn := goodIn_r _ [22, 23, 24, 31, 32] (by decide +kernel) (by decide +kernel)
set_option maxRecDepth 20000 in
theorem gX3_searchFrom_X1_timeOn : GoodIn wsX3_searchFrom (wsV RX3 49 RX1 yX1_timeOn wsX1_timeOn) := goodIn_app (goodIn_of _ (by decide +kernel)) ggX3_searchFrom_X1_timeOn
set_option maxRecDepth 20000 in
theorem ggX3_searchFrom_X3_searchFrom : GoodIn wsX3_searchFrom wsX3_searchFrom := goodIn_r _ [0, 1, 2, 3, 4, 5, 6, 7, 8, 9, 10, 11, 12, 13, 14, 15, 16, 17, 18, 19, 20, 21, 22, 23, 24, 25, 26, 27, 28, 29, 30, 31, 32] (by decide +kernel) (by decide +kernel)
set_option maxRecDepth 20000 in
theorem gX3_searchFrom_X3_searchFrom : GoodIn wsX3_searchFrom (va_wsS RX3 28 yX3_searchFrom wsX3_searchFrom) := goodIn_app (goodIn_of _ (by decide +kernel)) ggX3_searchFrom_X3_searchFrom
theorem dX3_searchFrom_0 : decode cX3_searchFrom 0 = .ok (.aload_n 0, 1) := by decide +kernel
theorem dX3_searchFrom_1 : decode cX3_searchFrom 1 = .ok (.invokevirtual 36, 3) := by decide +kernel
theorem dX3_searchFrom_4 : decode cX3_searchFrom 4 = .ok (.istore_n 3, 1) := by decide +kernel
theorem dX3_searchFrom_5 : decode cX3_searchFrom 5 = .ok (.iload_n 3, 1) := by decide +kernel
theorem dX3_searchFrom_6 : decode cX3_searchFrom 6 = .ok (.aload_n 0, 1) := by decide +kernel
theorem dX3_searchFrom_7 : decode cX3_searchFrom 7 = .ok (.getfield 24, 3) := by decide +kernel
theorem dX3_searchFrom_10 : decode cX3_searchFrom 10 = .ok (.if_icmp .lt 4, 3) := by decide +kernel
theorem dX3_searchFrom_13 : decode cX3_searchFrom 13 = .ok (.return_, 1) := by decide +kernel
theorem dX3_searchFrom_14 : decode cX3_searchFrom 14 = .ok (.iload_n 2, 1) := by decide +kernel
theorem dX3_searchFrom_15 : decode cX3_searchFrom 15 = .ok (.aload_n 1, 1) := by decide +kernel
theorem dX3_searchFrom_16 : decode cX3_searchFrom 16 = .ok (.getfield 40, 3) := by decide +kernel
theorem dX3_searchFrom_19 : decode cX3_searchFrom 19 = .ok (.if_icmp .ge 9, 3) := by decide +kernel
theorem dX3_searchFrom_22 : decode cX3_searchFrom 22 = .ok (.iload_n 2, 1) := by decide +kernel
theorem dX3_searchFrom_23 : decode cX3_searchFrom 23 = .ok (.bipush 7, 2) := by decide +kernel
theorem dX3_searchFrom_25 : decode cX3_searchFrom 25 = .ok (.if_icmp .lt 9, 3) := by decide +kernel
theorem dX3_searchFrom_28 : decode cX3_searchFrom 28 = .ok (.aload_n 0, 1) := by decide +kernel
theorem dX3_searchFrom_29 : decode cX3_searchFrom 29 = .ok (.iload_n 3, 1) := by decide +kernel
theorem dX3_searchFrom_30 : decode cX3_searchFrom 30 = .ok (.invokevirtual 45, 3) := by decide +kernel
theorem dX3_searchFrom_33 : decode cX3_searchFrom 33 = .ok (.return_, 1) := by decide +kernel
theorem dX3_searchFrom_34 : decode cX3_searchFrom 34 = .ok (.iconst 0, 1) := by decide +kernel
theorem dX3_searchFrom_35 : decode cX3_searchFrom 35 = .ok (.istore 4, 2) := by decide +kernel
theorem dX3_searchFrom_37 : decode cX3_searchFrom 37 = .ok (.iload 4, 2) := by decide +kernel
theorem dX3_searchFrom_39 : decode cX3_searchFrom 39 = .ok (.iconst 3, 1) := by decide +kernel
theorem dX3_searchFrom_40 : decode cX3_searchFrom 40 = .ok (.if_icmp .ge 63, 3) := by decide +kernel
theorem dX3_searchFrom_43 : decode cX3_searchFrom 43 = .ok (.aload_n 1, 1) := by decide +kernel
theorem dX3_searchFrom_44 : decode cX3_searchFrom 44 = .ok (.iload_n 2, 1) := by decide +kernel
theorem dX3_searchFrom_45 : decode cX3_searchFrom 45 = .ok (.iload 4, 2) := by decide +kernel
theorem dX3_searchFrom_47 : decode cX3_searchFrom 47 = .ok (.invokevirtual 49, 3) := by decide +kernel
theorem dX3_searchFrom_50 : decode cX3_searchFrom 50 = .ok (.istore 5, 2) := by decide +kernel
theorem dX3_searchFrom_52 : decode cX3_searchFrom 52 = .ok (.iload 5, 2) := by decide +kernel
theorem dX3_searchFrom_54 : decode cX3_searchFrom 54 = .ok (.ifCond .le 43, 3) := by decide +kernel
theorem dX3_searchFrom_57 : decode cX3_searchFrom 57 = .ok (.aload_n 0, 1) := by decide +kernel
theorem dX3_searchFrom_58 : decode cX3_searchFrom 58 = .ok (.getfield 15, 3) := by decide +kernel
theorem dX3_searchFrom_61 : decode cX3_searchFrom 61 = .ok (.iload_n 2, 1) := by decide +kernel
theorem dX3_searchFrom_62 : decode cX3_searchFrom 62 = .ok (.iload 4, 2) := by decide +kernel
theorem dX3_searchFrom_64 : decode cX3_searchFrom 64 = .ok (.iastore, 1) := by decide +kernel
theorem dX3_searchFrom_65 : decode cX3_searchFrom 65 = .ok (.aload_n 0, 1) := by decide +kernel
theorem dX3_searchFrom_66 : decode cX3_searchFrom 66 = .ok (.getfield 9, 3) := by decide +kernel
theorem dX3_searchFrom_69 : decode cX3_searchFrom 69 = .ok (.iload 4, 2) := by decide +kernel
theorem dX3_searchFrom_71 : decode cX3_searchFrom 71 = .ok (.dup2, 1) := by decide +kernel
theorem dX3_searchFrom_72 : decode cX3_searchFrom 72 = .ok (.iaload, 1) := by decide +kernel
theorem dX3_searchFrom_73 : decode cX3_searchFrom 73 = .ok (.iload 5, 2) := by decide +kernel
theorem dX3_searchFrom_75 : decode cX3_searchFrom 75 = .ok (.iadd, 1) := by decide +kernel
theorem dX3_searchFrom_76 : decode cX3_searchFrom 76 = .ok (.iastore, 1) := by decide +kernel
theorem dX3_searchFrom_77 : decode cX3_searchFrom 77 = .ok (.aload_n 0, 1) := by decide +kernel
theorem dX3_searchFrom_78 : decode cX3_searchFrom 78 = .ok (.aload_n 1, 1) := by decide +kernel
theorem dX3_searchFrom_79 : decode cX3_searchFrom 79 = .ok (.iload_n 2, 1) := by decide +kernel
theorem dX3_searchFrom_80 : decode cX3_searchFrom 80 = .ok (.iconst 1, 1) := by decide +kernel
theorem dX3_searchFrom_81 : decode cX3_searchFrom 81 = .ok (.iadd, 1) := by decide +kernel
theorem dX3_searchFrom_82 : decode cX3_searchFrom 82 = .ok (.invokestatic 28, 3) := by decide +kernel
theorem dX3_searchFrom_85 : decode cX3_searchFrom 85 = .ok (.aload_n 0, 1) := by decide +kernel
theorem dX3_searchFrom_86 : decode cX3_searchFrom 86 = .ok (.getfield 9, 3) := by decide +kernel
theorem dX3_searchFrom_89 : decode cX3_searchFrom 89 = .ok (.iload 4, 2) := by decide +kernel
theorem dX3_searchFrom_91 : decode cX3_searchFrom 91 = .ok (.dup2, 1) := by decide +kernel
theorem dX3_searchFrom_92 : decode cX3_searchFrom 92 = .ok (.iaload, 1) := by decide +kernel
theorem dX3_searchFrom_93 : decode cX3_searchFrom 93 = .ok (.iload 5, 2) := by decide +kernel
theorem dX3_searchFrom_95 : decode cX3_searchFrom 95 = .ok (.isub, 1) := by decide +kernel
theorem dX3_searchFrom_96 : decode cX3_searchFrom 96 = .ok (.iastore, 1) := by decide +kernel
theorem dX3_searchFrom_97 : decode cX3_searchFrom 97 = .ok (.iinc 4 1, 3) := by decide +kernel
theorem dX3_searchFrom_100 : decode cX3_searchFrom 100 = .ok (.goto (-63), 3) := by decide +kernel
theorem dX3_searchFrom_103 : decode cX3_searchFrom 103 = .ok (.return_, 1) := by decide +kernel
set_option maxRecDepth 20000 in
theorem ggX3_tryFrom_X3_greatest : GoodIn wsX3_tryFrom wsX3_greatest := goodIn_r _ [10, 1, 11, 12, 4, 13, 25, 26, 27, 28] (by decide +kernel) (by decide +kernel)
set_option maxRecDepth 20000 in
theorem gX3_tryFrom_X3_greatest : GoodIn wsX3_tryFrom (wsV RX3 36 RX3 yX3_greatest wsX3_greatest) := goodIn_app (goodIn_of _ (by decide +kernel)) ggX3_tryFrom_X3_greatest
set_option maxRecDepth 20000 in
theorem ggX3_tryFrom_X1_timeOn : GoodIn wsX3_tryFrom wsX1_timeOn := goodIn_r _ [18, 19, 20, 23, 24] (by decide +kernel) (by decide +kernel)
set_option maxRecDepth 20000 in
theorem gX3_tryFrom_X1_timeOn : GoodIn wsX3_tryFrom (wsV RX3 49 RX1 yX1_timeOn wsX1_timeOn) := goodIn_app (goodIn_of _ (by decide +kernel)) ggX3_tryFrom_X1_timeOn
set_option maxRecDepth 20000 in
theorem ggX3_tryFrom_X3_tryFrom : GoodIn wsX3_tryFrom wsX3_tryFrom := goodIn_r _ [0, 1, 2, 3, 4, 5, 6, 7, 8, 9, 10, 11, 12, 13, 14, 15, 16, 17, 18, 19, 20, 21, 22, 23, 24, 25, 26, 27, 28] (by decide +kernel) (by decide +kernel)
set_option maxRecDepth 20000 in
theorem gX3_tryFrom_X3_tryFrom : GoodIn wsX3_tryFrom (va_wsS RX3 32 yX3_tryFrom wsX3_tryFrom) := goodIn_app (goodIn_of _ (by decide +kernel)) ggX3_tryFrom_X3_tryFrom
theorem dX3_tryFrom_0 : decode cX3_tryFrom 0 = .ok (.iload_n 2, 1) := by decide +kernel
theorem dX3_tryFrom_1 : decode cX3_tryFrom 1 = .ok (.aload_n 1, 1) := by decide +kernel
theorem dX3_tryFrom_2 : decode cX3_tryFrom 2 = .ok (.getfield 40, 3) := by decide +kernel
theorem dX3_tryFrom_5 : decode cX3_tryFrom 5 = .ok (.if_icmp .ge 9, 3) := by decide +kernel
theorem dX3_tryFrom_8 : decode cX3_tryFrom 8 = .ok (.iload_n 2, 1) := by decide +kernel
theorem dX3_tryFrom_9 : decode cX3_tryFrom 9 = .ok (.bipush 7, 2) := by decide +kernel
theorem dX3_tryFrom_11 : decode cX3_tryFrom 11 = .ok (.if_icmp .lt 8, 3) := by decide +kernel
theorem dX3_tryFrom_14 : decode cX3_tryFrom 14 = .ok (.aload_n 0, 1) := by decide +kernel
theorem dX3_tryFrom_15 : decode cX3_tryFrom 15 = .ok (.invokevirtual 36, 3) := by decide +kernel
theorem dX3_tryFrom_18 : decode cX3_tryFrom 18 = .ok (.ireturn, 1) := by decide +kernel
theorem dX3_tryFrom_19 : decode cX3_tryFrom 19 = .ok (.sipush 351, 3) := by decide +kernel
theorem dX3_tryFrom_22 : decode cX3_tryFrom 22 = .ok (.istore_n 3, 1) := by decide +kernel
theorem dX3_tryFrom_23 : decode cX3_tryFrom 23 = .ok (.iconst 0, 1) := by decide +kernel
theorem dX3_tryFrom_24 : decode cX3_tryFrom 24 = .ok (.istore 4, 2) := by decide +kernel
theorem dX3_tryFrom_26 : decode cX3_tryFrom 26 = .ok (.iload 4, 2) := by decide +kernel
theorem dX3_tryFrom_28 : decode cX3_tryFrom 28 = .ok (.iconst 3, 1) := by decide +kernel
theorem dX3_tryFrom_29 : decode cX3_tryFrom 29 = .ok (.if_icmp .ge 60, 3) := by decide +kernel
theorem dX3_tryFrom_32 : decode cX3_tryFrom 32 = .ok (.aload_n 1, 1) := by decide +kernel
theorem dX3_tryFrom_33 : decode cX3_tryFrom 33 = .ok (.iload_n 2, 1) := by decide +kernel
theorem dX3_tryFrom_34 : decode cX3_tryFrom 34 = .ok (.iload 4, 2) := by decide +kernel
theorem dX3_tryFrom_36 : decode cX3_tryFrom 36 = .ok (.invokevirtual 49, 3) := by decide +kernel
theorem dX3_tryFrom_39 : decode cX3_tryFrom 39 = .ok (.istore 5, 2) := by decide +kernel
theorem dX3_tryFrom_41 : decode cX3_tryFrom 41 = .ok (.iload 5, 2) := by decide +kernel
theorem dX3_tryFrom_43 : decode cX3_tryFrom 43 = .ok (.ifCond .le 40, 3) := by decide +kernel
theorem dX3_tryFrom_46 : decode cX3_tryFrom 46 = .ok (.aload_n 0, 1) := by decide +kernel
theorem dX3_tryFrom_47 : decode cX3_tryFrom 47 = .ok (.getfield 9, 3) := by decide +kernel
theorem dX3_tryFrom_50 : decode cX3_tryFrom 50 = .ok (.iload 4, 2) := by decide +kernel
theorem dX3_tryFrom_52 : decode cX3_tryFrom 52 = .ok (.dup2, 1) := by decide +kernel
theorem dX3_tryFrom_53 : decode cX3_tryFrom 53 = .ok (.iaload, 1) := by decide +kernel
theorem dX3_tryFrom_54 : decode cX3_tryFrom 54 = .ok (.iload 5, 2) := by decide +kernel
theorem dX3_tryFrom_56 : decode cX3_tryFrom 56 = .ok (.iadd, 1) := by decide +kernel
theorem dX3_tryFrom_57 : decode cX3_tryFrom 57 = .ok (.iastore, 1) := by decide +kernel
theorem dX3_tryFrom_58 : decode cX3_tryFrom 58 = .ok (.iload_n 3, 1) := by decide +kernel
theorem dX3_tryFrom_59 : decode cX3_tryFrom 59 = .ok (.aload_n 0, 1) := by decide +kernel
theorem dX3_tryFrom_60 : decode cX3_tryFrom 60 = .ok (.aload_n 1, 1) := by decide +kernel
theorem dX3_tryFrom_61 : decode cX3_tryFrom 61 = .ok (.iload_n 2, 1) := by decide +kernel
theorem dX3_tryFrom_62 : decode cX3_tryFrom 62 = .ok (.iconst 1, 1) := by decide +kernel
theorem dX3_tryFrom_63 : decode cX3_tryFrom 63 = .ok (.iadd, 1) := by decide +kernel
theorem dX3_tryFrom_64 : decode cX3_tryFrom 64 = .ok (.invokestatic 32, 3) := by decide +kernel
theorem dX3_tryFrom_67 : decode cX3_tryFrom 67 = .ok (.invokestatic 53, 3) := by decide +kernel
theorem dX3_tryFrom_70 : decode cX3_tryFrom 70 = .ok (.istore_n 3, 1) := by decide +kernel
theorem dX3_tryFrom_71 : decode cX3_tryFrom 71 = .ok (.aload_n 0, 1) := by decide +kernel
theorem dX3_tryFrom_72 : decode cX3_tryFrom 72 = .ok (.getfield 9, 3) := by decide +kernel
theorem dX3_tryFrom_75 : decode cX3_tryFrom 75 = .ok (.iload 4, 2) := by decide +kernel
theorem dX3_tryFrom_77 : decode cX3_tryFrom 77 = .ok (.dup2, 1) := by decide +kernel
theorem dX3_tryFrom_78 : decode cX3_tryFrom 78 = .ok (.iaload, 1) := by decide +kernel
theorem dX3_tryFrom_79 : decode cX3_tryFrom 79 = .ok (.iload 5, 2) := by decide +kernel
theorem dX3_tryFrom_81 : decode cX3_tryFrom 81 = .ok (.isub, 1) := by decide +kernel
theorem dX3_tryFrom_82 : decode cX3_tryFrom 82 = .ok (.iastore, 1) := by decide +kernel
theorem dX3_tryFrom_83 : decode cX3_tryFrom 83 = .ok (.iinc 4 1, 3) := by decide +kernel
theorem dX3_tryFrom_86 : decode cX3_tryFrom 86 = .ok (.goto (-60), 3) := by decide +kernel
theorem dX3_tryFrom_89 : decode cX3_tryFrom 89 = .ok (.iload_n 3, 1) := by decide +kernel
theorem dX3_tryFrom_90 : decode cX3_tryFrom 90 = .ok (.ireturn, 1) := by decide +kernel
theorem dX3_clearLoads_0 : decode cX3_clearLoads 0 = .ok (.iconst 0, 1) := by decide +kernel
theorem dX3_clearLoads_1 : decode cX3_clearLoads 1 = .ok (.istore_n 1, 1) := by decide +kernel
theorem dX3_clearLoads_2 : decode cX3_clearLoads 2 = .ok (.iload_n 1, 1) := by decide +kernel
theorem dX3_clearLoads_3 : decode cX3_clearLoads 3 = .ok (.iconst 3, 1) := by decide +kernel
theorem dX3_clearLoads_4 : decode cX3_clearLoads 4 = .ok (.if_icmp .ge 16, 3) := by decide +kernel
theorem dX3_clearLoads_7 : decode cX3_clearLoads 7 = .ok (.aload_n 0, 1) := by decide +kernel
theorem dX3_clearLoads_8 : decode cX3_clearLoads 8 = .ok (.getfield 9, 3) := by decide +kernel
theorem dX3_clearLoads_11 : decode cX3_clearLoads 11 = .ok (.iload_n 1, 1) := by decide +kernel
theorem dX3_clearLoads_12 : decode cX3_clearLoads 12 = .ok (.iconst 0, 1) := by decide +kernel
theorem dX3_clearLoads_13 : decode cX3_clearLoads 13 = .ok (.iastore, 1) := by decide +kernel
theorem dX3_clearLoads_14 : decode cX3_clearLoads 14 = .ok (.iinc 1 1, 3) := by decide +kernel
theorem dX3_clearLoads_17 : decode cX3_clearLoads 17 = .ok (.goto (-15), 3) := by decide +kernel
theorem dX3_clearLoads_20 : decode cX3_clearLoads 20 = .ok (.return_, 1) := by decide +kernel
theorem dX3_greatest_0 : decode cX3_greatest 0 = .ok (.aload_n 0, 1) := by decide +kernel
theorem dX3_greatest_1 : decode cX3_greatest 1 = .ok (.getfield 9, 3) := by decide +kernel
theorem dX3_greatest_4 : decode cX3_greatest 4 = .ok (.iconst 0, 1) := by decide +kernel
theorem dX3_greatest_5 : decode cX3_greatest 5 = .ok (.iaload, 1) := by decide +kernel
theorem dX3_greatest_6 : decode cX3_greatest 6 = .ok (.aload_n 0, 1) := by decide +kernel
theorem dX3_greatest_7 : decode cX3_greatest 7 = .ok (.getfield 9, 3) := by decide +kernel
theorem dX3_greatest_10 : decode cX3_greatest 10 = .ok (.iconst 1, 1) := by decide +kernel
theorem dX3_greatest_11 : decode cX3_greatest 11 = .ok (.iaload, 1) := by decide +kernel
theorem dX3_greatest_12 : decode cX3_greatest 12 = .ok (.invokestatic 58, 3) := by decide +kernel
theorem dX3_greatest_15 : decode cX3_greatest 15 = .ok (.aload_n 0, 1) := by decide +kernel
theorem dX3_greatest_16 : decode cX3_greatest 16 = .ok (.getfield 9, 3) := by decide +kernel
theorem dX3_greatest_19 : decode cX3_greatest 19 = .ok (.iconst 2, 1) := by decide +kernel
theorem dX3_greatest_20 : decode cX3_greatest 20 = .ok (.iaload, 1) := by decide +kernel
theorem dX3_greatest_21 : decode cX3_greatest 21 = .ok (.invokestatic 58, 3) := by decide +kernel
theorem dX3_greatest_24 : decode cX3_greatest 24 = .ok (.ireturn, 1) := by decide +kernel
theorem dX3_keep_0 : decode cX3_keep 0 = .ok (.aload_n 0, 1) := by decide +kernel
theorem dX3_keep_1 : decode cX3_keep 1 = .ok (.iload_n 1, 1) := by decide +kernel
theorem dX3_keep_2 : decode cX3_keep 2 = .ok (.putfield 24, 3) := by decide +kernel
theorem dX3_keep_5 : decode cX3_keep 5 = .ok (.iconst 0, 1) := by decide +kernel
theorem dX3_keep_6 : decode cX3_keep 6 = .ok (.istore_n 2, 1) := by decide +kernel
theorem dX3_keep_7 : decode cX3_keep 7 = .ok (.iload_n 2, 1) := by decide +kernel
theorem dX3_keep_8 : decode cX3_keep 8 = .ok (.bipush 7, 2) := by decide +kernel
theorem dX3_keep_10 : decode cX3_keep 10 = .ok (.if_icmp .ge 21, 3) := by decide +kernel
theorem dX3_keep_13 : decode cX3_keep 13 = .ok (.aload_n 0, 1) := by decide +kernel
theorem dX3_keep_14 : decode cX3_keep 14 = .ok (.getfield 18, 3) := by decide +kernel
theorem dX3_keep_17 : decode cX3_keep 17 = .ok (.iload_n 2, 1) := by decide +kernel
theorem dX3_keep_18 : decode cX3_keep 18 = .ok (.aload_n 0, 1) := by decide +kernel
theorem dX3_keep_19 : decode cX3_keep 19 = .ok (.getfield 15, 3) := by decide +kernel
theorem dX3_keep_22 : decode cX3_keep 22 = .ok (.iload_n 2, 1) := by decide +kernel
theorem dX3_keep_23 : decode cX3_keep 23 = .ok (.iaload, 1) := by decide +kernel
theorem dX3_keep_24 : decode cX3_keep 24 = .ok (.iastore, 1) := by decide +kernel
theorem dX3_keep_25 : decode cX3_keep 25 = .ok (.iinc 2 1, 3) := by decide +kernel
theorem dX3_keep_28 : decode cX3_keep 28 = .ok (.goto (-21), 3) := by decide +kernel
theorem dX3_keep_31 : decode cX3_keep 31 = .ok (.return_, 1) := by decide +kernel
theorem dX4_init_0 : decode cX4_init 0 = .ok (.aload_n 0, 1) := by decide +kernel
theorem dX4_init_1 : decode cX4_init 1 = .ok (.invokespecial 3, 3) := by decide +kernel
theorem dX4_init_4 : decode cX4_init 4 = .ok (.aload_n 0, 1) := by decide +kernel
theorem dX4_init_5 : decode cX4_init 5 = .ok (.bipush 7, 2) := by decide +kernel
theorem dX4_init_7 : decode cX4_init 7 = .ok (.newarray .int, 2) := by decide +kernel
theorem dX4_init_9 : decode cX4_init 9 = .ok (.putfield 9, 3) := by decide +kernel
theorem dX4_init_12 : decode cX4_init 12 = .ok (.return_, 1) := by decide +kernel
set_option maxRecDepth 20000 in
theorem ggX4_make_X4_matchFrom : GoodIn wsX4_make wsX4_matchFrom := goodIn_r _ [4, 5, 6, 7, 8, 9, 10, 11, 12, 13, 14, 15, 16, 1, 2, 3, 17, 18, 19, 20, 21, 22, 23, 24, 25, 26] (by decide +kernel) (by decide +kernel)
set_option maxRecDepth 20000 in
theorem gX4_make_X4_matchFrom : GoodIn wsX4_make (va_wsS RX4 15 yX4_matchFrom wsX4_matchFrom) := goodIn_app (goodIn_of _ (by decide +kernel)) ggX4_make_X4_matchFrom
theorem dX4_make_0 : decode cX4_make 0 = .ok (.aload_n 0, 1) := by decide +kernel
theorem dX4_make_1 : decode cX4_make 1 = .ok (.aload_n 1, 1) := by decide +kernel
theorem dX4_make_2 : decode cX4_make 2 = .ok (.aload_n 2, 1) := by decide +kernel
theorem dX4_make_3 : decode cX4_make 3 = .ok (.iconst 0, 1) := by decide +kernel
theorem dX4_make_4 : decode cX4_make 4 = .ok (.iconst 0, 1) := by decide +kernel
theorem dX4_make_5 : decode cX4_make 5 = .ok (.invokestatic 15, 3) := by decide +kernel
theorem dX4_make_8 : decode cX4_make 8 = .ok (.pop, 1) := by decide +kernel
theorem dX4_make_9 : decode cX4_make 9 = .ok (.return_, 1) := by decide +kernel
set_option maxRecDepth 20000 in
theorem ggX4_matchFrom_X0_wholeMachine : GoodIn wsX4_matchFrom wsX0_wholeMachine := goodIn_r _ [6, 7, 8, 9, 10, 5, 11, 12, 20, 21, 22, 23, 24, 25] (by decide +kernel) (by decide +kernel)
set_option maxRecDepth 20000 in
theorem gX4_matchFrom_X0_wholeMachine : GoodIn wsX4_matchFrom (wsV RX4 25 RX0 yX0_wholeMachine wsX0_wholeMachine) := goodIn_app (goodIn_of _ (by decide +kernel)) ggX4_matchFrom_X0_wholeMachine
set_option maxRecDepth 20000 in
theorem ggX4_matchFrom_X4_matchFrom : GoodIn wsX4_matchFrom wsX4_matchFrom := goodIn_r _ [0, 1, 2, 3, 4, 5, 6, 7, 8, 9, 10, 11, 12, 13, 14, 15, 16, 17, 18, 19, 20, 21, 22, 23, 24, 25] (by decide +kernel) (by decide +kernel)
set_option maxRecDepth 20000 in
theorem gX4_matchFrom_X4_matchFrom : GoodIn wsX4_matchFrom (va_wsS RX4 15 yX4_matchFrom wsX4_matchFrom) := goodIn_app (goodIn_of _ (by decide +kernel)) ggX4_matchFrom_X4_matchFrom
set_option maxRecDepth 20000 in
theorem ggX4_matchFrom_X0_hasShare : GoodIn wsX4_matchFrom wsX0_hasShare := goodIn_r _ [11, 12, 20, 21, 22, 23, 24, 25] (by decide +kernel) (by decide +kernel)
set_option maxRecDepth 20000 in
theorem gX4_matchFrom_X0_hasShare : GoodIn wsX4_matchFrom (wsV RX4 31 RX0 yX0_hasShare wsX0_hasShare) := goodIn_app (goodIn_of _ (by decide +kernel)) ggX4_matchFrom_X0_hasShare
theorem dX4_matchFrom_0 : decode cX4_matchFrom 0 = .ok (.iload_n 3, 1) := by decide +kernel
theorem dX4_matchFrom_1 : decode cX4_matchFrom 1 = .ok (.aload_n 1, 1) := by decide +kernel
theorem dX4_matchFrom_2 : decode cX4_matchFrom 2 = .ok (.getfield 19, 3) := by decide +kernel
theorem dX4_matchFrom_5 : decode cX4_matchFrom 5 = .ok (.if_icmp .ge 9, 3) := by decide +kernel
theorem dX4_matchFrom_8 : decode cX4_matchFrom 8 = .ok (.iload_n 3, 1) := by decide +kernel
theorem dX4_matchFrom_9 : decode cX4_matchFrom 9 = .ok (.bipush 7, 2) := by decide +kernel
theorem dX4_matchFrom_11 : decode cX4_matchFrom 11 = .ok (.if_icmp .lt 5, 3) := by decide +kernel
theorem dX4_matchFrom_14 : decode cX4_matchFrom 14 = .ok (.iconst 1, 1) := by decide +kernel
theorem dX4_matchFrom_15 : decode cX4_matchFrom 15 = .ok (.ireturn, 1) := by decide +kernel
theorem dX4_matchFrom_16 : decode cX4_matchFrom 16 = .ok (.aload_n 2, 1) := by decide +kernel
theorem dX4_matchFrom_17 : decode cX4_matchFrom 17 = .ok (.iload_n 3, 1) := by decide +kernel
theorem dX4_matchFrom_18 : decode cX4_matchFrom 18 = .ok (.invokevirtual 25, 3) := by decide +kernel
theorem dX4_matchFrom_21 : decode cX4_matchFrom 21 = .ok (.istore 5, 2) := by decide +kernel
theorem dX4_matchFrom_23 : decode cX4_matchFrom 23 = .ok (.iload 5, 2) := by decide +kernel
theorem dX4_matchFrom_25 : decode cX4_matchFrom 25 = .ok (.iconst (-1), 1) := by decide +kernel
theorem dX4_matchFrom_26 : decode cX4_matchFrom 26 = .ok (.if_icmp .eq 23, 3) := by decide +kernel
theorem dX4_matchFrom_29 : decode cX4_matchFrom 29 = .ok (.aload_n 0, 1) := by decide +kernel
theorem dX4_matchFrom_30 : decode cX4_matchFrom 30 = .ok (.getfield 9, 3) := by decide +kernel
theorem dX4_matchFrom_33 : decode cX4_matchFrom 33 = .ok (.iload_n 3, 1) := by decide +kernel
theorem dX4_matchFrom_34 : decode cX4_matchFrom 34 = .ok (.iload 5, 2) := by decide +kernel
theorem dX4_matchFrom_36 : decode cX4_matchFrom 36 = .ok (.iastore, 1) := by decide +kernel
theorem dX4_matchFrom_37 : decode cX4_matchFrom 37 = .ok (.aload_n 0, 1) := by decide +kernel
theorem dX4_matchFrom_38 : decode cX4_matchFrom 38 = .ok (.aload_n 1, 1) := by decide +kernel
theorem dX4_matchFrom_39 : decode cX4_matchFrom 39 = .ok (.aload_n 2, 1) := by decide +kernel
theorem dX4_matchFrom_40 : decode cX4_matchFrom 40 = .ok (.iload_n 3, 1) := by decide +kernel
theorem dX4_matchFrom_41 : decode cX4_matchFrom 41 = .ok (.iconst 1, 1) := by decide +kernel
theorem dX4_matchFrom_42 : decode cX4_matchFrom 42 = .ok (.iadd, 1) := by decide +kernel
theorem dX4_matchFrom_43 : decode cX4_matchFrom 43 = .ok (.iload 4, 2) := by decide +kernel
theorem dX4_matchFrom_45 : decode cX4_matchFrom 45 = .ok (.invokestatic 15, 3) := by decide +kernel
theorem dX4_matchFrom_48 : decode cX4_matchFrom 48 = .ok (.ireturn, 1) := by decide +kernel
theorem dX4_matchFrom_49 : decode cX4_matchFrom 49 = .ok (.iconst 0, 1) := by decide +kernel
theorem dX4_matchFrom_50 : decode cX4_matchFrom 50 = .ok (.istore 6, 2) := by decide +kernel
theorem dX4_matchFrom_52 : decode cX4_matchFrom 52 = .ok (.iload 6, 2) := by decide +kernel
theorem dX4_matchFrom_54 : decode cX4_matchFrom 54 = .ok (.iconst 3, 1) := by decide +kernel
theorem dX4_matchFrom_55 : decode cX4_matchFrom 55 = .ok (.if_icmp .ge 60, 3) := by decide +kernel
theorem dX4_matchFrom_58 : decode cX4_matchFrom 58 = .ok (.iconst 1, 1) := by decide +kernel
theorem dX4_matchFrom_59 : decode cX4_matchFrom 59 = .ok (.iload 6, 2) := by decide +kernel
theorem dX4_matchFrom_61 : decode cX4_matchFrom 61 = .ok (.ishl, 1) := by decide +kernel
theorem dX4_matchFrom_62 : decode cX4_matchFrom 62 = .ok (.istore 7, 2) := by decide +kernel
theorem dX4_matchFrom_64 : decode cX4_matchFrom 64 = .ok (.aload_n 2, 1) := by decide +kernel
theorem dX4_matchFrom_65 : decode cX4_matchFrom 65 = .ok (.iload_n 3, 1) := by decide +kernel
theorem dX4_matchFrom_66 : decode cX4_matchFrom 66 = .ok (.iload 6, 2) := by decide +kernel
theorem dX4_matchFrom_68 : decode cX4_matchFrom 68 = .ok (.invokevirtual 31, 3) := by decide +kernel
theorem dX4_matchFrom_71 : decode cX4_matchFrom 71 = .ok (.ifCond .eq 38, 3) := by decide +kernel
theorem dX4_matchFrom_74 : decode cX4_matchFrom 74 = .ok (.iload 4, 2) := by decide +kernel
theorem dX4_matchFrom_76 : decode cX4_matchFrom 76 = .ok (.iload 7, 2) := by decide +kernel
theorem dX4_matchFrom_78 : decode cX4_matchFrom 78 = .ok (.iand, 1) := by decide +kernel
theorem dX4_matchFrom_79 : decode cX4_matchFrom 79 = .ok (.ifCond .ne 30, 3) := by decide +kernel
theorem dX4_matchFrom_82 : decode cX4_matchFrom 82 = .ok (.aload_n 0, 1) := by decide +kernel
theorem dX4_matchFrom_83 : decode cX4_matchFrom 83 = .ok (.getfield 9, 3) := by decide +kernel
theorem dX4_matchFrom_86 : decode cX4_matchFrom 86 = .ok (.iload_n 3, 1) := by decide +kernel
theorem dX4_matchFrom_87 : decode cX4_matchFrom 87 = .ok (.iload 6, 2) := by decide +kernel
theorem dX4_matchFrom_89 : decode cX4_matchFrom 89 = .ok (.iastore, 1) := by decide +kernel
theorem dX4_matchFrom_90 : decode cX4_matchFrom 90 = .ok (.aload_n 0, 1) := by decide +kernel
theorem dX4_matchFrom_91 : decode cX4_matchFrom 91 = .ok (.aload_n 1, 1) := by decide +kernel
theorem dX4_matchFrom_92 : decode cX4_matchFrom 92 = .ok (.aload_n 2, 1) := by decide +kernel
theorem dX4_matchFrom_93 : decode cX4_matchFrom 93 = .ok (.iload_n 3, 1) := by decide +kernel
theorem dX4_matchFrom_94 : decode cX4_matchFrom 94 = .ok (.iconst 1, 1) := by decide +kernel
theorem dX4_matchFrom_95 : decode cX4_matchFrom 95 = .ok (.iadd, 1) := by decide +kernel
theorem dX4_matchFrom_96 : decode cX4_matchFrom 96 = .ok (.iload 4, 2) := by decide +kernel
theorem dX4_matchFrom_98 : decode cX4_matchFrom 98 = .ok (.iload 7, 2) := by decide +kernel
theorem dX4_matchFrom_100 : decode cX4_matchFrom 100 = .ok (.ior, 1) := by decide +kernel
theorem dX4_matchFrom_101 : decode cX4_matchFrom 101 = .ok (.invokestatic 15, 3) := by decide +kernel
theorem dX4_matchFrom_104 : decode cX4_matchFrom 104 = .ok (.ifCond .eq 5, 3) := by decide +kernel
theorem dX4_matchFrom_107 : decode cX4_matchFrom 107 = .ok (.iconst 1, 1) := by decide +kernel
theorem dX4_matchFrom_108 : decode cX4_matchFrom 108 = .ok (.ireturn, 1) := by decide +kernel
theorem dX4_matchFrom_109 : decode cX4_matchFrom 109 = .ok (.iinc 6 1, 3) := by decide +kernel
theorem dX4_matchFrom_112 : decode cX4_matchFrom 112 = .ok (.goto (-60), 3) := by decide +kernel
theorem dX4_matchFrom_115 : decode cX4_matchFrom 115 = .ok (.iconst 0, 1) := by decide +kernel
theorem dX4_matchFrom_116 : decode cX4_matchFrom 116 = .ok (.ireturn, 1) := by decide +kernel
theorem dX5_init_0 : decode cX5_init 0 = .ok (.aload_n 0, 1) := by decide +kernel
theorem dX5_init_1 : decode cX5_init 1 = .ok (.invokespecial 5, 3) := by decide +kernel
theorem dX5_init_4 : decode cX5_init 4 = .ok (.aload_n 0, 1) := by decide +kernel
theorem dX5_init_5 : decode cX5_init 5 = .ok (.bipush 10, 2) := by decide +kernel
theorem dX5_init_7 : decode cX5_init 7 = .ok (.bipush 26, 2) := by decide +kernel
theorem dX5_init_9 : decode cX5_init 9 = .ok (.multianewarray 11 2, 4) := by decide +kernel
theorem dX5_init_13 : decode cX5_init 13 = .ok (.putfield 13, 3) := by decide +kernel
theorem dX5_init_16 : decode cX5_init 16 = .ok (.aload_n 0, 1) := by decide +kernel
theorem dX5_init_17 : decode cX5_init 17 = .ok (.bipush 10, 2) := by decide +kernel
theorem dX5_init_19 : decode cX5_init 19 = .ok (.newarray .int, 2) := by decide +kernel
theorem dX5_init_21 : decode cX5_init 21 = .ok (.putfield 16, 3) := by decide +kernel
theorem dX5_init_24 : decode cX5_init 24 = .ok (.aload_n 0, 1) := by decide +kernel
theorem dX5_init_25 : decode cX5_init 25 = .ok (.bipush 25, 2) := by decide +kernel
theorem dX5_init_27 : decode cX5_init 27 = .ok (.newarray .boolean, 2) := by decide +kernel
theorem dX5_init_29 : decode cX5_init 29 = .ok (.putfield 20, 3) := by decide +kernel
theorem dX5_init_32 : decode cX5_init 32 = .ok (.return_, 1) := by decide +kernel
set_option maxRecDepth 20000 in
theorem ggX5_start_X5_clear : GoodIn wsX5_start wsX5_clear := goodIn_r _ [9, 10, 11, 12, 13, 14, 15, 3, 1, 4, 37, 38, 39, 40, 41] (by decide +kernel) (by decide +kernel)
set_option maxRecDepth 20000 in
theorem gX5_start_X5_clear : GoodIn wsX5_start (wsV RX5 30 RX5 yX5_clear wsX5_clear) := goodIn_app (goodIn_of _ (by decide +kernel)) ggX5_start_X5_clear
set_option maxRecDepth 20000 in
theorem ggX5_start_X5_layJob : GoodIn wsX5_start wsX5_layJob := goodIn_r _ [19, 1, 4, 3, 20, 21, 22, 23, 24, 25, 26, 27, 28, 29, 8, 30, 37, 38, 39, 40, 41, 35, 36] (by decide +kernel) (by decide +kernel)
set_option maxRecDepth 20000 in
theorem gX5_start_X5_layJob : GoodIn wsX5_start (wsV RX5 36 RX5 yX5_layJob wsX5_layJob) := goodIn_app (goodIn_of _ (by decide +kernel)) ggX5_start_X5_layJob
set_option maxRecDepth 20000 in
theorem ggX5_start_X5_admitExcess : GoodIn wsX5_start wsX5_admitExcess := goodIn_r _ [34, 1, 3, 37, 38, 39, 40, 41] (by decide +kernel) (by decide +kernel)
set_option maxRecDepth 20000 in
theorem gX5_start_X5_admitExcess : GoodIn wsX5_start (wsV RX5 40 RX5 yX5_admitExcess wsX5_admitExcess) := goodIn_app (goodIn_of _ (by decide +kernel)) ggX5_start_X5_admitExcess
theorem dX5_start_0 : decode cX5_start 0 = .ok (.aload_n 0, 1) := by decide +kernel
theorem dX5_start_1 : decode cX5_start 1 = .ok (.aload_n 1, 1) := by decide +kernel
theorem dX5_start_2 : decode cX5_start 2 = .ok (.getfield 24, 3) := by decide +kernel
theorem dX5_start_5 : decode cX5_start 5 = .ok (.invokevirtual 30, 3) := by decide +kernel
theorem dX5_start_8 : decode cX5_start 8 = .ok (.iconst 0, 1) := by decide +kernel
theorem dX5_start_9 : decode cX5_start 9 = .ok (.istore 4, 2) := by decide +kernel
theorem dX5_start_11 : decode cX5_start 11 = .ok (.iload 4, 2) := by decide +kernel
theorem dX5_start_13 : decode cX5_start 13 = .ok (.iconst 3, 1) := by decide +kernel
theorem dX5_start_14 : decode cX5_start 14 = .ok (.if_icmp .ge 69, 3) := by decide +kernel
theorem dX5_start_17 : decode cX5_start 17 = .ok (.bipush 21, 2) := by decide +kernel
theorem dX5_start_19 : decode cX5_start 19 = .ok (.iload 4, 2) := by decide +kernel
theorem dX5_start_21 : decode cX5_start 21 = .ok (.iadd, 1) := by decide +kernel
theorem dX5_start_22 : decode cX5_start 22 = .ok (.istore 5, 2) := by decide +kernel
theorem dX5_start_24 : decode cX5_start 24 = .ok (.aload_n 0, 1) := by decide +kernel
theorem dX5_start_25 : decode cX5_start 25 = .ok (.getfield 13, 3) := by decide +kernel
theorem dX5_start_28 : decode cX5_start 28 = .ok (.iload 4, 2) := by decide +kernel
theorem dX5_start_30 : decode cX5_start 30 = .ok (.aaload, 1) := by decide +kernel
theorem dX5_start_31 : decode cX5_start 31 = .ok (.iload 5, 2) := by decide +kernel
theorem dX5_start_33 : decode cX5_start 33 = .ok (.lconst 1, 1) := by decide +kernel
theorem dX5_start_34 : decode cX5_start 34 = .ok (.lastore, 1) := by decide +kernel
theorem dX5_start_35 : decode cX5_start 35 = .ok (.aload_n 0, 1) := by decide +kernel
theorem dX5_start_36 : decode cX5_start 36 = .ok (.getfield 13, 3) := by decide +kernel
theorem dX5_start_39 : decode cX5_start 39 = .ok (.iload 4, 2) := by decide +kernel
theorem dX5_start_41 : decode cX5_start 41 = .ok (.aaload, 1) := by decide +kernel
theorem dX5_start_42 : decode cX5_start 42 = .ok (.bipush 24, 2) := by decide +kernel
theorem dX5_start_44 : decode cX5_start 44 = .ok (.ldc2_w 34, 3) := by decide +kernel
theorem dX5_start_47 : decode cX5_start 47 = .ok (.lastore, 1) := by decide +kernel
theorem dX5_start_48 : decode cX5_start 48 = .ok (.aload_n 0, 1) := by decide +kernel
theorem dX5_start_49 : decode cX5_start 49 = .ok (.getfield 13, 3) := by decide +kernel
theorem dX5_start_52 : decode cX5_start 52 = .ok (.iload 4, 2) := by decide +kernel
theorem dX5_start_54 : decode cX5_start 54 = .ok (.aaload, 1) := by decide +kernel
theorem dX5_start_55 : decode cX5_start 55 = .ok (.bipush 25, 2) := by decide +kernel
end
section
theorem dX5_start_57 : decode cX5_start 57 = .ok (.iload_n 2, 1) := by decide +kernel
theorem dX5_start_58 : decode cX5_start 58 = .ok (.i2l, 1) := by decide +kernel
theorem dX5_start_59 : decode cX5_start 59 = .ok (.lastore, 1) := by decide +kernel
theorem dX5_start_60 : decode cX5_start 60 = .ok (.aload_n 0, 1) := by decide +kernel
theorem dX5_start_61 : decode cX5_start 61 = .ok (.getfield 16, 3) := by decide +kernel
theorem dX5_start_64 : decode cX5_start 64 = .ok (.iload 4, 2) := by decide +kernel
theorem dX5_start_66 : decode cX5_start 66 = .ok (.iload 5, 2) := by decide +kernel
theorem dX5_start_68 : decode cX5_start 68 = .ok (.iastore, 1) := by decide +kernel
theorem dX5_start_69 : decode cX5_start 69 = .ok (.aload_n 0, 1) := by decide +kernel
theorem dX5_start_70 : decode cX5_start 70 = .ok (.getfield 20, 3) := by decide +kernel
theorem dX5_start_73 : decode cX5_start 73 = .ok (.iload 5, 2) := by decide +kernel
theorem dX5_start_75 : decode cX5_start 75 = .ok (.iconst 1, 1) := by decide +kernel
theorem dX5_start_76 : decode cX5_start 76 = .ok (.bastore, 1) := by decide +kernel
theorem dX5_start_77 : decode cX5_start 77 = .ok (.iinc 4 1, 3) := by decide +kernel
theorem dX5_start_80 : decode cX5_start 80 = .ok (.goto (-69), 3) := by decide +kernel
theorem dX5_start_83 : decode cX5_start 83 = .ok (.iconst 0, 1) := by decide +kernel
theorem dX5_start_84 : decode cX5_start 84 = .ok (.istore 4, 2) := by decide +kernel
theorem dX5_start_86 : decode cX5_start 86 = .ok (.iload 4, 2) := by decide +kernel
theorem dX5_start_88 : decode cX5_start 88 = .ok (.aload_n 1, 1) := by decide +kernel
theorem dX5_start_89 : decode cX5_start 89 = .ok (.getfield 24, 3) := by decide +kernel
theorem dX5_start_92 : decode cX5_start 92 = .ok (.if_icmp .ge 29, 3) := by decide +kernel
theorem dX5_start_95 : decode cX5_start 95 = .ok (.iload 4, 2) := by decide +kernel
theorem dX5_start_97 : decode cX5_start 97 = .ok (.bipush 7, 2) := by decide +kernel
theorem dX5_start_99 : decode cX5_start 99 = .ok (.if_icmp .ge 22, 3) := by decide +kernel
theorem dX5_start_102 : decode cX5_start 102 = .ok (.aload_n 0, 1) := by decide +kernel
theorem dX5_start_103 : decode cX5_start 103 = .ok (.aload_n 1, 1) := by decide +kernel
theorem dX5_start_104 : decode cX5_start 104 = .ok (.iload 4, 2) := by decide +kernel
theorem dX5_start_106 : decode cX5_start 106 = .ok (.iload_n 3, 1) := by decide +kernel
theorem dX5_start_107 : decode cX5_start 107 = .ok (.invokevirtual 36, 3) := by decide +kernel
theorem dX5_start_110 : decode cX5_start 110 = .ok (.ifCond .ne 5, 3) := by decide +kernel
theorem dX5_start_113 : decode cX5_start 113 = .ok (.iconst 0, 1) := by decide +kernel
theorem dX5_start_114 : decode cX5_start 114 = .ok (.ireturn, 1) := by decide +kernel
theorem dX5_start_115 : decode cX5_start 115 = .ok (.iinc 4 1, 3) := by decide +kernel
theorem dX5_start_118 : decode cX5_start 118 = .ok (.goto (-32), 3) := by decide +kernel
theorem dX5_start_121 : decode cX5_start 121 = .ok (.aload_n 0, 1) := by decide +kernel
theorem dX5_start_122 : decode cX5_start 122 = .ok (.invokevirtual 40, 3) := by decide +kernel
theorem dX5_start_125 : decode cX5_start 125 = .ok (.iconst 1, 1) := by decide +kernel
theorem dX5_start_126 : decode cX5_start 126 = .ok (.ireturn, 1) := by decide +kernel
theorem dX5_clear_0 : decode cX5_clear 0 = .ok (.aload_n 0, 1) := by decide +kernel
theorem dX5_clear_1 : decode cX5_clear 1 = .ok (.iconst 3, 1) := by decide +kernel
theorem dX5_clear_2 : decode cX5_clear 2 = .ok (.iload_n 1, 1) := by decide +kernel
theorem dX5_clear_3 : decode cX5_clear 3 = .ok (.iadd, 1) := by decide +kernel
theorem dX5_clear_4 : decode cX5_clear 4 = .ok (.bipush 10, 2) := by decide +kernel
theorem dX5_clear_6 : decode cX5_clear 6 = .ok (.invokestatic 43, 3) := by decide +kernel
theorem dX5_clear_9 : decode cX5_clear 9 = .ok (.putfield 49, 3) := by decide +kernel
theorem dX5_clear_12 : decode cX5_clear 12 = .ok (.aload_n 0, 1) := by decide +kernel
theorem dX5_clear_13 : decode cX5_clear 13 = .ok (.lconst 1, 1) := by decide +kernel
theorem dX5_clear_14 : decode cX5_clear 14 = .ok (.putfield 52, 3) := by decide +kernel
theorem dX5_clear_17 : decode cX5_clear 17 = .ok (.iconst 0, 1) := by decide +kernel
theorem dX5_clear_18 : decode cX5_clear 18 = .ok (.istore_n 2, 1) := by decide +kernel
theorem dX5_clear_19 : decode cX5_clear 19 = .ok (.iload_n 2, 1) := by decide +kernel
theorem dX5_clear_20 : decode cX5_clear 20 = .ok (.bipush 10, 2) := by decide +kernel
theorem dX5_clear_22 : decode cX5_clear 22 = .ok (.if_icmp .ge 39, 3) := by decide +kernel
theorem dX5_clear_25 : decode cX5_clear 25 = .ok (.aload_n 0, 1) := by decide +kernel
theorem dX5_clear_26 : decode cX5_clear 26 = .ok (.getfield 16, 3) := by decide +kernel
theorem dX5_clear_29 : decode cX5_clear 29 = .ok (.iload_n 2, 1) := by decide +kernel
theorem dX5_clear_30 : decode cX5_clear 30 = .ok (.iconst (-1), 1) := by decide +kernel
theorem dX5_clear_31 : decode cX5_clear 31 = .ok (.iastore, 1) := by decide +kernel
theorem dX5_clear_32 : decode cX5_clear 32 = .ok (.iconst 0, 1) := by decide +kernel
theorem dX5_clear_33 : decode cX5_clear 33 = .ok (.istore_n 3, 1) := by decide +kernel
theorem dX5_clear_34 : decode cX5_clear 34 = .ok (.iload_n 3, 1) := by decide +kernel
theorem dX5_clear_35 : decode cX5_clear 35 = .ok (.bipush 25, 2) := by decide +kernel
theorem dX5_clear_37 : decode cX5_clear 37 = .ok (.if_icmp .gt 18, 3) := by decide +kernel
theorem dX5_clear_40 : decode cX5_clear 40 = .ok (.aload_n 0, 1) := by decide +kernel
theorem dX5_clear_41 : decode cX5_clear 41 = .ok (.getfield 13, 3) := by decide +kernel
theorem dX5_clear_44 : decode cX5_clear 44 = .ok (.iload_n 2, 1) := by decide +kernel
theorem dX5_clear_45 : decode cX5_clear 45 = .ok (.aaload, 1) := by decide +kernel
theorem dX5_clear_46 : decode cX5_clear 46 = .ok (.iload_n 3, 1) := by decide +kernel
theorem dX5_clear_47 : decode cX5_clear 47 = .ok (.lconst 0, 1) := by decide +kernel
theorem dX5_clear_48 : decode cX5_clear 48 = .ok (.lastore, 1) := by decide +kernel
theorem dX5_clear_49 : decode cX5_clear 49 = .ok (.iinc 3 1, 3) := by decide +kernel
theorem dX5_clear_52 : decode cX5_clear 52 = .ok (.goto (-18), 3) := by decide +kernel
theorem dX5_clear_55 : decode cX5_clear 55 = .ok (.iinc 2 1, 3) := by decide +kernel
theorem dX5_clear_58 : decode cX5_clear 58 = .ok (.goto (-39), 3) := by decide +kernel
theorem dX5_clear_61 : decode cX5_clear 61 = .ok (.iconst 0, 1) := by decide +kernel
theorem dX5_clear_62 : decode cX5_clear 62 = .ok (.istore_n 2, 1) := by decide +kernel
theorem dX5_clear_63 : decode cX5_clear 63 = .ok (.iload_n 2, 1) := by decide +kernel
theorem dX5_clear_64 : decode cX5_clear 64 = .ok (.bipush 25, 2) := by decide +kernel
theorem dX5_clear_66 : decode cX5_clear 66 = .ok (.if_icmp .ge 16, 3) := by decide +kernel
theorem dX5_clear_69 : decode cX5_clear 69 = .ok (.aload_n 0, 1) := by decide +kernel
theorem dX5_clear_70 : decode cX5_clear 70 = .ok (.getfield 20, 3) := by decide +kernel
theorem dX5_clear_73 : decode cX5_clear 73 = .ok (.iload_n 2, 1) := by decide +kernel
theorem dX5_clear_74 : decode cX5_clear 74 = .ok (.iconst 0, 1) := by decide +kernel
theorem dX5_clear_75 : decode cX5_clear 75 = .ok (.bastore, 1) := by decide +kernel
theorem dX5_clear_76 : decode cX5_clear 76 = .ok (.iinc 2 1, 3) := by decide +kernel
theorem dX5_clear_79 : decode cX5_clear 79 = .ok (.goto (-16), 3) := by decide +kernel
theorem dX5_clear_82 : decode cX5_clear 82 = .ok (.return_, 1) := by decide +kernel
set_option maxRecDepth 20000 in
theorem ggX5_layJob_X1_timeOn : GoodIn wsX5_layJob wsX1_timeOn := goodIn_r _ [8, 9, 10, 21, 22] (by decide +kernel) (by decide +kernel)
set_option maxRecDepth 20000 in
theorem gX5_layJob_X1_timeOn : GoodIn wsX5_layJob (wsV RX5 56 RX1 yX1_timeOn wsX1_timeOn) := goodIn_app (goodIn_of _ (by decide +kernel)) ggX5_layJob_X1_timeOn
set_option maxRecDepth 20000 in
theorem ggX5_layJob_X5_clearBasic : GoodIn wsX5_layJob wsX5_clearBasic := goodIn_r _ [15, 3, 1, 16, 17, 18, 19, 20] (by decide +kernel) (by decide +kernel)
set_option maxRecDepth 20000 in
theorem gX5_layJob_X5_clearBasic : GoodIn wsX5_layJob (wsV RX5 59 RX5 yX5_clearBasic wsX5_clearBasic) := goodIn_app (goodIn_of _ (by decide +kernel)) ggX5_layJob_X5_clearBasic
theorem dX5_layJob_0 : decode cX5_layJob 0 = .ok (.iconst 3, 1) := by decide +kernel
theorem dX5_layJob_1 : decode cX5_layJob 1 = .ok (.iload_n 2, 1) := by decide +kernel
theorem dX5_layJob_2 : decode cX5_layJob 2 = .ok (.iadd, 1) := by decide +kernel
theorem dX5_layJob_3 : decode cX5_layJob 3 = .ok (.istore 4, 2) := by decide +kernel
theorem dX5_layJob_5 : decode cX5_layJob 5 = .ok (.iload 4, 2) := by decide +kernel
theorem dX5_layJob_7 : decode cX5_layJob 7 = .ok (.ifCond .lt 10, 3) := by decide +kernel
theorem dX5_layJob_10 : decode cX5_layJob 10 = .ok (.iload 4, 2) := by decide +kernel
theorem dX5_layJob_12 : decode cX5_layJob 12 = .ok (.bipush 10, 2) := by decide +kernel
theorem dX5_layJob_14 : decode cX5_layJob 14 = .ok (.if_icmp .lt 5, 3) := by decide +kernel
theorem dX5_layJob_17 : decode cX5_layJob 17 = .ok (.iconst 0, 1) := by decide +kernel
theorem dX5_layJob_18 : decode cX5_layJob 18 = .ok (.ireturn, 1) := by decide +kernel
theorem dX5_layJob_19 : decode cX5_layJob 19 = .ok (.iconst 2, 1) := by decide +kernel
theorem dX5_layJob_20 : decode cX5_layJob 20 = .ok (.istore 5, 2) := by decide +kernel
theorem dX5_layJob_22 : decode cX5_layJob 22 = .ok (.iload 5, 2) := by decide +kernel
theorem dX5_layJob_24 : decode cX5_layJob 24 = .ok (.ifCond .lt 90, 3) := by decide +kernel
theorem dX5_layJob_27 : decode cX5_layJob 27 = .ok (.aload_n 1, 1) := by decide +kernel
theorem dX5_layJob_28 : decode cX5_layJob 28 = .ok (.iload_n 2, 1) := by decide +kernel
theorem dX5_layJob_29 : decode cX5_layJob 29 = .ok (.iload 5, 2) := by decide +kernel
theorem dX5_layJob_31 : decode cX5_layJob 31 = .ok (.invokevirtual 56, 3) := by decide +kernel
theorem dX5_layJob_34 : decode cX5_layJob 34 = .ok (.istore 6, 2) := by decide +kernel
theorem dX5_layJob_36 : decode cX5_layJob 36 = .ok (.iload_n 2, 1) := by decide +kernel
theorem dX5_layJob_37 : decode cX5_layJob 37 = .ok (.iconst 3, 1) := by decide +kernel
theorem dX5_layJob_38 : decode cX5_layJob 38 = .ok (.imul, 1) := by decide +kernel
theorem dX5_layJob_39 : decode cX5_layJob 39 = .ok (.iload 5, 2) := by decide +kernel
theorem dX5_layJob_41 : decode cX5_layJob 41 = .ok (.iadd, 1) := by decide +kernel
theorem dX5_layJob_42 : decode cX5_layJob 42 = .ok (.istore 7, 2) := by decide +kernel
theorem dX5_layJob_44 : decode cX5_layJob 44 = .ok (.iload 6, 2) := by decide +kernel
theorem dX5_layJob_46 : decode cX5_layJob 46 = .ok (.ifCond .le 62, 3) := by decide +kernel
theorem dX5_layJob_49 : decode cX5_layJob 49 = .ok (.iload 6, 2) := by decide +kernel
theorem dX5_layJob_51 : decode cX5_layJob 51 = .ok (.iload_n 3, 1) := by decide +kernel
theorem dX5_layJob_52 : decode cX5_layJob 52 = .ok (.if_icmp .gt 56, 3) := by decide +kernel
theorem dX5_layJob_55 : decode cX5_layJob 55 = .ok (.iload 7, 2) := by decide +kernel
theorem dX5_layJob_57 : decode cX5_layJob 57 = .ok (.ifCond .lt 51, 3) := by decide +kernel
theorem dX5_layJob_60 : decode cX5_layJob 60 = .ok (.iload 7, 2) := by decide +kernel
theorem dX5_layJob_62 : decode cX5_layJob 62 = .ok (.bipush 21, 2) := by decide +kernel
theorem dX5_layJob_64 : decode cX5_layJob 64 = .ok (.if_icmp .ge 44, 3) := by decide +kernel
theorem dX5_layJob_67 : decode cX5_layJob 67 = .ok (.aload_n 0, 1) := by decide +kernel
theorem dX5_layJob_68 : decode cX5_layJob 68 = .ok (.getfield 13, 3) := by decide +kernel
theorem dX5_layJob_71 : decode cX5_layJob 71 = .ok (.iload 4, 2) := by decide +kernel
theorem dX5_layJob_73 : decode cX5_layJob 73 = .ok (.aaload, 1) := by decide +kernel
theorem dX5_layJob_74 : decode cX5_layJob 74 = .ok (.iload 7, 2) := by decide +kernel
theorem dX5_layJob_76 : decode cX5_layJob 76 = .ok (.lconst 1, 1) := by decide +kernel
theorem dX5_layJob_77 : decode cX5_layJob 77 = .ok (.lastore, 1) := by decide +kernel
theorem dX5_layJob_78 : decode cX5_layJob 78 = .ok (.aload_n 0, 1) := by decide +kernel
theorem dX5_layJob_79 : decode cX5_layJob 79 = .ok (.getfield 13, 3) := by decide +kernel
theorem dX5_layJob_82 : decode cX5_layJob 82 = .ok (.iload 5, 2) := by decide +kernel
theorem dX5_layJob_84 : decode cX5_layJob 84 = .ok (.aaload, 1) := by decide +kernel
theorem dX5_layJob_85 : decode cX5_layJob 85 = .ok (.iload 7, 2) := by decide +kernel
theorem dX5_layJob_87 : decode cX5_layJob 87 = .ok (.iload 6, 2) := by decide +kernel
theorem dX5_layJob_89 : decode cX5_layJob 89 = .ok (.i2l, 1) := by decide +kernel
theorem dX5_layJob_90 : decode cX5_layJob 90 = .ok (.lastore, 1) := by decide +kernel
theorem dX5_layJob_91 : decode cX5_layJob 91 = .ok (.aload_n 0, 1) := by decide +kernel
theorem dX5_layJob_92 : decode cX5_layJob 92 = .ok (.getfield 20, 3) := by decide +kernel
theorem dX5_layJob_95 : decode cX5_layJob 95 = .ok (.iload 7, 2) := by decide +kernel
theorem dX5_layJob_97 : decode cX5_layJob 97 = .ok (.iconst 1, 1) := by decide +kernel
theorem dX5_layJob_98 : decode cX5_layJob 98 = .ok (.bastore, 1) := by decide +kernel
theorem dX5_layJob_99 : decode cX5_layJob 99 = .ok (.aload_n 0, 1) := by decide +kernel
theorem dX5_layJob_100 : decode cX5_layJob 100 = .ok (.getfield 16, 3) := by decide +kernel
theorem dX5_layJob_103 : decode cX5_layJob 103 = .ok (.iload 4, 2) := by decide +kernel
theorem dX5_layJob_105 : decode cX5_layJob 105 = .ok (.iload 7, 2) := by decide +kernel
theorem dX5_layJob_107 : decode cX5_layJob 107 = .ok (.iastore, 1) := by decide +kernel
theorem dX5_layJob_108 : decode cX5_layJob 108 = .ok (.iinc 5 (-1), 3) := by decide +kernel
theorem dX5_layJob_111 : decode cX5_layJob 111 = .ok (.goto (-89), 3) := by decide +kernel
theorem dX5_layJob_114 : decode cX5_layJob 114 = .ok (.aload_n 0, 1) := by decide +kernel
theorem dX5_layJob_115 : decode cX5_layJob 115 = .ok (.getfield 13, 3) := by decide +kernel
theorem dX5_layJob_118 : decode cX5_layJob 118 = .ok (.iload 4, 2) := by decide +kernel
theorem dX5_layJob_120 : decode cX5_layJob 120 = .ok (.aaload, 1) := by decide +kernel
theorem dX5_layJob_121 : decode cX5_layJob 121 = .ok (.bipush 25, 2) := by decide +kernel
theorem dX5_layJob_123 : decode cX5_layJob 123 = .ok (.lconst 1, 1) := by decide +kernel
theorem dX5_layJob_124 : decode cX5_layJob 124 = .ok (.lastore, 1) := by decide +kernel
theorem dX5_layJob_125 : decode cX5_layJob 125 = .ok (.aload_n 0, 1) := by decide +kernel
theorem dX5_layJob_126 : decode cX5_layJob 126 = .ok (.getfield 16, 3) := by decide +kernel
theorem dX5_layJob_129 : decode cX5_layJob 129 = .ok (.iload 4, 2) := by decide +kernel
theorem dX5_layJob_131 : decode cX5_layJob 131 = .ok (.iaload, 1) := by decide +kernel
theorem dX5_layJob_132 : decode cX5_layJob 132 = .ok (.iconst (-1), 1) := by decide +kernel
theorem dX5_layJob_133 : decode cX5_layJob 133 = .ok (.if_icmp .eq 16, 3) := by decide +kernel
theorem dX5_layJob_136 : decode cX5_layJob 136 = .ok (.aload_n 0, 1) := by decide +kernel
theorem dX5_layJob_137 : decode cX5_layJob 137 = .ok (.iload 4, 2) := by decide +kernel
theorem dX5_layJob_139 : decode cX5_layJob 139 = .ok (.invokevirtual 59, 3) := by decide +kernel
theorem dX5_layJob_142 : decode cX5_layJob 142 = .ok (.ifCond .eq 7, 3) := by decide +kernel
theorem dX5_layJob_145 : decode cX5_layJob 145 = .ok (.iconst 1, 1) := by decide +kernel
theorem dX5_layJob_146 : decode cX5_layJob 146 = .ok (.goto 4, 3) := by decide +kernel
theorem dX5_layJob_149 : decode cX5_layJob 149 = .ok (.iconst 0, 1) := by decide +kernel
theorem dX5_layJob_150 : decode cX5_layJob 150 = .ok (.ireturn, 1) := by decide +kernel
theorem dX5_clearBasic_0 : decode cX5_clearBasic 0 = .ok (.aload_n 0, 1) := by decide +kernel
theorem dX5_clearBasic_1 : decode cX5_clearBasic 1 = .ok (.getfield 16, 3) := by decide +kernel
theorem dX5_clearBasic_4 : decode cX5_clearBasic 4 = .ok (.iload_n 1, 1) := by decide +kernel
theorem dX5_clearBasic_5 : decode cX5_clearBasic 5 = .ok (.iaload, 1) := by decide +kernel
theorem dX5_clearBasic_6 : decode cX5_clearBasic 6 = .ok (.istore_n 2, 1) := by decide +kernel
theorem dX5_clearBasic_7 : decode cX5_clearBasic 7 = .ok (.iload_n 2, 1) := by decide +kernel
theorem dX5_clearBasic_8 : decode cX5_clearBasic 8 = .ok (.ifCond .lt 9, 3) := by decide +kernel
theorem dX5_clearBasic_11 : decode cX5_clearBasic 11 = .ok (.iload_n 2, 1) := by decide +kernel
theorem dX5_clearBasic_12 : decode cX5_clearBasic 12 = .ok (.bipush 21, 2) := by decide +kernel
theorem dX5_clearBasic_14 : decode cX5_clearBasic 14 = .ok (.if_icmp .lt 5, 3) := by decide +kernel
theorem dX5_clearBasic_17 : decode cX5_clearBasic 17 = .ok (.iconst 0, 1) := by decide +kernel
theorem dX5_clearBasic_18 : decode cX5_clearBasic 18 = .ok (.ireturn, 1) := by decide +kernel
theorem dX5_clearBasic_19 : decode cX5_clearBasic 19 = .ok (.iconst 0, 1) := by decide +kernel
theorem dX5_clearBasic_20 : decode cX5_clearBasic 20 = .ok (.istore_n 3, 1) := by decide +kernel
theorem dX5_clearBasic_21 : decode cX5_clearBasic 21 = .ok (.iload_n 3, 1) := by decide +kernel
theorem dX5_clearBasic_22 : decode cX5_clearBasic 22 = .ok (.iconst 3, 1) := by decide +kernel
theorem dX5_clearBasic_23 : decode cX5_clearBasic 23 = .ok (.if_icmp .ge 66, 3) := by decide +kernel
theorem dX5_clearBasic_26 : decode cX5_clearBasic 26 = .ok (.aload_n 0, 1) := by decide +kernel
theorem dX5_clearBasic_27 : decode cX5_clearBasic 27 = .ok (.getfield 13, 3) := by decide +kernel
theorem dX5_clearBasic_30 : decode cX5_clearBasic 30 = .ok (.iload_n 3, 1) := by decide +kernel
theorem dX5_clearBasic_31 : decode cX5_clearBasic 31 = .ok (.aaload, 1) := by decide +kernel
theorem dX5_clearBasic_32 : decode cX5_clearBasic 32 = .ok (.iload_n 2, 1) := by decide +kernel
theorem dX5_clearBasic_33 : decode cX5_clearBasic 33 = .ok (.laload, 1) := by decide +kernel
theorem dX5_clearBasic_34 : decode cX5_clearBasic 34 = .ok (.lstore 4, 2) := by decide +kernel
theorem dX5_clearBasic_36 : decode cX5_clearBasic 36 = .ok (.iconst 0, 1) := by decide +kernel
theorem dX5_clearBasic_37 : decode cX5_clearBasic 37 = .ok (.istore 6, 2) := by decide +kernel
theorem dX5_clearBasic_39 : decode cX5_clearBasic 39 = .ok (.iload 6, 2) := by decide +kernel
theorem dX5_clearBasic_41 : decode cX5_clearBasic 41 = .ok (.bipush 25, 2) := by decide +kernel
theorem dX5_clearBasic_43 : decode cX5_clearBasic 43 = .ok (.if_icmp .gt 40, 3) := by decide +kernel
theorem dX5_clearBasic_46 : decode cX5_clearBasic 46 = .ok (.lload 4, 2) := by decide +kernel
theorem dX5_clearBasic_48 : decode cX5_clearBasic 48 = .ok (.lconst 0, 1) := by decide +kernel
theorem dX5_clearBasic_49 : decode cX5_clearBasic 49 = .ok (.lcmp, 1) := by decide +kernel
theorem dX5_clearBasic_50 : decode cX5_clearBasic 50 = .ok (.ifCond .eq 33, 3) := by decide +kernel
theorem dX5_clearBasic_53 : decode cX5_clearBasic 53 = .ok (.aload_n 0, 1) := by decide +kernel
theorem dX5_clearBasic_54 : decode cX5_clearBasic 54 = .ok (.getfield 13, 3) := by decide +kernel
theorem dX5_clearBasic_57 : decode cX5_clearBasic 57 = .ok (.iload_n 3, 1) := by decide +kernel
theorem dX5_clearBasic_58 : decode cX5_clearBasic 58 = .ok (.aaload, 1) := by decide +kernel
theorem dX5_clearBasic_59 : decode cX5_clearBasic 59 = .ok (.iload 6, 2) := by decide +kernel
theorem dX5_clearBasic_61 : decode cX5_clearBasic 61 = .ok (.dup2, 1) := by decide +kernel
theorem dX5_clearBasic_62 : decode cX5_clearBasic 62 = .ok (.laload, 1) := by decide +kernel
theorem dX5_clearBasic_63 : decode cX5_clearBasic 63 = .ok (.lload 4, 2) := by decide +kernel
theorem dX5_clearBasic_65 : decode cX5_clearBasic 65 = .ok (.aload_n 0, 1) := by decide +kernel
theorem dX5_clearBasic_66 : decode cX5_clearBasic 66 = .ok (.getfield 13, 3) := by decide +kernel
theorem dX5_clearBasic_69 : decode cX5_clearBasic 69 = .ok (.iload_n 1, 1) := by decide +kernel
theorem dX5_clearBasic_70 : decode cX5_clearBasic 70 = .ok (.aaload, 1) := by decide +kernel
theorem dX5_clearBasic_71 : decode cX5_clearBasic 71 = .ok (.iload 6, 2) := by decide +kernel
theorem dX5_clearBasic_73 : decode cX5_clearBasic 73 = .ok (.laload, 1) := by decide +kernel
theorem dX5_clearBasic_74 : decode cX5_clearBasic 74 = .ok (.lmul, 1) := by decide +kernel
theorem dX5_clearBasic_75 : decode cX5_clearBasic 75 = .ok (.lsub, 1) := by decide +kernel
theorem dX5_clearBasic_76 : decode cX5_clearBasic 76 = .ok (.lastore, 1) := by decide +kernel
theorem dX5_clearBasic_77 : decode cX5_clearBasic 77 = .ok (.iinc 6 1, 3) := by decide +kernel
theorem dX5_clearBasic_80 : decode cX5_clearBasic 80 = .ok (.goto (-41), 3) := by decide +kernel
theorem dX5_clearBasic_83 : decode cX5_clearBasic 83 = .ok (.iinc 3 1, 3) := by decide +kernel
theorem dX5_clearBasic_86 : decode cX5_clearBasic 86 = .ok (.goto (-65), 3) := by decide +kernel
theorem dX5_clearBasic_89 : decode cX5_clearBasic 89 = .ok (.iconst 1, 1) := by decide +kernel
theorem dX5_clearBasic_90 : decode cX5_clearBasic 90 = .ok (.ireturn, 1) := by decide +kernel
theorem dX5_admitExcess_0 : decode cX5_admitExcess 0 = .ok (.iconst 0, 1) := by decide +kernel
theorem dX5_admitExcess_1 : decode cX5_admitExcess 1 = .ok (.istore_n 1, 1) := by decide +kernel
theorem dX5_admitExcess_2 : decode cX5_admitExcess 2 = .ok (.iconst 1, 1) := by decide +kernel
theorem dX5_admitExcess_3 : decode cX5_admitExcess 3 = .ok (.istore_n 2, 1) := by decide +kernel
theorem dX5_admitExcess_4 : decode cX5_admitExcess 4 = .ok (.iload_n 2, 1) := by decide +kernel
theorem dX5_admitExcess_5 : decode cX5_admitExcess 5 = .ok (.iconst 3, 1) := by decide +kernel
theorem dX5_admitExcess_6 : decode cX5_admitExcess 6 = .ok (.if_icmp .ge 33, 3) := by decide +kernel
theorem dX5_admitExcess_9 : decode cX5_admitExcess 9 = .ok (.aload_n 0, 1) := by decide +kernel
theorem dX5_admitExcess_10 : decode cX5_admitExcess 10 = .ok (.getfield 13, 3) := by decide +kernel
theorem dX5_admitExcess_13 : decode cX5_admitExcess 13 = .ok (.iload_n 2, 1) := by decide +kernel
theorem dX5_admitExcess_14 : decode cX5_admitExcess 14 = .ok (.aaload, 1) := by decide +kernel
theorem dX5_admitExcess_15 : decode cX5_admitExcess 15 = .ok (.bipush 25, 2) := by decide +kernel
theorem dX5_admitExcess_17 : decode cX5_admitExcess 17 = .ok (.laload, 1) := by decide +kernel
theorem dX5_admitExcess_18 : decode cX5_admitExcess 18 = .ok (.aload_n 0, 1) := by decide +kernel
theorem dX5_admitExcess_19 : decode cX5_admitExcess 19 = .ok (.getfield 13, 3) := by decide +kernel
theorem dX5_admitExcess_22 : decode cX5_admitExcess 22 = .ok (.iload_n 1, 1) := by decide +kernel
theorem dX5_admitExcess_23 : decode cX5_admitExcess 23 = .ok (.aaload, 1) := by decide +kernel
theorem dX5_admitExcess_24 : decode cX5_admitExcess 24 = .ok (.bipush 25, 2) := by decide +kernel
theorem dX5_admitExcess_26 : decode cX5_admitExcess 26 = .ok (.laload, 1) := by decide +kernel
theorem dX5_admitExcess_27 : decode cX5_admitExcess 27 = .ok (.lcmp, 1) := by decide +kernel
theorem dX5_admitExcess_28 : decode cX5_admitExcess 28 = .ok (.ifCond .ge 5, 3) := by decide +kernel
theorem dX5_admitExcess_31 : decode cX5_admitExcess 31 = .ok (.iload_n 2, 1) := by decide +kernel
theorem dX5_admitExcess_32 : decode cX5_admitExcess 32 = .ok (.istore_n 1, 1) := by decide +kernel
theorem dX5_admitExcess_33 : decode cX5_admitExcess 33 = .ok (.iinc 2 1, 3) := by decide +kernel
theorem dX5_admitExcess_36 : decode cX5_admitExcess 36 = .ok (.goto (-32), 3) := by decide +kernel
theorem dX5_admitExcess_39 : decode cX5_admitExcess 39 = .ok (.aload_n 0, 1) := by decide +kernel
theorem dX5_admitExcess_40 : decode cX5_admitExcess 40 = .ok (.getfield 13, 3) := by decide +kernel
theorem dX5_admitExcess_43 : decode cX5_admitExcess 43 = .ok (.iload_n 1, 1) := by decide +kernel
theorem dX5_admitExcess_44 : decode cX5_admitExcess 44 = .ok (.aaload, 1) := by decide +kernel
theorem dX5_admitExcess_45 : decode cX5_admitExcess 45 = .ok (.bipush 25, 2) := by decide +kernel
theorem dX5_admitExcess_47 : decode cX5_admitExcess 47 = .ok (.laload, 1) := by decide +kernel
theorem dX5_admitExcess_48 : decode cX5_admitExcess 48 = .ok (.lconst 0, 1) := by decide +kernel
theorem dX5_admitExcess_49 : decode cX5_admitExcess 49 = .ok (.lcmp, 1) := by decide +kernel
theorem dX5_admitExcess_50 : decode cX5_admitExcess 50 = .ok (.ifCond .lt 4, 3) := by decide +kernel
theorem dX5_admitExcess_53 : decode cX5_admitExcess 53 = .ok (.return_, 1) := by decide +kernel
theorem dX5_admitExcess_54 : decode cX5_admitExcess 54 = .ok (.iconst 0, 1) := by decide +kernel
theorem dX5_admitExcess_55 : decode cX5_admitExcess 55 = .ok (.istore_n 2, 1) := by decide +kernel
theorem dX5_admitExcess_56 : decode cX5_admitExcess 56 = .ok (.iload_n 2, 1) := by decide +kernel
theorem dX5_admitExcess_57 : decode cX5_admitExcess 57 = .ok (.bipush 25, 2) := by decide +kernel
theorem dX5_admitExcess_59 : decode cX5_admitExcess 59 = .ok (.if_icmp .gt 63, 3) := by decide +kernel
theorem dX5_admitExcess_62 : decode cX5_admitExcess 62 = .ok (.aload_n 0, 1) := by decide +kernel
theorem dX5_admitExcess_63 : decode cX5_admitExcess 63 = .ok (.getfield 13, 3) := by decide +kernel
theorem dX5_admitExcess_66 : decode cX5_admitExcess 66 = .ok (.iload_n 1, 1) := by decide +kernel
theorem dX5_admitExcess_67 : decode cX5_admitExcess 67 = .ok (.aaload, 1) := by decide +kernel
theorem dX5_admitExcess_68 : decode cX5_admitExcess 68 = .ok (.iload_n 2, 1) := by decide +kernel
theorem dX5_admitExcess_69 : decode cX5_admitExcess 69 = .ok (.aload_n 0, 1) := by decide +kernel
theorem dX5_admitExcess_70 : decode cX5_admitExcess 70 = .ok (.getfield 13, 3) := by decide +kernel
theorem dX5_admitExcess_73 : decode cX5_admitExcess 73 = .ok (.iload_n 1, 1) := by decide +kernel
theorem dX5_admitExcess_74 : decode cX5_admitExcess 74 = .ok (.aaload, 1) := by decide +kernel
theorem dX5_admitExcess_75 : decode cX5_admitExcess 75 = .ok (.iload_n 2, 1) := by decide +kernel
theorem dX5_admitExcess_76 : decode cX5_admitExcess 76 = .ok (.laload, 1) := by decide +kernel
theorem dX5_admitExcess_77 : decode cX5_admitExcess 77 = .ok (.lneg, 1) := by decide +kernel
theorem dX5_admitExcess_78 : decode cX5_admitExcess 78 = .ok (.lastore, 1) := by decide +kernel
theorem dX5_admitExcess_79 : decode cX5_admitExcess 79 = .ok (.iconst 0, 1) := by decide +kernel
theorem dX5_admitExcess_80 : decode cX5_admitExcess 80 = .ok (.istore_n 3, 1) := by decide +kernel
theorem dX5_admitExcess_81 : decode cX5_admitExcess 81 = .ok (.iload_n 3, 1) := by decide +kernel
theorem dX5_admitExcess_82 : decode cX5_admitExcess 82 = .ok (.iconst 3, 1) := by decide +kernel
theorem dX5_admitExcess_83 : decode cX5_admitExcess 83 = .ok (.if_icmp .ge 33, 3) := by decide +kernel
theorem dX5_admitExcess_86 : decode cX5_admitExcess 86 = .ok (.iload_n 3, 1) := by decide +kernel
theorem dX5_admitExcess_87 : decode cX5_admitExcess 87 = .ok (.iload_n 1, 1) := by decide +kernel
theorem dX5_admitExcess_88 : decode cX5_admitExcess 88 = .ok (.if_icmp .eq 22, 3) := by decide +kernel
theorem dX5_admitExcess_91 : decode cX5_admitExcess 91 = .ok (.aload_n 0, 1) := by decide +kernel
theorem dX5_admitExcess_92 : decode cX5_admitExcess 92 = .ok (.getfield 13, 3) := by decide +kernel
theorem dX5_admitExcess_95 : decode cX5_admitExcess 95 = .ok (.iload_n 3, 1) := by decide +kernel
theorem dX5_admitExcess_96 : decode cX5_admitExcess 96 = .ok (.aaload, 1) := by decide +kernel
theorem dX5_admitExcess_97 : decode cX5_admitExcess 97 = .ok (.iload_n 2, 1) := by decide +kernel
theorem dX5_admitExcess_98 : decode cX5_admitExcess 98 = .ok (.dup2, 1) := by decide +kernel
theorem dX5_admitExcess_99 : decode cX5_admitExcess 99 = .ok (.laload, 1) := by decide +kernel
theorem dX5_admitExcess_100 : decode cX5_admitExcess 100 = .ok (.aload_n 0, 1) := by decide +kernel
theorem dX5_admitExcess_101 : decode cX5_admitExcess 101 = .ok (.getfield 13, 3) := by decide +kernel
theorem dX5_admitExcess_104 : decode cX5_admitExcess 104 = .ok (.iload_n 1, 1) := by decide +kernel
theorem dX5_admitExcess_105 : decode cX5_admitExcess 105 = .ok (.aaload, 1) := by decide +kernel
theorem dX5_admitExcess_106 : decode cX5_admitExcess 106 = .ok (.iload_n 2, 1) := by decide +kernel
theorem dX5_admitExcess_107 : decode cX5_admitExcess 107 = .ok (.laload, 1) := by decide +kernel
theorem dX5_admitExcess_108 : decode cX5_admitExcess 108 = .ok (.ladd, 1) := by decide +kernel
theorem dX5_admitExcess_109 : decode cX5_admitExcess 109 = .ok (.lastore, 1) := by decide +kernel
theorem dX5_admitExcess_110 : decode cX5_admitExcess 110 = .ok (.iinc 3 1, 3) := by decide +kernel
theorem dX5_admitExcess_113 : decode cX5_admitExcess 113 = .ok (.goto (-32), 3) := by decide +kernel
theorem dX5_admitExcess_116 : decode cX5_admitExcess 116 = .ok (.iinc 2 1, 3) := by decide +kernel
theorem dX5_admitExcess_119 : decode cX5_admitExcess 119 = .ok (.goto (-63), 3) := by decide +kernel
theorem dX5_admitExcess_122 : decode cX5_admitExcess 122 = .ok (.aload_n 0, 1) := by decide +kernel
theorem dX5_admitExcess_123 : decode cX5_admitExcess 123 = .ok (.getfield 16, 3) := by decide +kernel
theorem dX5_admitExcess_126 : decode cX5_admitExcess 126 = .ok (.iload_n 1, 1) := by decide +kernel
theorem dX5_admitExcess_127 : decode cX5_admitExcess 127 = .ok (.bipush 24, 2) := by decide +kernel
theorem dX5_admitExcess_129 : decode cX5_admitExcess 129 = .ok (.iastore, 1) := by decide +kernel
theorem dX5_admitExcess_130 : decode cX5_admitExcess 130 = .ok (.return_, 1) := by decide +kernel
set_option maxRecDepth 20000 in
theorem ggX5_lowerExcess_X5_rowOf : GoodIn wsX5_lowerExcess wsX5_rowOf := goodIn_r _ [6, 7, 8, 24, 25, 26, 27, 28] (by decide +kernel) (by decide +kernel)
set_option maxRecDepth 20000 in
theorem gX5_lowerExcess_X5_rowOf : GoodIn wsX5_lowerExcess (wsV RX5 64 RX5 yX5_rowOf wsX5_rowOf) := goodIn_app (goodIn_of _ (by decide +kernel)) ggX5_lowerExcess_X5_rowOf
set_option maxRecDepth 20000 in
theorem ggX5_lowerExcess_X5_columnWithSign : GoodIn wsX5_lowerExcess wsX5_columnWithSign := goodIn_r _ [12, 13, 14, 24, 25, 26, 27, 28] (by decide +kernel) (by decide +kernel)
set_option maxRecDepth 20000 in
theorem gX5_lowerExcess_X5_columnWithSign : GoodIn wsX5_lowerExcess (wsV RX5 68 RX5 yX5_columnWithSign wsX5_columnWithSign) := goodIn_app (goodIn_of _ (by decide +kernel)) ggX5_lowerExcess_X5_columnWithSign
set_option maxRecDepth 20000 in
theorem ggX5_lowerExcess_X5_enter : GoodIn wsX5_lowerExcess wsX5_enter := goodIn_r _ [18, 19, 14, 7, 8, 20, 21, 22, 5, 23, 24, 25, 26, 27, 28] (by decide +kernel) (by decide +kernel)
set_option maxRecDepth 20000 in
theorem gX5_lowerExcess_X5_enter : GoodIn wsX5_lowerExcess (wsV RX5 71 RX5 yX5_enter wsX5_enter) := goodIn_app (goodIn_of _ (by decide +kernel)) ggX5_lowerExcess_X5_enter
theorem dX5_lowerExcess_0 : decode cX5_lowerExcess 0 = .ok (.iconst 0, 1) := by decide +kernel
theorem dX5_lowerExcess_1 : decode cX5_lowerExcess 1 = .ok (.istore_n 1, 1) := by decide +kernel
theorem dX5_lowerExcess_2 : decode cX5_lowerExcess 2 = .ok (.iload_n 1, 1) := by decide +kernel
theorem dX5_lowerExcess_3 : decode cX5_lowerExcess 3 = .ok (.ldc 63, 2) := by decide +kernel
theorem dX5_lowerExcess_5 : decode cX5_lowerExcess 5 = .ok (.if_icmp .ge 45, 3) := by decide +kernel
theorem dX5_lowerExcess_8 : decode cX5_lowerExcess 8 = .ok (.aload_n 0, 1) := by decide +kernel
theorem dX5_lowerExcess_9 : decode cX5_lowerExcess 9 = .ok (.bipush 24, 2) := by decide +kernel
theorem dX5_lowerExcess_11 : decode cX5_lowerExcess 11 = .ok (.invokevirtual 64, 3) := by decide +kernel
theorem dX5_lowerExcess_14 : decode cX5_lowerExcess 14 = .ok (.istore_n 2, 1) := by decide +kernel
theorem dX5_lowerExcess_15 : decode cX5_lowerExcess 15 = .ok (.iload_n 2, 1) := by decide +kernel
theorem dX5_lowerExcess_16 : decode cX5_lowerExcess 16 = .ok (.iconst (-1), 1) := by decide +kernel
theorem dX5_lowerExcess_17 : decode cX5_lowerExcess 17 = .ok (.if_icmp .ne 5, 3) := by decide +kernel
theorem dX5_lowerExcess_20 : decode cX5_lowerExcess 20 = .ok (.iconst 1, 1) := by decide +kernel
theorem dX5_lowerExcess_21 : decode cX5_lowerExcess 21 = .ok (.ireturn, 1) := by decide +kernel
theorem dX5_lowerExcess_22 : decode cX5_lowerExcess 22 = .ok (.aload_n 0, 1) := by decide +kernel
theorem dX5_lowerExcess_23 : decode cX5_lowerExcess 23 = .ok (.iload_n 2, 1) := by decide +kernel
theorem dX5_lowerExcess_24 : decode cX5_lowerExcess 24 = .ok (.iconst 1, 1) := by decide +kernel
theorem dX5_lowerExcess_25 : decode cX5_lowerExcess 25 = .ok (.invokevirtual 68, 3) := by decide +kernel
theorem dX5_lowerExcess_28 : decode cX5_lowerExcess 28 = .ok (.istore_n 3, 1) := by decide +kernel
theorem dX5_lowerExcess_29 : decode cX5_lowerExcess 29 = .ok (.iload_n 3, 1) := by decide +kernel
theorem dX5_lowerExcess_30 : decode cX5_lowerExcess 30 = .ok (.iconst (-1), 1) := by decide +kernel
theorem dX5_lowerExcess_31 : decode cX5_lowerExcess 31 = .ok (.if_icmp .eq 11, 3) := by decide +kernel
theorem dX5_lowerExcess_34 : decode cX5_lowerExcess 34 = .ok (.aload_n 0, 1) := by decide +kernel
theorem dX5_lowerExcess_35 : decode cX5_lowerExcess 35 = .ok (.iload_n 3, 1) := by decide +kernel
theorem dX5_lowerExcess_36 : decode cX5_lowerExcess 36 = .ok (.invokevirtual 71, 3) := by decide +kernel
theorem dX5_lowerExcess_39 : decode cX5_lowerExcess 39 = .ok (.ifCond .ne 5, 3) := by decide +kernel
theorem dX5_lowerExcess_42 : decode cX5_lowerExcess 42 = .ok (.iconst 0, 1) := by decide +kernel
theorem dX5_lowerExcess_43 : decode cX5_lowerExcess 43 = .ok (.ireturn, 1) := by decide +kernel
theorem dX5_lowerExcess_44 : decode cX5_lowerExcess 44 = .ok (.iinc 1 1, 3) := by decide +kernel
theorem dX5_lowerExcess_47 : decode cX5_lowerExcess 47 = .ok (.goto (-45), 3) := by decide +kernel
theorem dX5_lowerExcess_50 : decode cX5_lowerExcess 50 = .ok (.iconst 0, 1) := by decide +kernel
theorem dX5_lowerExcess_51 : decode cX5_lowerExcess 51 = .ok (.ireturn, 1) := by decide +kernel
set_option maxRecDepth 20000 in
theorem ggX5_raise_X5_rowOf : GoodIn wsX5_raise wsX5_rowOf := goodIn_r _ [7, 8, 9, 28, 29, 30, 31, 32] (by decide +kernel) (by decide +kernel)
set_option maxRecDepth 20000 in
theorem gX5_raise_X5_rowOf : GoodIn wsX5_raise (wsV RX5 64 RX5 yX5_rowOf wsX5_rowOf) := goodIn_app (goodIn_of _ (by decide +kernel)) ggX5_raise_X5_rowOf
set_option maxRecDepth 20000 in
theorem ggX5_raise_X5_enter : GoodIn wsX5_raise wsX5_enter := goodIn_r _ [13, 14, 15, 8, 9, 16, 17, 18, 6, 19, 28, 29, 30, 31, 32] (by decide +kernel) (by decide +kernel)
set_option maxRecDepth 20000 in
theorem gX5_raise_X5_enter : GoodIn wsX5_raise (wsV RX5 71 RX5 yX5_enter wsX5_enter) := goodIn_app (goodIn_of _ (by decide +kernel)) ggX5_raise_X5_enter
set_option maxRecDepth 20000 in
theorem ggX5_raise_X5_columnWithSign : GoodIn wsX5_raise wsX5_columnWithSign := goodIn_r _ [23, 1, 15, 28, 29, 30, 31, 32] (by decide +kernel) (by decide +kernel)
set_option maxRecDepth 20000 in
theorem gX5_raise_X5_columnWithSign : GoodIn wsX5_raise (wsV RX5 68 RX5 yX5_columnWithSign wsX5_columnWithSign) := goodIn_app (goodIn_of _ (by decide +kernel)) ggX5_raise_X5_columnWithSign
set_option maxRecDepth 20000 in
theorem ggX5_raise_X5_hold : GoodIn wsX5_raise wsX5_hold := goodIn_r _ [27, 15, 9, 1, 28, 29, 30, 31, 32] (by decide +kernel) (by decide +kernel)
set_option maxRecDepth 20000 in
theorem gX5_raise_X5_hold : GoodIn wsX5_raise (wsV RX5 74 RX5 yX5_hold wsX5_hold) := goodIn_app (goodIn_of _ (by decide +kernel)) ggX5_raise_X5_hold
theorem dX5_raise_0 : decode cX5_raise 0 = .ok (.iload_n 1, 1) := by decide +kernel
theorem dX5_raise_1 : decode cX5_raise 1 = .ok (.ifCond .lt 9, 3) := by decide +kernel
theorem dX5_raise_4 : decode cX5_raise 4 = .ok (.iload_n 1, 1) := by decide +kernel
theorem dX5_raise_5 : decode cX5_raise 5 = .ok (.bipush 25, 2) := by decide +kernel
theorem dX5_raise_7 : decode cX5_raise 7 = .ok (.if_icmp .lt 4, 3) := by decide +kernel
theorem dX5_raise_10 : decode cX5_raise 10 = .ok (.return_, 1) := by decide +kernel
theorem dX5_raise_11 : decode cX5_raise 11 = .ok (.aload_n 0, 1) := by decide +kernel
theorem dX5_raise_12 : decode cX5_raise 12 = .ok (.iload_n 1, 1) := by decide +kernel
theorem dX5_raise_13 : decode cX5_raise 13 = .ok (.invokevirtual 64, 3) := by decide +kernel
theorem dX5_raise_16 : decode cX5_raise 16 = .ok (.iconst (-1), 1) := by decide +kernel
theorem dX5_raise_17 : decode cX5_raise 17 = .ok (.if_icmp .ne 21, 3) := by decide +kernel
theorem dX5_raise_20 : decode cX5_raise 20 = .ok (.aload_n 0, 1) := by decide +kernel
theorem dX5_raise_21 : decode cX5_raise 21 = .ok (.getfield 20, 3) := by decide +kernel
theorem dX5_raise_24 : decode cX5_raise 24 = .ok (.iload_n 1, 1) := by decide +kernel
theorem dX5_raise_25 : decode cX5_raise 25 = .ok (.baload, 1) := by decide +kernel
theorem dX5_raise_26 : decode cX5_raise 26 = .ok (.ifCond .eq 11, 3) := by decide +kernel
theorem dX5_raise_29 : decode cX5_raise 29 = .ok (.aload_n 0, 1) := by decide +kernel
theorem dX5_raise_30 : decode cX5_raise 30 = .ok (.iload_n 1, 1) := by decide +kernel
theorem dX5_raise_31 : decode cX5_raise 31 = .ok (.invokevirtual 71, 3) := by decide +kernel
theorem dX5_raise_34 : decode cX5_raise 34 = .ok (.ifCond .ne 4, 3) := by decide +kernel
theorem dX5_raise_37 : decode cX5_raise 37 = .ok (.return_, 1) := by decide +kernel
theorem dX5_raise_38 : decode cX5_raise 38 = .ok (.iconst 0, 1) := by decide +kernel
theorem dX5_raise_39 : decode cX5_raise 39 = .ok (.istore_n 2, 1) := by decide +kernel
theorem dX5_raise_40 : decode cX5_raise 40 = .ok (.iload_n 2, 1) := by decide +kernel
theorem dX5_raise_41 : decode cX5_raise 41 = .ok (.ldc 63, 2) := by decide +kernel
theorem dX5_raise_43 : decode cX5_raise 43 = .ok (.if_icmp .ge 51, 3) := by decide +kernel
theorem dX5_raise_46 : decode cX5_raise 46 = .ok (.aload_n 0, 1) := by decide +kernel
theorem dX5_raise_47 : decode cX5_raise 47 = .ok (.iload_n 1, 1) := by decide +kernel
theorem dX5_raise_48 : decode cX5_raise 48 = .ok (.invokevirtual 64, 3) := by decide +kernel
theorem dX5_raise_51 : decode cX5_raise 51 = .ok (.istore_n 3, 1) := by decide +kernel
theorem dX5_raise_52 : decode cX5_raise 52 = .ok (.iload_n 3, 1) := by decide +kernel
theorem dX5_raise_53 : decode cX5_raise 53 = .ok (.iconst (-1), 1) := by decide +kernel
theorem dX5_raise_54 : decode cX5_raise 54 = .ok (.if_icmp .ne 4, 3) := by decide +kernel
theorem dX5_raise_57 : decode cX5_raise 57 = .ok (.return_, 1) := by decide +kernel
theorem dX5_raise_58 : decode cX5_raise 58 = .ok (.aload_n 0, 1) := by decide +kernel
theorem dX5_raise_59 : decode cX5_raise 59 = .ok (.iload_n 3, 1) := by decide +kernel
theorem dX5_raise_60 : decode cX5_raise 60 = .ok (.iconst (-1), 1) := by decide +kernel
theorem dX5_raise_61 : decode cX5_raise 61 = .ok (.invokevirtual 68, 3) := by decide +kernel
theorem dX5_raise_64 : decode cX5_raise 64 = .ok (.istore 4, 2) := by decide +kernel
theorem dX5_raise_66 : decode cX5_raise 66 = .ok (.iload 4, 2) := by decide +kernel
theorem dX5_raise_68 : decode cX5_raise 68 = .ok (.iconst (-1), 1) := by decide +kernel
theorem dX5_raise_69 : decode cX5_raise 69 = .ok (.if_icmp .ne 9, 3) := by decide +kernel
theorem dX5_raise_72 : decode cX5_raise 72 = .ok (.aload_n 0, 1) := by decide +kernel
theorem dX5_raise_73 : decode cX5_raise 73 = .ok (.iload_n 3, 1) := by decide +kernel
theorem dX5_raise_74 : decode cX5_raise 74 = .ok (.invokevirtual 74, 3) := by decide +kernel
theorem dX5_raise_77 : decode cX5_raise 77 = .ok (.return_, 1) := by decide +kernel
theorem dX5_raise_78 : decode cX5_raise 78 = .ok (.aload_n 0, 1) := by decide +kernel
theorem dX5_raise_79 : decode cX5_raise 79 = .ok (.iload 4, 2) := by decide +kernel
theorem dX5_raise_81 : decode cX5_raise 81 = .ok (.invokevirtual 71, 3) := by decide +kernel
theorem dX5_raise_84 : decode cX5_raise 84 = .ok (.ifCond .ne 4, 3) := by decide +kernel
theorem dX5_raise_87 : decode cX5_raise 87 = .ok (.return_, 1) := by decide +kernel
theorem dX5_raise_88 : decode cX5_raise 88 = .ok (.iinc 2 1, 3) := by decide +kernel
theorem dX5_raise_91 : decode cX5_raise 91 = .ok (.goto (-51), 3) := by decide +kernel
theorem dX5_raise_94 : decode cX5_raise 94 = .ok (.return_, 1) := by decide +kernel
theorem dX5_hold_0 : decode cX5_hold 0 = .ok (.iconst 0, 1) := by decide +kernel
theorem dX5_hold_1 : decode cX5_hold 1 = .ok (.istore_n 2, 1) := by decide +kernel
theorem dX5_hold_2 : decode cX5_hold 2 = .ok (.iload_n 2, 1) := by decide +kernel
theorem dX5_hold_3 : decode cX5_hold 3 = .ok (.bipush 25, 2) := by decide +kernel
theorem dX5_hold_5 : decode cX5_hold 5 = .ok (.if_icmp .ge 39, 3) := by decide +kernel
theorem dX5_hold_8 : decode cX5_hold 8 = .ok (.aload_n 0, 1) := by decide +kernel
theorem dX5_hold_9 : decode cX5_hold 9 = .ok (.getfield 13, 3) := by decide +kernel
theorem dX5_hold_12 : decode cX5_hold 12 = .ok (.iload_n 1, 1) := by decide +kernel
theorem dX5_hold_13 : decode cX5_hold 13 = .ok (.aaload, 1) := by decide +kernel
theorem dX5_hold_14 : decode cX5_hold 14 = .ok (.iload_n 2, 1) := by decide +kernel
theorem dX5_hold_15 : decode cX5_hold 15 = .ok (.laload, 1) := by decide +kernel
theorem dX5_hold_16 : decode cX5_hold 16 = .ok (.lconst 0, 1) := by decide +kernel
theorem dX5_hold_17 : decode cX5_hold 17 = .ok (.lcmp, 1) := by decide +kernel
theorem dX5_hold_18 : decode cX5_hold 18 = .ok (.ifCond .eq 20, 3) := by decide +kernel
theorem dX5_hold_21 : decode cX5_hold 21 = .ok (.aload_n 0, 1) := by decide +kernel
theorem dX5_hold_22 : decode cX5_hold 22 = .ok (.getfield 16, 3) := by decide +kernel
theorem dX5_hold_25 : decode cX5_hold 25 = .ok (.iload_n 1, 1) := by decide +kernel
theorem dX5_hold_26 : decode cX5_hold 26 = .ok (.iaload, 1) := by decide +kernel
theorem dX5_hold_27 : decode cX5_hold 27 = .ok (.iload_n 2, 1) := by decide +kernel
theorem dX5_hold_28 : decode cX5_hold 28 = .ok (.if_icmp .eq 10, 3) := by decide +kernel
theorem dX5_hold_31 : decode cX5_hold 31 = .ok (.aload_n 0, 1) := by decide +kernel
theorem dX5_hold_32 : decode cX5_hold 32 = .ok (.getfield 20, 3) := by decide +kernel
theorem dX5_hold_35 : decode cX5_hold 35 = .ok (.iload_n 2, 1) := by decide +kernel
theorem dX5_hold_36 : decode cX5_hold 36 = .ok (.iconst 0, 1) := by decide +kernel
theorem dX5_hold_37 : decode cX5_hold 37 = .ok (.bastore, 1) := by decide +kernel
theorem dX5_hold_38 : decode cX5_hold 38 = .ok (.iinc 2 1, 3) := by decide +kernel
theorem dX5_hold_41 : decode cX5_hold 41 = .ok (.goto (-39), 3) := by decide +kernel
theorem dX5_hold_44 : decode cX5_hold 44 = .ok (.return_, 1) := by decide +kernel
set_option maxRecDepth 20000 in
theorem ggX5_scaledValue_X5_rowOf : GoodIn wsX5_scaledValue wsX5_rowOf := goodIn_r _ [6, 7, 8, 9, 10, 11, 12, 13] (by decide +kernel) (by decide +kernel)
set_option maxRecDepth 20000 in
theorem gX5_scaledValue_X5_rowOf : GoodIn wsX5_scaledValue (wsV RX5 64 RX5 yX5_rowOf wsX5_rowOf) := goodIn_app (goodIn_of _ (by decide +kernel)) ggX5_scaledValue_X5_rowOf
theorem dX5_scaledValue_0 : decode cX5_scaledValue 0 = .ok (.aload_n 0, 1) := by decide +kernel
theorem dX5_scaledValue_1 : decode cX5_scaledValue 1 = .ok (.iload_n 1, 1) := by decide +kernel
theorem dX5_scaledValue_2 : decode cX5_scaledValue 2 = .ok (.invokevirtual 64, 3) := by decide +kernel
theorem dX5_scaledValue_5 : decode cX5_scaledValue 5 = .ok (.istore_n 2, 1) := by decide +kernel
theorem dX5_scaledValue_6 : decode cX5_scaledValue 6 = .ok (.iload_n 2, 1) := by decide +kernel
theorem dX5_scaledValue_7 : decode cX5_scaledValue 7 = .ok (.iconst (-1), 1) := by decide +kernel
theorem dX5_scaledValue_8 : decode cX5_scaledValue 8 = .ok (.if_icmp .ne 7, 3) := by decide +kernel
theorem dX5_scaledValue_11 : decode cX5_scaledValue 11 = .ok (.lconst 0, 1) := by decide +kernel
theorem dX5_scaledValue_12 : decode cX5_scaledValue 12 = .ok (.goto 12, 3) := by decide +kernel
theorem dX5_scaledValue_15 : decode cX5_scaledValue 15 = .ok (.aload_n 0, 1) := by decide +kernel
theorem dX5_scaledValue_16 : decode cX5_scaledValue 16 = .ok (.getfield 13, 3) := by decide +kernel
theorem dX5_scaledValue_19 : decode cX5_scaledValue 19 = .ok (.iload_n 2, 1) := by decide +kernel
theorem dX5_scaledValue_20 : decode cX5_scaledValue 20 = .ok (.aaload, 1) := by decide +kernel
theorem dX5_scaledValue_21 : decode cX5_scaledValue 21 = .ok (.bipush 25, 2) := by decide +kernel
theorem dX5_scaledValue_23 : decode cX5_scaledValue 23 = .ok (.laload, 1) := by decide +kernel
theorem dX5_scaledValue_24 : decode cX5_scaledValue 24 = .ok (.lreturn, 1) := by decide +kernel
theorem dX5_rowOf_0 : decode cX5_rowOf 0 = .ok (.iconst 0, 1) := by decide +kernel
theorem dX5_rowOf_1 : decode cX5_rowOf 1 = .ok (.istore_n 2, 1) := by decide +kernel
theorem dX5_rowOf_2 : decode cX5_rowOf 2 = .ok (.iload_n 2, 1) := by decide +kernel
theorem dX5_rowOf_3 : decode cX5_rowOf 3 = .ok (.aload_n 0, 1) := by decide +kernel
theorem dX5_rowOf_4 : decode cX5_rowOf 4 = .ok (.getfield 49, 3) := by decide +kernel
theorem dX5_rowOf_7 : decode cX5_rowOf 7 = .ok (.if_icmp .ge 21, 3) := by decide +kernel
theorem dX5_rowOf_10 : decode cX5_rowOf 10 = .ok (.aload_n 0, 1) := by decide +kernel
theorem dX5_rowOf_11 : decode cX5_rowOf 11 = .ok (.getfield 16, 3) := by decide +kernel
theorem dX5_rowOf_14 : decode cX5_rowOf 14 = .ok (.iload_n 2, 1) := by decide +kernel
theorem dX5_rowOf_15 : decode cX5_rowOf 15 = .ok (.iaload, 1) := by decide +kernel
theorem dX5_rowOf_16 : decode cX5_rowOf 16 = .ok (.iload_n 1, 1) := by decide +kernel
theorem dX5_rowOf_17 : decode cX5_rowOf 17 = .ok (.if_icmp .ne 5, 3) := by decide +kernel
theorem dX5_rowOf_20 : decode cX5_rowOf 20 = .ok (.iload_n 2, 1) := by decide +kernel
theorem dX5_rowOf_21 : decode cX5_rowOf 21 = .ok (.ireturn, 1) := by decide +kernel
theorem dX5_rowOf_22 : decode cX5_rowOf 22 = .ok (.iinc 2 1, 3) := by decide +kernel
theorem dX5_rowOf_25 : decode cX5_rowOf 25 = .ok (.goto (-23), 3) := by decide +kernel
theorem dX5_rowOf_28 : decode cX5_rowOf 28 = .ok (.iconst (-1), 1) := by decide +kernel
theorem dX5_rowOf_29 : decode cX5_rowOf 29 = .ok (.ireturn, 1) := by decide +kernel
theorem dX5_columnWithSign_0 : decode cX5_columnWithSign 0 = .ok (.bipush 24, 2) := by decide +kernel
theorem dX5_columnWithSign_2 : decode cX5_columnWithSign 2 = .ok (.istore_n 3, 1) := by decide +kernel
theorem dX5_columnWithSign_3 : decode cX5_columnWithSign 3 = .ok (.iload_n 3, 1) := by decide +kernel
theorem dX5_columnWithSign_4 : decode cX5_columnWithSign 4 = .ok (.ifCond .lt 36, 3) := by decide +kernel
theorem dX5_columnWithSign_7 : decode cX5_columnWithSign 7 = .ok (.aload_n 0, 1) := by decide +kernel
theorem dX5_columnWithSign_8 : decode cX5_columnWithSign 8 = .ok (.getfield 20, 3) := by decide +kernel
theorem dX5_columnWithSign_11 : decode cX5_columnWithSign 11 = .ok (.iload_n 3, 1) := by decide +kernel
theorem dX5_columnWithSign_12 : decode cX5_columnWithSign 12 = .ok (.baload, 1) := by decide +kernel
theorem dX5_columnWithSign_13 : decode cX5_columnWithSign 13 = .ok (.ifCond .eq 21, 3) := by decide +kernel
theorem dX5_columnWithSign_16 : decode cX5_columnWithSign 16 = .ok (.aload_n 0, 1) := by decide +kernel
theorem dX5_columnWithSign_17 : decode cX5_columnWithSign 17 = .ok (.getfield 13, 3) := by decide +kernel
theorem dX5_columnWithSign_20 : decode cX5_columnWithSign 20 = .ok (.iload_n 1, 1) := by decide +kernel
theorem dX5_columnWithSign_21 : decode cX5_columnWithSign 21 = .ok (.aaload, 1) := by decide +kernel
theorem dX5_columnWithSign_22 : decode cX5_columnWithSign 22 = .ok (.iload_n 3, 1) := by decide +kernel
theorem dX5_columnWithSign_23 : decode cX5_columnWithSign 23 = .ok (.laload, 1) := by decide +kernel
theorem dX5_columnWithSign_24 : decode cX5_columnWithSign 24 = .ok (.iload_n 2, 1) := by decide +kernel
theorem dX5_columnWithSign_25 : decode cX5_columnWithSign 25 = .ok (.i2l, 1) := by decide +kernel
theorem dX5_columnWithSign_26 : decode cX5_columnWithSign 26 = .ok (.lmul, 1) := by decide +kernel
theorem dX5_columnWithSign_27 : decode cX5_columnWithSign 27 = .ok (.lconst 0, 1) := by decide +kernel
theorem dX5_columnWithSign_28 : decode cX5_columnWithSign 28 = .ok (.lcmp, 1) := by decide +kernel
theorem dX5_columnWithSign_29 : decode cX5_columnWithSign 29 = .ok (.ifCond .le 5, 3) := by decide +kernel
theorem dX5_columnWithSign_32 : decode cX5_columnWithSign 32 = .ok (.iload_n 3, 1) := by decide +kernel
theorem dX5_columnWithSign_33 : decode cX5_columnWithSign 33 = .ok (.ireturn, 1) := by decide +kernel
theorem dX5_columnWithSign_34 : decode cX5_columnWithSign 34 = .ok (.iinc 3 (-1), 3) := by decide +kernel
theorem dX5_columnWithSign_37 : decode cX5_columnWithSign 37 = .ok (.goto (-34), 3) := by decide +kernel
theorem dX5_columnWithSign_40 : decode cX5_columnWithSign 40 = .ok (.iconst (-1), 1) := by decide +kernel
theorem dX5_columnWithSign_41 : decode cX5_columnWithSign 41 = .ok (.ireturn, 1) := by decide +kernel
set_option maxRecDepth 20000 in
theorem ggX5_enter_X5_leavingRow : GoodIn wsX5_enter wsX5_leavingRow := goodIn_r _ [9, 3, 2, 4, 10, 11, 12, 13, 14] (by decide +kernel) (by decide +kernel)
set_option maxRecDepth 20000 in
theorem gX5_enter_X5_leavingRow : GoodIn wsX5_enter (wsV RX5 77 RX5 yX5_leavingRow wsX5_leavingRow) := goodIn_app (goodIn_of _ (by decide +kernel)) ggX5_enter_X5_leavingRow
theorem dX5_enter_0 : decode cX5_enter 0 = .ok (.aload_n 0, 1) := by decide +kernel
theorem dX5_enter_1 : decode cX5_enter 1 = .ok (.iload_n 1, 1) := by decide +kernel
theorem dX5_enter_2 : decode cX5_enter 2 = .ok (.invokevirtual 77, 3) := by decide +kernel
theorem dX5_enter_5 : decode cX5_enter 5 = .ok (.istore_n 2, 1) := by decide +kernel
theorem dX5_enter_6 : decode cX5_enter 6 = .ok (.iload_n 2, 1) := by decide +kernel
theorem dX5_enter_7 : decode cX5_enter 7 = .ok (.iconst (-1), 1) := by decide +kernel
theorem dX5_enter_8 : decode cX5_enter 8 = .ok (.if_icmp .eq 12, 3) := by decide +kernel
theorem dX5_enter_11 : decode cX5_enter 11 = .ok (.aload_n 0, 1) := by decide +kernel
theorem dX5_enter_12 : decode cX5_enter 12 = .ok (.getfield 52, 3) := by decide +kernel
theorem dX5_enter_15 : decode cX5_enter 15 = .ok (.lconst 0, 1) := by decide +kernel
theorem dX5_enter_16 : decode cX5_enter 16 = .ok (.lcmp, 1) := by decide +kernel
theorem dX5_enter_17 : decode cX5_enter 17 = .ok (.ifCond .ne 5, 3) := by decide +kernel
theorem dX5_enter_20 : decode cX5_enter 20 = .ok (.iconst 0, 1) := by decide +kernel
theorem dX5_enter_21 : decode cX5_enter 21 = .ok (.ireturn, 1) := by decide +kernel
theorem dX5_enter_22 : decode cX5_enter 22 = .ok (.aload_n 0, 1) := by decide +kernel
theorem dX5_enter_23 : decode cX5_enter 23 = .ok (.getfield 13, 3) := by decide +kernel
theorem dX5_enter_26 : decode cX5_enter 26 = .ok (.iload_n 2, 1) := by decide +kernel
theorem dX5_enter_27 : decode cX5_enter 27 = .ok (.aaload, 1) := by decide +kernel
theorem dX5_enter_28 : decode cX5_enter 28 = .ok (.iload_n 1, 1) := by decide +kernel
theorem dX5_enter_29 : decode cX5_enter 29 = .ok (.laload, 1) := by decide +kernel
theorem dX5_enter_30 : decode cX5_enter 30 = .ok (.lstore_n 3, 1) := by decide +kernel
theorem dX5_enter_31 : decode cX5_enter 31 = .ok (.iconst 0, 1) := by decide +kernel
theorem dX5_enter_32 : decode cX5_enter 32 = .ok (.istore 5, 2) := by decide +kernel
theorem dX5_enter_34 : decode cX5_enter 34 = .ok (.iload 5, 2) := by decide +kernel
theorem dX5_enter_36 : decode cX5_enter 36 = .ok (.aload_n 0, 1) := by decide +kernel
theorem dX5_enter_37 : decode cX5_enter 37 = .ok (.getfield 49, 3) := by decide +kernel
theorem dX5_enter_40 : decode cX5_enter 40 = .ok (.if_icmp .ge 98, 3) := by decide +kernel
theorem dX5_enter_43 : decode cX5_enter 43 = .ok (.aload_n 0, 1) := by decide +kernel
theorem dX5_enter_44 : decode cX5_enter 44 = .ok (.getfield 13, 3) := by decide +kernel
theorem dX5_enter_47 : decode cX5_enter 47 = .ok (.iload 5, 2) := by decide +kernel
theorem dX5_enter_49 : decode cX5_enter 49 = .ok (.aaload, 1) := by decide +kernel
theorem dX5_enter_50 : decode cX5_enter 50 = .ok (.iload_n 1, 1) := by decide +kernel
theorem dX5_enter_51 : decode cX5_enter 51 = .ok (.laload, 1) := by decide +kernel
theorem dX5_enter_52 : decode cX5_enter 52 = .ok (.lstore 6, 2) := by decide +kernel
theorem dX5_enter_54 : decode cX5_enter 54 = .ok (.iload 5, 2) := by decide +kernel
theorem dX5_enter_56 : decode cX5_enter 56 = .ok (.iload_n 2, 1) := by decide +kernel
theorem dX5_enter_57 : decode cX5_enter 57 = .ok (.if_icmp .eq 75, 3) := by decide +kernel
theorem dX5_enter_60 : decode cX5_enter 60 = .ok (.lload 6, 2) := by decide +kernel
theorem dX5_enter_62 : decode cX5_enter 62 = .ok (.lconst 0, 1) := by decide +kernel
theorem dX5_enter_63 : decode cX5_enter 63 = .ok (.lcmp, 1) := by decide +kernel
theorem dX5_enter_64 : decode cX5_enter 64 = .ok (.ifCond .ne 12, 3) := by decide +kernel
theorem dX5_enter_67 : decode cX5_enter 67 = .ok (.lload_n 3, 1) := by decide +kernel
theorem dX5_enter_68 : decode cX5_enter 68 = .ok (.aload_n 0, 1) := by decide +kernel
theorem dX5_enter_69 : decode cX5_enter 69 = .ok (.getfield 52, 3) := by decide +kernel
theorem dX5_enter_72 : decode cX5_enter 72 = .ok (.lcmp, 1) := by decide +kernel
theorem dX5_enter_73 : decode cX5_enter 73 = .ok (.ifCond .eq 59, 3) := by decide +kernel
theorem dX5_enter_76 : decode cX5_enter 76 = .ok (.iconst 0, 1) := by decide +kernel
theorem dX5_enter_77 : decode cX5_enter 77 = .ok (.istore 8, 2) := by decide +kernel
theorem dX5_enter_79 : decode cX5_enter 79 = .ok (.iload 8, 2) := by decide +kernel
theorem dX5_enter_81 : decode cX5_enter 81 = .ok (.bipush 25, 2) := by decide +kernel
theorem dX5_enter_83 : decode cX5_enter 83 = .ok (.if_icmp .gt 49, 3) := by decide +kernel
theorem dX5_enter_86 : decode cX5_enter 86 = .ok (.aload_n 0, 1) := by decide +kernel
theorem dX5_enter_87 : decode cX5_enter 87 = .ok (.getfield 13, 3) := by decide +kernel
theorem dX5_enter_90 : decode cX5_enter 90 = .ok (.iload 5, 2) := by decide +kernel
theorem dX5_enter_92 : decode cX5_enter 92 = .ok (.aaload, 1) := by decide +kernel
theorem dX5_enter_93 : decode cX5_enter 93 = .ok (.iload 8, 2) := by decide +kernel
theorem dX5_enter_95 : decode cX5_enter 95 = .ok (.aload_n 0, 1) := by decide +kernel
theorem dX5_enter_96 : decode cX5_enter 96 = .ok (.getfield 13, 3) := by decide +kernel
theorem dX5_enter_99 : decode cX5_enter 99 = .ok (.iload 5, 2) := by decide +kernel
theorem dX5_enter_101 : decode cX5_enter 101 = .ok (.aaload, 1) := by decide +kernel
theorem dX5_enter_102 : decode cX5_enter 102 = .ok (.iload 8, 2) := by decide +kernel
theorem dX5_enter_104 : decode cX5_enter 104 = .ok (.laload, 1) := by decide +kernel
theorem dX5_enter_105 : decode cX5_enter 105 = .ok (.lload_n 3, 1) := by decide +kernel
theorem dX5_enter_106 : decode cX5_enter 106 = .ok (.lmul, 1) := by decide +kernel
theorem dX5_enter_107 : decode cX5_enter 107 = .ok (.lload 6, 2) := by decide +kernel
theorem dX5_enter_109 : decode cX5_enter 109 = .ok (.aload_n 0, 1) := by decide +kernel
theorem dX5_enter_110 : decode cX5_enter 110 = .ok (.getfield 13, 3) := by decide +kernel
theorem dX5_enter_113 : decode cX5_enter 113 = .ok (.iload_n 2, 1) := by decide +kernel
theorem dX5_enter_114 : decode cX5_enter 114 = .ok (.aaload, 1) := by decide +kernel
theorem dX5_enter_115 : decode cX5_enter 115 = .ok (.iload 8, 2) := by decide +kernel
theorem dX5_enter_117 : decode cX5_enter 117 = .ok (.laload, 1) := by decide +kernel
theorem dX5_enter_118 : decode cX5_enter 118 = .ok (.lmul, 1) := by decide +kernel
theorem dX5_enter_119 : decode cX5_enter 119 = .ok (.lsub, 1) := by decide +kernel
theorem dX5_enter_120 : decode cX5_enter 120 = .ok (.aload_n 0, 1) := by decide +kernel
theorem dX5_enter_121 : decode cX5_enter 121 = .ok (.getfield 52, 3) := by decide +kernel
theorem dX5_enter_124 : decode cX5_enter 124 = .ok (.ldiv, 1) := by decide +kernel
theorem dX5_enter_125 : decode cX5_enter 125 = .ok (.lastore, 1) := by decide +kernel
theorem dX5_enter_126 : decode cX5_enter 126 = .ok (.iinc 8 1, 3) := by decide +kernel
theorem dX5_enter_129 : decode cX5_enter 129 = .ok (.goto (-50), 3) := by decide +kernel
theorem dX5_enter_132 : decode cX5_enter 132 = .ok (.iinc 5 1, 3) := by decide +kernel
theorem dX5_enter_135 : decode cX5_enter 135 = .ok (.goto (-101), 3) := by decide +kernel
theorem dX5_enter_138 : decode cX5_enter 138 = .ok (.aload_n 0, 1) := by decide +kernel
theorem dX5_enter_139 : decode cX5_enter 139 = .ok (.lload_n 3, 1) := by decide +kernel
theorem dX5_enter_140 : decode cX5_enter 140 = .ok (.putfield 52, 3) := by decide +kernel
theorem dX5_enter_143 : decode cX5_enter 143 = .ok (.aload_n 0, 1) := by decide +kernel
theorem dX5_enter_144 : decode cX5_enter 144 = .ok (.getfield 16, 3) := by decide +kernel
theorem dX5_enter_147 : decode cX5_enter 147 = .ok (.iload_n 2, 1) := by decide +kernel
theorem dX5_enter_148 : decode cX5_enter 148 = .ok (.iload_n 1, 1) := by decide +kernel
theorem dX5_enter_149 : decode cX5_enter 149 = .ok (.iastore, 1) := by decide +kernel
theorem dX5_enter_150 : decode cX5_enter 150 = .ok (.iconst 1, 1) := by decide +kernel
theorem dX5_enter_151 : decode cX5_enter 151 = .ok (.ireturn, 1) := by decide +kernel
theorem dX5_leavingRow_0 : decode cX5_leavingRow 0 = .ok (.iconst (-1), 1) := by decide +kernel
theorem dX5_leavingRow_1 : decode cX5_leavingRow 1 = .ok (.istore_n 2, 1) := by decide +kernel
theorem dX5_leavingRow_2 : decode cX5_leavingRow 2 = .ok (.iconst 0, 1) := by decide +kernel
theorem dX5_leavingRow_3 : decode cX5_leavingRow 3 = .ok (.istore_n 3, 1) := by decide +kernel
theorem dX5_leavingRow_4 : decode cX5_leavingRow 4 = .ok (.iload_n 3, 1) := by decide +kernel
theorem dX5_leavingRow_5 : decode cX5_leavingRow 5 = .ok (.aload_n 0, 1) := by decide +kernel
theorem dX5_leavingRow_6 : decode cX5_leavingRow 6 = .ok (.getfield 49, 3) := by decide +kernel
theorem dX5_leavingRow_9 : decode cX5_leavingRow 9 = .ok (.if_icmp .ge 105, 3) := by decide +kernel
theorem dX5_leavingRow_12 : decode cX5_leavingRow 12 = .ok (.aload_n 0, 1) := by decide +kernel
theorem dX5_leavingRow_13 : decode cX5_leavingRow 13 = .ok (.getfield 13, 3) := by decide +kernel
theorem dX5_leavingRow_16 : decode cX5_leavingRow 16 = .ok (.iload_n 3, 1) := by decide +kernel
theorem dX5_leavingRow_17 : decode cX5_leavingRow 17 = .ok (.aaload, 1) := by decide +kernel
theorem dX5_leavingRow_18 : decode cX5_leavingRow 18 = .ok (.iload_n 1, 1) := by decide +kernel
theorem dX5_leavingRow_19 : decode cX5_leavingRow 19 = .ok (.laload, 1) := by decide +kernel
theorem dX5_leavingRow_20 : decode cX5_leavingRow 20 = .ok (.lconst 0, 1) := by decide +kernel
theorem dX5_leavingRow_21 : decode cX5_leavingRow 21 = .ok (.lcmp, 1) := by decide +kernel
theorem dX5_leavingRow_22 : decode cX5_leavingRow 22 = .ok (.ifCond .le 86, 3) := by decide +kernel
theorem dX5_leavingRow_25 : decode cX5_leavingRow 25 = .ok (.iload_n 2, 1) := by decide +kernel
theorem dX5_leavingRow_26 : decode cX5_leavingRow 26 = .ok (.iconst (-1), 1) := by decide +kernel
theorem dX5_leavingRow_27 : decode cX5_leavingRow 27 = .ok (.if_icmp .ne 8, 3) := by decide +kernel
theorem dX5_leavingRow_30 : decode cX5_leavingRow 30 = .ok (.iload_n 3, 1) := by decide +kernel
theorem dX5_leavingRow_31 : decode cX5_leavingRow 31 = .ok (.istore_n 2, 1) := by decide +kernel
theorem dX5_leavingRow_32 : decode cX5_leavingRow 32 = .ok (.goto 76, 3) := by decide +kernel
theorem dX5_leavingRow_35 : decode cX5_leavingRow 35 = .ok (.aload_n 0, 1) := by decide +kernel
theorem dX5_leavingRow_36 : decode cX5_leavingRow 36 = .ok (.getfield 13, 3) := by decide +kernel
theorem dX5_leavingRow_39 : decode cX5_leavingRow 39 = .ok (.iload_n 3, 1) := by decide +kernel
theorem dX5_leavingRow_40 : decode cX5_leavingRow 40 = .ok (.aaload, 1) := by decide +kernel
theorem dX5_leavingRow_41 : decode cX5_leavingRow 41 = .ok (.bipush 25, 2) := by decide +kernel
theorem dX5_leavingRow_43 : decode cX5_leavingRow 43 = .ok (.laload, 1) := by decide +kernel
theorem dX5_leavingRow_44 : decode cX5_leavingRow 44 = .ok (.aload_n 0, 1) := by decide +kernel
theorem dX5_leavingRow_45 : decode cX5_leavingRow 45 = .ok (.getfield 13, 3) := by decide +kernel
theorem dX5_leavingRow_48 : decode cX5_leavingRow 48 = .ok (.iload_n 2, 1) := by decide +kernel
theorem dX5_leavingRow_49 : decode cX5_leavingRow 49 = .ok (.aaload, 1) := by decide +kernel
theorem dX5_leavingRow_50 : decode cX5_leavingRow 50 = .ok (.iload_n 1, 1) := by decide +kernel
theorem dX5_leavingRow_51 : decode cX5_leavingRow 51 = .ok (.laload, 1) := by decide +kernel
theorem dX5_leavingRow_52 : decode cX5_leavingRow 52 = .ok (.lmul, 1) := by decide +kernel
theorem dX5_leavingRow_53 : decode cX5_leavingRow 53 = .ok (.lstore 4, 2) := by decide +kernel
theorem dX5_leavingRow_55 : decode cX5_leavingRow 55 = .ok (.aload_n 0, 1) := by decide +kernel
theorem dX5_leavingRow_56 : decode cX5_leavingRow 56 = .ok (.getfield 13, 3) := by decide +kernel
theorem dX5_leavingRow_59 : decode cX5_leavingRow 59 = .ok (.iload_n 2, 1) := by decide +kernel
theorem dX5_leavingRow_60 : decode cX5_leavingRow 60 = .ok (.aaload, 1) := by decide +kernel
theorem dX5_leavingRow_61 : decode cX5_leavingRow 61 = .ok (.bipush 25, 2) := by decide +kernel
theorem dX5_leavingRow_63 : decode cX5_leavingRow 63 = .ok (.laload, 1) := by decide +kernel
theorem dX5_leavingRow_64 : decode cX5_leavingRow 64 = .ok (.aload_n 0, 1) := by decide +kernel
theorem dX5_leavingRow_65 : decode cX5_leavingRow 65 = .ok (.getfield 13, 3) := by decide +kernel
theorem dX5_leavingRow_68 : decode cX5_leavingRow 68 = .ok (.iload_n 3, 1) := by decide +kernel
theorem dX5_leavingRow_69 : decode cX5_leavingRow 69 = .ok (.aaload, 1) := by decide +kernel
theorem dX5_leavingRow_70 : decode cX5_leavingRow 70 = .ok (.iload_n 1, 1) := by decide +kernel
theorem dX5_leavingRow_71 : decode cX5_leavingRow 71 = .ok (.laload, 1) := by decide +kernel
theorem dX5_leavingRow_72 : decode cX5_leavingRow 72 = .ok (.lmul, 1) := by decide +kernel
theorem dX5_leavingRow_73 : decode cX5_leavingRow 73 = .ok (.lstore 6, 2) := by decide +kernel
theorem dX5_leavingRow_75 : decode cX5_leavingRow 75 = .ok (.lload 4, 2) := by decide +kernel
theorem dX5_leavingRow_77 : decode cX5_leavingRow 77 = .ok (.lload 6, 2) := by decide +kernel
theorem dX5_leavingRow_79 : decode cX5_leavingRow 79 = .ok (.lcmp, 1) := by decide +kernel
theorem dX5_leavingRow_80 : decode cX5_leavingRow 80 = .ok (.ifCond .lt 26, 3) := by decide +kernel
theorem dX5_leavingRow_83 : decode cX5_leavingRow 83 = .ok (.lload 4, 2) := by decide +kernel
theorem dX5_leavingRow_85 : decode cX5_leavingRow 85 = .ok (.lload 6, 2) := by decide +kernel
theorem dX5_leavingRow_87 : decode cX5_leavingRow 87 = .ok (.lcmp, 1) := by decide +kernel
theorem dX5_leavingRow_88 : decode cX5_leavingRow 88 = .ok (.ifCond .ne 20, 3) := by decide +kernel
theorem dX5_leavingRow_91 : decode cX5_leavingRow 91 = .ok (.aload_n 0, 1) := by decide +kernel
theorem dX5_leavingRow_92 : decode cX5_leavingRow 92 = .ok (.getfield 16, 3) := by decide +kernel
theorem dX5_leavingRow_95 : decode cX5_leavingRow 95 = .ok (.iload_n 3, 1) := by decide +kernel
theorem dX5_leavingRow_96 : decode cX5_leavingRow 96 = .ok (.iaload, 1) := by decide +kernel
theorem dX5_leavingRow_97 : decode cX5_leavingRow 97 = .ok (.aload_n 0, 1) := by decide +kernel
theorem dX5_leavingRow_98 : decode cX5_leavingRow 98 = .ok (.getfield 16, 3) := by decide +kernel
theorem dX5_leavingRow_101 : decode cX5_leavingRow 101 = .ok (.iload_n 2, 1) := by decide +kernel
theorem dX5_leavingRow_102 : decode cX5_leavingRow 102 = .ok (.iaload, 1) := by decide +kernel
theorem dX5_leavingRow_103 : decode cX5_leavingRow 103 = .ok (.if_icmp .le 5, 3) := by decide +kernel
theorem dX5_leavingRow_106 : decode cX5_leavingRow 106 = .ok (.iload_n 3, 1) := by decide +kernel
theorem dX5_leavingRow_107 : decode cX5_leavingRow 107 = .ok (.istore_n 2, 1) := by decide +kernel
theorem dX5_leavingRow_108 : decode cX5_leavingRow 108 = .ok (.iinc 3 1, 3) := by decide +kernel
theorem dX5_leavingRow_111 : decode cX5_leavingRow 111 = .ok (.goto (-107), 3) := by decide +kernel
theorem dX5_leavingRow_114 : decode cX5_leavingRow 114 = .ok (.iload_n 2, 1) := by decide +kernel
theorem dX5_leavingRow_115 : decode cX5_leavingRow 115 = .ok (.ireturn, 1) := by decide +kernel
set_option maxRecDepth 20000 in
theorem ggX6_init_X1_init : GoodIn wsX6_init wsX1_init := goodIn_r _ [25, 26, 2, 3, 27, 28, 61, 62] (by decide +kernel) (by decide +kernel)
set_option maxRecDepth 20000 in
theorem gX6_init_X1_init_n11 : GoodIn wsX6_init (wsX1_init) := ggX6_init_X1_init
set_option maxRecDepth 20000 in
theorem ggX6_init_X2_init : GoodIn wsX6_init wsX2_init := goodIn_r _ [30, 31, 2, 3, 27, 32, 70, 71, 72, 73, 74] (by decide +kernel) (by decide +kernel)
set_option maxRecDepth 20000 in
theorem gX6_init_X2_init_n18 : GoodIn wsX6_init (wsX2_init) := ggX6_init_X2_init
set_option maxRecDepth 20000 in
theorem ggX6_init_X3_init : GoodIn wsX6_init wsX3_init := goodIn_r _ [34, 35, 2, 3, 27, 36, 37, 38, 75, 76, 77, 78] (by decide +kernel) (by decide +kernel)
set_option maxRecDepth 20000 in
theorem gX6_init_X3_init_n25 : GoodIn wsX6_init (wsX3_init) := ggX6_init_X3_init
set_option maxRecDepth 20000 in
theorem ggX6_init_X0_init : GoodIn wsX6_init wsX0_init := goodIn_r _ [40, 41, 2, 3, 42, 43, 44, 45, 27, 46, 47, 48, 49, 50, 51, 52, 53, 54, 55, 56, 86, 87, 88, 89, 90, 79, 80, 81, 82, 83, 84] (by decide +kernel) (by decide +kernel)
set_option maxRecDepth 20000 in
theorem gX6_init_X0_init_n32 : GoodIn wsX6_init (wsX0_init) := ggX6_init_X0_init
set_option maxRecDepth 20000 in
theorem ggX6_init_X4_init : GoodIn wsX6_init wsX4_init := goodIn_r _ [58, 59, 2, 3, 27, 60, 85] (by decide +kernel) (by decide +kernel)
set_option maxRecDepth 20000 in
theorem gX6_init_X4_init_n39 : GoodIn wsX6_init (wsX4_init) := ggX6_init_X4_init
theorem dX6_init_0 : decode cX6_init 0 = .ok (.aload_n 0, 1) := by decide +kernel
theorem dX6_init_1 : decode cX6_init 1 = .ok (.invokespecial 3, 3) := by decide +kernel
theorem dX6_init_4 : decode cX6_init 4 = .ok (.aload_n 0, 1) := by decide +kernel
theorem dX6_init_5 : decode cX6_init 5 = .ok (.new 9, 3) := by decide +kernel
theorem dX6_init_8 : decode cX6_init 8 = .ok (.dup, 1) := by decide +kernel
theorem dX6_init_9 : decode cX6_init 9 = .ok (.invokespecial 11, 3) := by decide +kernel
theorem dX6_init_12 : decode cX6_init 12 = .ok (.putfield 12, 3) := by decide +kernel
theorem dX6_init_15 : decode cX6_init 15 = .ok (.aload_n 0, 1) := by decide +kernel
theorem dX6_init_16 : decode cX6_init 16 = .ok (.new 16, 3) := by decide +kernel
theorem dX6_init_19 : decode cX6_init 19 = .ok (.dup, 1) := by decide +kernel
theorem dX6_init_20 : decode cX6_init 20 = .ok (.invokespecial 18, 3) := by decide +kernel
theorem dX6_init_23 : decode cX6_init 23 = .ok (.putfield 19, 3) := by decide +kernel
theorem dX6_init_26 : decode cX6_init 26 = .ok (.aload_n 0, 1) := by decide +kernel
theorem dX6_init_27 : decode cX6_init 27 = .ok (.new 23, 3) := by decide +kernel
theorem dX6_init_30 : decode cX6_init 30 = .ok (.dup, 1) := by decide +kernel
theorem dX6_init_31 : decode cX6_init 31 = .ok (.invokespecial 25, 3) := by decide +kernel
theorem dX6_init_34 : decode cX6_init 34 = .ok (.putfield 26, 3) := by decide +kernel
theorem dX6_init_37 : decode cX6_init 37 = .ok (.aload_n 0, 1) := by decide +kernel
theorem dX6_init_38 : decode cX6_init 38 = .ok (.new 30, 3) := by decide +kernel
theorem dX6_init_41 : decode cX6_init 41 = .ok (.dup, 1) := by decide +kernel
theorem dX6_init_42 : decode cX6_init 42 = .ok (.invokespecial 32, 3) := by decide +kernel
theorem dX6_init_45 : decode cX6_init 45 = .ok (.putfield 33, 3) := by decide +kernel
theorem dX6_init_48 : decode cX6_init 48 = .ok (.aload_n 0, 1) := by decide +kernel
theorem dX6_init_49 : decode cX6_init 49 = .ok (.new 37, 3) := by decide +kernel
theorem dX6_init_52 : decode cX6_init 52 = .ok (.dup, 1) := by decide +kernel
theorem dX6_init_53 : decode cX6_init 53 = .ok (.invokespecial 39, 3) := by decide +kernel
theorem dX6_init_56 : decode cX6_init 56 = .ok (.putfield 40, 3) := by decide +kernel
theorem dX6_init_59 : decode cX6_init 59 = .ok (.return_, 1) := by decide +kernel
set_option maxRecDepth 20000 in
theorem ggX6_addJob_X6_isTime : GoodIn wsX6_addJob wsX6_isTime := goodIn_r _ [10] (by decide +kernel) (by decide +kernel)
set_option maxRecDepth 20000 in
theorem gX6_addJob_X6_isTime : GoodIn wsX6_addJob (va_wsS RX6 44 yX6_isTime wsX6_isTime) := goodIn_app (goodIn_of _ (by decide +kernel)) ggX6_addJob_X6_isTime
set_option maxRecDepth 20000 in
theorem ggX6_addJob_X6_forgetResults : GoodIn wsX6_addJob wsX6_forgetResults := goodIn_r _ [14, 15, 16, 17, 18, 19, 20, 21, 22, 23] (by decide +kernel) (by decide +kernel)
set_option maxRecDepth 20000 in
theorem gX6_addJob_X6_forgetResults : GoodIn wsX6_addJob (wsV RX6 73 RX6 yX6_forgetResults wsX6_forgetResults) := goodIn_app (goodIn_of _ (by decide +kernel)) ggX6_addJob_X6_forgetResults
theorem dX6_addJob_0 : decode cX6_addJob 0 = .ok (.iload_n 1, 1) := by decide +kernel
theorem dX6_addJob_1 : decode cX6_addJob 1 = .ok (.invokestatic 44, 3) := by decide +kernel
theorem dX6_addJob_4 : decode cX6_addJob 4 = .ok (.ifCond .eq 17, 3) := by decide +kernel
theorem dX6_addJob_7 : decode cX6_addJob 7 = .ok (.iload_n 2, 1) := by decide +kernel
theorem dX6_addJob_8 : decode cX6_addJob 8 = .ok (.invokestatic 44, 3) := by decide +kernel
theorem dX6_addJob_11 : decode cX6_addJob 11 = .ok (.ifCond .eq 10, 3) := by decide +kernel
theorem dX6_addJob_14 : decode cX6_addJob 14 = .ok (.iload_n 3, 1) := by decide +kernel
theorem dX6_addJob_15 : decode cX6_addJob 15 = .ok (.invokestatic 44, 3) := by decide +kernel
theorem dX6_addJob_18 : decode cX6_addJob 18 = .ok (.ifCond .ne 13, 3) := by decide +kernel
theorem dX6_addJob_21 : decode cX6_addJob 21 = .ok (.new 48, 3) := by decide +kernel
theorem dX6_addJob_24 : decode cX6_addJob 24 = .ok (.dup, 1) := by decide +kernel
theorem dX6_addJob_25 : decode cX6_addJob 25 = .ok (.ldc 50, 2) := by decide +kernel
theorem dX6_addJob_27 : decode cX6_addJob 27 = .ok (.invokespecial 52, 3) := by decide +kernel
theorem dX6_addJob_30 : decode cX6_addJob 30 = .ok (.athrow, 1) := by decide +kernel
theorem dX6_addJob_31 : decode cX6_addJob 31 = .ok (.iload_n 1, 1) := by decide +kernel
theorem dX6_addJob_32 : decode cX6_addJob 32 = .ok (.ifCond .ne 21, 3) := by decide +kernel
theorem dX6_addJob_35 : decode cX6_addJob 35 = .ok (.iload_n 2, 1) := by decide +kernel
theorem dX6_addJob_36 : decode cX6_addJob 36 = .ok (.ifCond .ne 17, 3) := by decide +kernel
theorem dX6_addJob_39 : decode cX6_addJob 39 = .ok (.iload_n 3, 1) := by decide +kernel
theorem dX6_addJob_40 : decode cX6_addJob 40 = .ok (.ifCond .ne 13, 3) := by decide +kernel
theorem dX6_addJob_43 : decode cX6_addJob 43 = .ok (.new 48, 3) := by decide +kernel
theorem dX6_addJob_46 : decode cX6_addJob 46 = .ok (.dup, 1) := by decide +kernel
theorem dX6_addJob_47 : decode cX6_addJob 47 = .ok (.ldc 55, 2) := by decide +kernel
theorem dX6_addJob_49 : decode cX6_addJob 49 = .ok (.invokespecial 52, 3) := by decide +kernel
theorem dX6_addJob_52 : decode cX6_addJob 52 = .ok (.athrow, 1) := by decide +kernel
theorem dX6_addJob_53 : decode cX6_addJob 53 = .ok (.aload_n 0, 1) := by decide +kernel
theorem dX6_addJob_54 : decode cX6_addJob 54 = .ok (.getfield 12, 3) := by decide +kernel
theorem dX6_addJob_57 : decode cX6_addJob 57 = .ok (.getfield 57, 3) := by decide +kernel
theorem dX6_addJob_60 : decode cX6_addJob 60 = .ok (.istore 4, 2) := by decide +kernel
theorem dX6_addJob_62 : decode cX6_addJob 62 = .ok (.iload 4, 2) := by decide +kernel
theorem dX6_addJob_64 : decode cX6_addJob 64 = .ok (.ifCond .lt 10, 3) := by decide +kernel
theorem dX6_addJob_67 : decode cX6_addJob 67 = .ok (.iload 4, 2) := by decide +kernel
theorem dX6_addJob_69 : decode cX6_addJob 69 = .ok (.bipush 7, 2) := by decide +kernel
theorem dX6_addJob_71 : decode cX6_addJob 71 = .ok (.if_icmp .lt 13, 3) := by decide +kernel
theorem dX6_addJob_74 : decode cX6_addJob 74 = .ok (.new 61, 3) := by decide +kernel
theorem dX6_addJob_77 : decode cX6_addJob 77 = .ok (.dup, 1) := by decide +kernel
theorem dX6_addJob_78 : decode cX6_addJob 78 = .ok (.ldc 63, 2) := by decide +kernel
theorem dX6_addJob_80 : decode cX6_addJob 80 = .ok (.invokespecial 65, 3) := by decide +kernel
theorem dX6_addJob_83 : decode cX6_addJob 83 = .ok (.athrow, 1) := by decide +kernel
theorem dX6_addJob_84 : decode cX6_addJob 84 = .ok (.aload_n 0, 1) := by decide +kernel
theorem dX6_addJob_85 : decode cX6_addJob 85 = .ok (.getfield 12, 3) := by decide +kernel
theorem dX6_addJob_88 : decode cX6_addJob 88 = .ok (.iload 4, 2) := by decide +kernel
theorem dX6_addJob_90 : decode cX6_addJob 90 = .ok (.iconst 1, 1) := by decide +kernel
theorem dX6_addJob_91 : decode cX6_addJob 91 = .ok (.iadd, 1) := by decide +kernel
theorem dX6_addJob_92 : decode cX6_addJob 92 = .ok (.putfield 57, 3) := by decide +kernel
theorem dX6_addJob_95 : decode cX6_addJob 95 = .ok (.aload_n 0, 1) := by decide +kernel
theorem dX6_addJob_96 : decode cX6_addJob 96 = .ok (.getfield 12, 3) := by decide +kernel
theorem dX6_addJob_99 : decode cX6_addJob 99 = .ok (.getfield 66, 3) := by decide +kernel
theorem dX6_addJob_102 : decode cX6_addJob 102 = .ok (.iload 4, 2) := by decide +kernel
theorem dX6_addJob_104 : decode cX6_addJob 104 = .ok (.iconst 3, 1) := by decide +kernel
theorem dX6_addJob_105 : decode cX6_addJob 105 = .ok (.imul, 1) := by decide +kernel
theorem dX6_addJob_106 : decode cX6_addJob 106 = .ok (.iload_n 1, 1) := by decide +kernel
theorem dX6_addJob_107 : decode cX6_addJob 107 = .ok (.iastore, 1) := by decide +kernel
theorem dX6_addJob_108 : decode cX6_addJob 108 = .ok (.aload_n 0, 1) := by decide +kernel
theorem dX6_addJob_109 : decode cX6_addJob 109 = .ok (.getfield 12, 3) := by decide +kernel
theorem dX6_addJob_112 : decode cX6_addJob 112 = .ok (.getfield 66, 3) := by decide +kernel
theorem dX6_addJob_115 : decode cX6_addJob 115 = .ok (.iload 4, 2) := by decide +kernel
theorem dX6_addJob_117 : decode cX6_addJob 117 = .ok (.iconst 3, 1) := by decide +kernel
theorem dX6_addJob_118 : decode cX6_addJob 118 = .ok (.imul, 1) := by decide +kernel
theorem dX6_addJob_119 : decode cX6_addJob 119 = .ok (.iconst 1, 1) := by decide +kernel
theorem dX6_addJob_120 : decode cX6_addJob 120 = .ok (.iadd, 1) := by decide +kernel
theorem dX6_addJob_121 : decode cX6_addJob 121 = .ok (.iload_n 2, 1) := by decide +kernel
theorem dX6_addJob_122 : decode cX6_addJob 122 = .ok (.iastore, 1) := by decide +kernel
theorem dX6_addJob_123 : decode cX6_addJob 123 = .ok (.aload_n 0, 1) := by decide +kernel
theorem dX6_addJob_124 : decode cX6_addJob 124 = .ok (.getfield 12, 3) := by decide +kernel
theorem dX6_addJob_127 : decode cX6_addJob 127 = .ok (.getfield 66, 3) := by decide +kernel
theorem dX6_addJob_130 : decode cX6_addJob 130 = .ok (.iload 4, 2) := by decide +kernel
theorem dX6_addJob_132 : decode cX6_addJob 132 = .ok (.iconst 3, 1) := by decide +kernel
theorem dX6_addJob_133 : decode cX6_addJob 133 = .ok (.imul, 1) := by decide +kernel
theorem dX6_addJob_134 : decode cX6_addJob 134 = .ok (.iconst 2, 1) := by decide +kernel
theorem dX6_addJob_135 : decode cX6_addJob 135 = .ok (.iadd, 1) := by decide +kernel
theorem dX6_addJob_136 : decode cX6_addJob 136 = .ok (.iload_n 3, 1) := by decide +kernel
theorem dX6_addJob_137 : decode cX6_addJob 137 = .ok (.iastore, 1) := by decide +kernel
theorem dX6_addJob_138 : decode cX6_addJob 138 = .ok (.aload_n 0, 1) := by decide +kernel
theorem dX6_addJob_139 : decode cX6_addJob 139 = .ok (.getfield 19, 3) := by decide +kernel
theorem dX6_addJob_142 : decode cX6_addJob 142 = .ok (.getfield 70, 3) := by decide +kernel
theorem dX6_addJob_145 : decode cX6_addJob 145 = .ok (.iload 4, 2) := by decide +kernel
theorem dX6_addJob_147 : decode cX6_addJob 147 = .ok (.iload_n 1, 1) := by decide +kernel
theorem dX6_addJob_148 : decode cX6_addJob 148 = .ok (.ifCond .le 7, 3) := by decide +kernel
theorem dX6_addJob_151 : decode cX6_addJob 151 = .ok (.iconst 0, 1) := by decide +kernel
theorem dX6_addJob_152 : decode cX6_addJob 152 = .ok (.goto 12, 3) := by decide +kernel
theorem dX6_addJob_155 : decode cX6_addJob 155 = .ok (.iload_n 2, 1) := by decide +kernel
theorem dX6_addJob_156 : decode cX6_addJob 156 = .ok (.ifCond .le 7, 3) := by decide +kernel
theorem dX6_addJob_159 : decode cX6_addJob 159 = .ok (.iconst 1, 1) := by decide +kernel
theorem dX6_addJob_160 : decode cX6_addJob 160 = .ok (.goto 4, 3) := by decide +kernel
theorem dX6_addJob_163 : decode cX6_addJob 163 = .ok (.iconst 2, 1) := by decide +kernel
theorem dX6_addJob_164 : decode cX6_addJob 164 = .ok (.iastore, 1) := by decide +kernel
theorem dX6_addJob_165 : decode cX6_addJob 165 = .ok (.aload_n 0, 1) := by decide +kernel
theorem dX6_addJob_166 : decode cX6_addJob 166 = .ok (.invokevirtual 73, 3) := by decide +kernel
theorem dX6_addJob_169 : decode cX6_addJob 169 = .ok (.iload 4, 2) := by decide +kernel
theorem dX6_addJob_171 : decode cX6_addJob 171 = .ok (.ireturn, 1) := by decide +kernel
set_option maxRecDepth 20000 in
theorem ggX6_setTime_X6_requireJob : GoodIn wsX6_setTime wsX6_requireJob := goodIn_ca (goodIn_r _ [11, 12, 13, 6, 33, 34, 35, 36, 37, 38, 39, 45, 46] (by decide +kernel) (by decide +kernel)) (goodIn_sub (fun _ h => List.mem_cons_of_mem _ (List.mem_append_right _ h)) (by decide +kernel))
set_option maxRecDepth 20000 in
theorem gX6_setTime_X6_requireJob : GoodIn wsX6_setTime (wsV RX6 76 RX6 yX6_requireJob wsX6_requireJob) := goodIn_app (goodIn_of _ (by decide +kernel)) ggX6_setTime_X6_requireJob
set_option maxRecDepth 20000 in
theorem ggX6_setTime_X6_requireMachine : GoodIn wsX6_setTime wsX6_requireMachine := goodIn_ca (goodIn_r _ [16, 12, 13] (by decide +kernel) (by decide +kernel)) (goodIn_sub (fun _ h => List.mem_cons_of_mem _ (List.mem_append_right _ h)) (by decide +kernel))
set_option maxRecDepth 20000 in
theorem gX6_setTime_X6_requireMachine : GoodIn wsX6_setTime (va_wsS RX6 80 yX6_requireMachine wsX6_requireMachine) := goodIn_app (goodIn_of _ (by decide +kernel)) ggX6_setTime_X6_requireMachine
set_option maxRecDepth 20000 in
theorem ggX6_setTime_X6_isTime : GoodIn wsX6_setTime wsX6_isTime := goodIn_r _ [19] (by decide +kernel) (by decide +kernel)
set_option maxRecDepth 20000 in
theorem gX6_setTime_X6_isTime : GoodIn wsX6_setTime (va_wsS RX6 44 yX6_isTime wsX6_isTime) := goodIn_app (goodIn_of _ (by decide +kernel)) ggX6_setTime_X6_isTime
set_option maxRecDepth 20000 in
theorem ggX6_setTime_X1_timeOn : GoodIn wsX6_setTime wsX1_timeOn := goodIn_r _ [24, 25, 26, 45, 46] (by decide +kernel) (by decide +kernel)
set_option maxRecDepth 20000 in
theorem gX6_setTime_X1_timeOn : GoodIn wsX6_setTime (wsV RX6 87 RX1 yX1_timeOn wsX1_timeOn) := goodIn_app (goodIn_of _ (by decide +kernel)) ggX6_setTime_X1_timeOn
set_option maxRecDepth 20000 in
theorem ggX6_setTime_X6_forgetResults : GoodIn wsX6_setTime wsX6_forgetResults := goodIn_r _ [30, 31, 32, 33, 34, 35, 36, 37, 38, 39] (by decide +kernel) (by decide +kernel)
set_option maxRecDepth 20000 in
theorem gX6_setTime_X6_forgetResults : GoodIn wsX6_setTime (wsV RX6 73 RX6 yX6_forgetResults wsX6_forgetResults) := goodIn_app (goodIn_of _ (by decide +kernel)) ggX6_setTime_X6_forgetResults
theorem dX6_setTime_0 : decode cX6_setTime 0 = .ok (.aload_n 0, 1) := by decide +kernel
theorem dX6_setTime_1 : decode cX6_setTime 1 = .ok (.iload_n 1, 1) := by decide +kernel
theorem dX6_setTime_2 : decode cX6_setTime 2 = .ok (.invokevirtual 76, 3) := by decide +kernel
theorem dX6_setTime_5 : decode cX6_setTime 5 = .ok (.iload_n 2, 1) := by decide +kernel
theorem dX6_setTime_6 : decode cX6_setTime 6 = .ok (.invokestatic 80, 3) := by decide +kernel
theorem dX6_setTime_9 : decode cX6_setTime 9 = .ok (.iload_n 3, 1) := by decide +kernel
theorem dX6_setTime_10 : decode cX6_setTime 10 = .ok (.invokestatic 44, 3) := by decide +kernel
theorem dX6_setTime_13 : decode cX6_setTime 13 = .ok (.ifCond .ne 13, 3) := by decide +kernel
theorem dX6_setTime_16 : decode cX6_setTime 16 = .ok (.new 48, 3) := by decide +kernel
theorem dX6_setTime_19 : decode cX6_setTime 19 = .ok (.dup, 1) := by decide +kernel
theorem dX6_setTime_20 : decode cX6_setTime 20 = .ok (.ldc 83, 2) := by decide +kernel
theorem dX6_setTime_22 : decode cX6_setTime 22 = .ok (.invokespecial 52, 3) := by decide +kernel
theorem dX6_setTime_25 : decode cX6_setTime 25 = .ok (.athrow, 1) := by decide +kernel
theorem dX6_setTime_26 : decode cX6_setTime 26 = .ok (.iload_n 3, 1) := by decide +kernel
theorem dX6_setTime_27 : decode cX6_setTime 27 = .ok (.ifCond .ne 26, 3) := by decide +kernel
theorem dX6_setTime_30 : decode cX6_setTime 30 = .ok (.aload_n 0, 1) := by decide +kernel
theorem dX6_setTime_31 : decode cX6_setTime 31 = .ok (.getfield 19, 3) := by decide +kernel
theorem dX6_setTime_34 : decode cX6_setTime 34 = .ok (.getfield 70, 3) := by decide +kernel
theorem dX6_setTime_37 : decode cX6_setTime 37 = .ok (.iload_n 1, 1) := by decide +kernel
theorem dX6_setTime_38 : decode cX6_setTime 38 = .ok (.iaload, 1) := by decide +kernel
theorem dX6_setTime_39 : decode cX6_setTime 39 = .ok (.iload_n 2, 1) := by decide +kernel
theorem dX6_setTime_40 : decode cX6_setTime 40 = .ok (.if_icmp .ne 13, 3) := by decide +kernel
theorem dX6_setTime_43 : decode cX6_setTime 43 = .ok (.new 61, 3) := by decide +kernel
theorem dX6_setTime_46 : decode cX6_setTime 46 = .ok (.dup, 1) := by decide +kernel
theorem dX6_setTime_47 : decode cX6_setTime 47 = .ok (.ldc 85, 2) := by decide +kernel
theorem dX6_setTime_49 : decode cX6_setTime 49 = .ok (.invokespecial 65, 3) := by decide +kernel
theorem dX6_setTime_52 : decode cX6_setTime 52 = .ok (.athrow, 1) := by decide +kernel
theorem dX6_setTime_53 : decode cX6_setTime 53 = .ok (.aload_n 0, 1) := by decide +kernel
theorem dX6_setTime_54 : decode cX6_setTime 54 = .ok (.getfield 12, 3) := by decide +kernel
theorem dX6_setTime_57 : decode cX6_setTime 57 = .ok (.iload_n 1, 1) := by decide +kernel
theorem dX6_setTime_58 : decode cX6_setTime 58 = .ok (.iload_n 2, 1) := by decide +kernel
theorem dX6_setTime_59 : decode cX6_setTime 59 = .ok (.invokevirtual 87, 3) := by decide +kernel
theorem dX6_setTime_62 : decode cX6_setTime 62 = .ok (.istore 4, 2) := by decide +kernel
theorem dX6_setTime_64 : decode cX6_setTime 64 = .ok (.aload_n 0, 1) := by decide +kernel
theorem dX6_setTime_65 : decode cX6_setTime 65 = .ok (.getfield 12, 3) := by decide +kernel
theorem dX6_setTime_68 : decode cX6_setTime 68 = .ok (.getfield 66, 3) := by decide +kernel
theorem dX6_setTime_71 : decode cX6_setTime 71 = .ok (.iload_n 1, 1) := by decide +kernel
theorem dX6_setTime_72 : decode cX6_setTime 72 = .ok (.iconst 3, 1) := by decide +kernel
theorem dX6_setTime_73 : decode cX6_setTime 73 = .ok (.imul, 1) := by decide +kernel
theorem dX6_setTime_74 : decode cX6_setTime 74 = .ok (.iload_n 2, 1) := by decide +kernel
theorem dX6_setTime_75 : decode cX6_setTime 75 = .ok (.iadd, 1) := by decide +kernel
theorem dX6_setTime_76 : decode cX6_setTime 76 = .ok (.iload_n 3, 1) := by decide +kernel
theorem dX6_setTime_77 : decode cX6_setTime 77 = .ok (.iastore, 1) := by decide +kernel
theorem dX6_setTime_78 : decode cX6_setTime 78 = .ok (.aload_n 0, 1) := by decide +kernel
theorem dX6_setTime_79 : decode cX6_setTime 79 = .ok (.invokevirtual 73, 3) := by decide +kernel
theorem dX6_setTime_82 : decode cX6_setTime 82 = .ok (.iload 4, 2) := by decide +kernel
theorem dX6_setTime_84 : decode cX6_setTime 84 = .ok (.ireturn, 1) := by decide +kernel
set_option maxRecDepth 20000 in
theorem ggX6_removeLast_X6_forgetResults : GoodIn wsX6_removeLast wsX6_forgetResults := goodIn_r _ [6, 7, 8, 9, 10, 11, 12, 13, 14, 15] (by decide +kernel) (by decide +kernel)
set_option maxRecDepth 20000 in
theorem gX6_removeLast_X6_forgetResults : GoodIn wsX6_removeLast (wsV RX6 73 RX6 yX6_forgetResults wsX6_forgetResults) := goodIn_app (goodIn_of _ (by decide +kernel)) ggX6_removeLast_X6_forgetResults
theorem dX6_removeLast_0 : decode cX6_removeLast 0 = .ok (.aload_n 0, 1) := by decide +kernel
theorem dX6_removeLast_1 : decode cX6_removeLast 1 = .ok (.getfield 12, 3) := by decide +kernel
theorem dX6_removeLast_4 : decode cX6_removeLast 4 = .ok (.getfield 57, 3) := by decide +kernel
theorem dX6_removeLast_7 : decode cX6_removeLast 7 = .ok (.ifCond .gt 5, 3) := by decide +kernel
theorem dX6_removeLast_10 : decode cX6_removeLast 10 = .ok (.iconst (-1), 1) := by decide +kernel
theorem dX6_removeLast_11 : decode cX6_removeLast 11 = .ok (.ireturn, 1) := by decide +kernel
theorem dX6_removeLast_12 : decode cX6_removeLast 12 = .ok (.aload_n 0, 1) := by decide +kernel
theorem dX6_removeLast_13 : decode cX6_removeLast 13 = .ok (.getfield 12, 3) := by decide +kernel
theorem dX6_removeLast_16 : decode cX6_removeLast 16 = .ok (.dup, 1) := by decide +kernel
theorem dX6_removeLast_17 : decode cX6_removeLast 17 = .ok (.getfield 57, 3) := by decide +kernel
theorem dX6_removeLast_20 : decode cX6_removeLast 20 = .ok (.iconst 1, 1) := by decide +kernel
theorem dX6_removeLast_21 : decode cX6_removeLast 21 = .ok (.isub, 1) := by decide +kernel
theorem dX6_removeLast_22 : decode cX6_removeLast 22 = .ok (.putfield 57, 3) := by decide +kernel
theorem dX6_removeLast_25 : decode cX6_removeLast 25 = .ok (.aload_n 0, 1) := by decide +kernel
theorem dX6_removeLast_26 : decode cX6_removeLast 26 = .ok (.invokevirtual 73, 3) := by decide +kernel
theorem dX6_removeLast_29 : decode cX6_removeLast 29 = .ok (.aload_n 0, 1) := by decide +kernel
theorem dX6_removeLast_30 : decode cX6_removeLast 30 = .ok (.getfield 12, 3) := by decide +kernel
theorem dX6_removeLast_33 : decode cX6_removeLast 33 = .ok (.getfield 57, 3) := by decide +kernel
theorem dX6_removeLast_36 : decode cX6_removeLast 36 = .ok (.ireturn, 1) := by decide +kernel
theorem dX6_jobs_0 : decode cX6_jobs 0 = .ok (.aload_n 0, 1) := by decide +kernel
theorem dX6_jobs_1 : decode cX6_jobs 1 = .ok (.getfield 12, 3) := by decide +kernel
theorem dX6_jobs_4 : decode cX6_jobs 4 = .ok (.getfield 57, 3) := by decide +kernel
theorem dX6_jobs_7 : decode cX6_jobs 7 = .ok (.ireturn, 1) := by decide +kernel
set_option maxRecDepth 20000 in
theorem ggX6_time_X6_requireJob : GoodIn wsX6_time wsX6_requireJob := goodIn_ca (goodIn_r _ [6, 7, 8, 1, 19, 20, 21, 22, 23, 24, 25, 26, 27] (by decide +kernel) (by decide +kernel)) (goodIn_sub (fun _ h => List.mem_cons_of_mem _ (List.mem_append_right _ h)) (by decide +kernel))
set_option maxRecDepth 20000 in
theorem gX6_time_X6_requireJob : GoodIn wsX6_time (wsV RX6 76 RX6 yX6_requireJob wsX6_requireJob) := goodIn_app (goodIn_of _ (by decide +kernel)) ggX6_time_X6_requireJob
set_option maxRecDepth 20000 in
theorem ggX6_time_X6_requireMachine : GoodIn wsX6_time wsX6_requireMachine := goodIn_ca (goodIn_r _ [11, 7, 8] (by decide +kernel) (by decide +kernel)) (goodIn_sub (fun _ h => List.mem_cons_of_mem _ (List.mem_append_right _ h)) (by decide +kernel))
set_option maxRecDepth 20000 in
theorem gX6_time_X6_requireMachine : GoodIn wsX6_time (va_wsS RX6 80 yX6_requireMachine wsX6_requireMachine) := goodIn_app (goodIn_of _ (by decide +kernel)) ggX6_time_X6_requireMachine
set_option maxRecDepth 20000 in
theorem ggX6_time_X1_timeOn : GoodIn wsX6_time wsX1_timeOn := goodIn_r _ [16, 17, 18, 26, 27] (by decide +kernel) (by decide +kernel)
set_option maxRecDepth 20000 in
theorem gX6_time_X1_timeOn : GoodIn wsX6_time (wsV RX6 87 RX1 yX1_timeOn wsX1_timeOn) := goodIn_app (goodIn_of _ (by decide +kernel)) ggX6_time_X1_timeOn
theorem dX6_time_0 : decode cX6_time 0 = .ok (.aload_n 0, 1) := by decide +kernel
theorem dX6_time_1 : decode cX6_time 1 = .ok (.iload_n 1, 1) := by decide +kernel
theorem dX6_time_2 : decode cX6_time 2 = .ok (.invokevirtual 76, 3) := by decide +kernel
theorem dX6_time_5 : decode cX6_time 5 = .ok (.iload_n 2, 1) := by decide +kernel
theorem dX6_time_6 : decode cX6_time 6 = .ok (.invokestatic 80, 3) := by decide +kernel
theorem dX6_time_9 : decode cX6_time 9 = .ok (.aload_n 0, 1) := by decide +kernel
theorem dX6_time_10 : decode cX6_time 10 = .ok (.getfield 12, 3) := by decide +kernel
theorem dX6_time_13 : decode cX6_time 13 = .ok (.iload_n 1, 1) := by decide +kernel
theorem dX6_time_14 : decode cX6_time 14 = .ok (.iload_n 2, 1) := by decide +kernel
theorem dX6_time_15 : decode cX6_time 15 = .ok (.invokevirtual 87, 3) := by decide +kernel
theorem dX6_time_18 : decode cX6_time 18 = .ok (.ireturn, 1) := by decide +kernel
set_option maxRecDepth 20000 in
theorem ggX6_shortest_X6_refreshSearch : GoodIn wsX6_shortest wsX6_refreshSearch := goodIn_r _ [6, 7, 1, 8, 9, 10, 11, 12, 13, 14, 15, 16, 17, 18, 19, 20, 21, 22, 23, 24, 25, 26, 27, 28, 29, 30, 31, 32, 33, 34, 35, 36, 37, 38, 39, 40, 41, 42, 43, 44, 45, 46, 47, 48, 49, 50, 51, 52, 53, 54, 55, 56] (by decide +kernel) (by decide +kernel)
set_option maxRecDepth 20000 in
theorem gX6_shortest_X6_refreshSearch : GoodIn wsX6_shortest (wsV RX6 91 RX6 yX6_refreshSearch wsX6_refreshSearch) := goodIn_app (goodIn_of _ (by decide +kernel)) ggX6_shortest_X6_refreshSearch
theorem dX6_shortest_0 : decode cX6_shortest 0 = .ok (.aload_n 0, 1) := by decide +kernel
theorem dX6_shortest_1 : decode cX6_shortest 1 = .ok (.invokevirtual 91, 3) := by decide +kernel
theorem dX6_shortest_4 : decode cX6_shortest 4 = .ok (.aload_n 0, 1) := by decide +kernel
theorem dX6_shortest_5 : decode cX6_shortest 5 = .ok (.getfield 26, 3) := by decide +kernel
theorem dX6_shortest_8 : decode cX6_shortest 8 = .ok (.getfield 94, 3) := by decide +kernel
theorem dX6_shortest_11 : decode cX6_shortest 11 = .ok (.ireturn, 1) := by decide +kernel
set_option maxRecDepth 20000 in
theorem ggX6_shortestByTrying_X3_tryAll : GoodIn wsX6_shortestByTrying wsX3_tryAll := goodIn_r _ [7, 8, 9, 10, 6, 11, 12, 13, 14, 15, 16, 17, 18, 19, 20, 21, 22, 23, 24, 25, 26, 27, 28, 29, 30, 31, 32, 33, 41, 42, 43, 44, 45, 46] (by decide +kernel) (by decide +kernel)
set_option maxRecDepth 20000 in
theorem gX6_shortestByTrying_X3_tryAll : GoodIn wsX6_shortestByTrying (wsV RX6 97 RX3 yX3_tryAll wsX3_tryAll) := goodIn_app (goodIn_of _ (by decide +kernel)) ggX6_shortestByTrying_X3_tryAll
theorem dX6_shortestByTrying_0 : decode cX6_shortestByTrying 0 = .ok (.aload_n 0, 1) := by decide +kernel
theorem dX6_shortestByTrying_1 : decode cX6_shortestByTrying 1 = .ok (.getfield 26, 3) := by decide +kernel
theorem dX6_shortestByTrying_4 : decode cX6_shortestByTrying 4 = .ok (.aload_n 0, 1) := by decide +kernel
theorem dX6_shortestByTrying_5 : decode cX6_shortestByTrying 5 = .ok (.getfield 12, 3) := by decide +kernel
theorem dX6_shortestByTrying_8 : decode cX6_shortestByTrying 8 = .ok (.invokevirtual 97, 3) := by decide +kernel
theorem dX6_shortestByTrying_11 : decode cX6_shortestByTrying 11 = .ok (.ireturn, 1) := by decide +kernel
set_option maxRecDepth 20000 in
theorem ggX6_shortestMachine_X6_requireJob : GoodIn wsX6_shortestMachine wsX6_requireJob := goodIn_ca (goodIn_r _ [6, 7, 8, 9, 50, 51, 52, 53, 54, 55, 56, 61, 62] (by decide +kernel) (by decide +kernel)) (goodIn_sub (fun _ h => List.mem_cons_of_mem _ (List.mem_append_right _ h)) (by decide +kernel))
set_option maxRecDepth 20000 in
theorem gX6_shortestMachine_X6_requireJob : GoodIn wsX6_shortestMachine (wsV RX6 76 RX6 yX6_requireJob wsX6_requireJob) := goodIn_app (goodIn_of _ (by decide +kernel)) ggX6_shortestMachine_X6_requireJob
set_option maxRecDepth 20000 in
theorem ggX6_shortestMachine_X6_refreshSearch : GoodIn wsX6_shortestMachine wsX6_refreshSearch := goodIn_r _ [13, 14, 1, 9, 15, 16, 17, 18, 19, 20, 21, 22, 23, 24, 25, 26, 27, 28, 29, 30, 31, 32, 33, 34, 35, 36, 37, 38, 39, 40, 41, 42, 43, 44, 45, 46, 47, 48, 49, 50, 51, 52, 53, 54, 55, 56, 57, 58, 59, 60, 61, 62] (by decide +kernel) (by decide +kernel)
set_option maxRecDepth 20000 in
theorem gX6_shortestMachine_X6_refreshSearch : GoodIn wsX6_shortestMachine (wsV RX6 91 RX6 yX6_refreshSearch wsX6_refreshSearch) := goodIn_app (goodIn_of _ (by decide +kernel)) ggX6_shortestMachine_X6_refreshSearch
theorem dX6_shortestMachine_0 : decode cX6_shortestMachine 0 = .ok (.aload_n 0, 1) := by decide +kernel
theorem dX6_shortestMachine_1 : decode cX6_shortestMachine 1 = .ok (.iload_n 1, 1) := by decide +kernel
theorem dX6_shortestMachine_2 : decode cX6_shortestMachine 2 = .ok (.invokevirtual 76, 3) := by decide +kernel
theorem dX6_shortestMachine_5 : decode cX6_shortestMachine 5 = .ok (.aload_n 0, 1) := by decide +kernel
theorem dX6_shortestMachine_6 : decode cX6_shortestMachine 6 = .ok (.invokevirtual 91, 3) := by decide +kernel
theorem dX6_shortestMachine_9 : decode cX6_shortestMachine 9 = .ok (.aload_n 0, 1) := by decide +kernel
theorem dX6_shortestMachine_10 : decode cX6_shortestMachine 10 = .ok (.getfield 26, 3) := by decide +kernel
theorem dX6_shortestMachine_13 : decode cX6_shortestMachine 13 = .ok (.getfield 101, 3) := by decide +kernel
theorem dX6_shortestMachine_16 : decode cX6_shortestMachine 16 = .ok (.iload_n 1, 1) := by decide +kernel
theorem dX6_shortestMachine_17 : decode cX6_shortestMachine 17 = .ok (.iaload, 1) := by decide +kernel
theorem dX6_shortestMachine_18 : decode cX6_shortestMachine 18 = .ok (.ireturn, 1) := by decide +kernel
set_option maxRecDepth 20000 in
theorem ggX6_bound_X6_refreshDivision : GoodIn wsX6_bound wsX6_refreshDivision := goodIn_r _ [6, 7, 1, 8, 9, 10, 11, 12, 13, 14, 15, 16, 17, 18, 19, 20, 21, 22, 23, 24, 25, 26, 27, 28, 29, 30, 31, 32, 33, 34, 35, 36, 37, 38, 39, 40, 41, 42, 43, 44, 45, 46, 47, 48, 49, 50, 51, 52, 53, 54, 55, 56, 57, 58, 59, 60, 61, 62, 63, 64, 65, 66, 67, 68, 69, 70, 71, 72, 73, 74, 75, 76, 77, 78, 79, 80, 81, 82, 83, 84, 85, 86, 87, 88, 89, 90, 91, 92, 93, 94, 95, 96, 97, 98, 99, 100, 101, 102, 103, 104, 105, 106, 107, 108, 109, 110, 111, 112, 113, 114, 115, 116, 117, 118, 119, 120, 121, 122, 123, 124, 125, 126, 127, 128, 129, 130, 131, 132, 133, 134, 135, 136, 137, 138, 139, 140, 141, 142, 143, 144, 145, 146] (by decide +kernel) (by decide +kernel)
set_option maxRecDepth 20000 in
theorem gX6_bound_X6_refreshDivision : GoodIn wsX6_bound (wsV RX6 104 RX6 yX6_refreshDivision wsX6_refreshDivision) := goodIn_app (goodIn_of _ (by decide +kernel)) ggX6_bound_X6_refreshDivision
theorem dX6_bound_0 : decode cX6_bound 0 = .ok (.aload_n 0, 1) := by decide +kernel
theorem dX6_bound_1 : decode cX6_bound 1 = .ok (.invokevirtual 104, 3) := by decide +kernel
theorem dX6_bound_4 : decode cX6_bound 4 = .ok (.aload_n 0, 1) := by decide +kernel
theorem dX6_bound_5 : decode cX6_bound 5 = .ok (.getfield 33, 3) := by decide +kernel
theorem dX6_bound_8 : decode cX6_bound 8 = .ok (.getfield 107, 3) := by decide +kernel
theorem dX6_bound_11 : decode cX6_bound 11 = .ok (.ireturn, 1) := by decide +kernel
set_option maxRecDepth 20000 in
theorem ggX6_numerator_X6_requireJob : GoodIn wsX6_numerator wsX6_requireJob := goodIn_ca (goodIn_r _ [6, 7, 8, 9, 135, 136, 137, 138, 139, 140, 141, 148, 149] (by decide +kernel) (by decide +kernel)) (goodIn_sub (fun _ h => List.mem_cons_of_mem _ (List.mem_append_right _ h)) (by decide +kernel))
set_option maxRecDepth 20000 in
theorem gX6_numerator_X6_requireJob : GoodIn wsX6_numerator (wsV RX6 76 RX6 yX6_requireJob wsX6_requireJob) := goodIn_app (goodIn_of _ (by decide +kernel)) ggX6_numerator_X6_requireJob
set_option maxRecDepth 20000 in
theorem ggX6_numerator_X6_requireMachine : GoodIn wsX6_numerator wsX6_requireMachine := goodIn_ca (goodIn_r _ [12, 7, 8] (by decide +kernel) (by decide +kernel)) (goodIn_sub (fun _ h => List.mem_cons_of_mem _ (List.mem_append_right _ h)) (by decide +kernel))
set_option maxRecDepth 20000 in
theorem gX6_numerator_X6_requireMachine : GoodIn wsX6_numerator (va_wsS RX6 80 yX6_requireMachine wsX6_requireMachine) := goodIn_app (goodIn_of _ (by decide +kernel)) ggX6_numerator_X6_requireMachine
set_option maxRecDepth 20000 in
theorem ggX6_numerator_X6_refreshDivision : GoodIn wsX6_numerator wsX6_refreshDivision := goodIn_r _ [16, 17, 1, 9, 18, 19, 20, 21, 22, 23, 24, 25, 26, 27, 28, 29, 30, 31, 32, 33, 34, 35, 36, 37, 38, 39, 40, 41, 42, 43, 44, 45, 46, 47, 48, 49, 50, 51, 52, 53, 54, 55, 56, 57, 58, 59, 60, 61, 62, 63, 64, 65, 66, 67, 68, 69, 70, 71, 72, 73, 74, 75, 76, 77, 78, 79, 80, 81, 82, 83, 84, 85, 86, 87, 88, 89, 90, 91, 92, 93, 94, 95, 96, 97, 98, 99, 100, 101, 102, 103, 104, 105, 106, 107, 108, 109, 110, 111, 112, 113, 114, 115, 116, 117, 118, 119, 120, 121, 122, 123, 124, 125, 126, 127, 128, 129, 130, 131, 132, 133, 134, 135, 136, 137, 138, 139, 140, 141, 142, 143, 144, 145, 146, 147, 150, 151, 152, 153, 154, 148, 149, 155] (by decide +kernel) (by decide +kernel)
set_option maxRecDepth 20000 in
theorem gX6_numerator_X6_refreshDivision : GoodIn wsX6_numerator (wsV RX6 104 RX6 yX6_refreshDivision wsX6_refreshDivision) := goodIn_app (goodIn_of _ (by decide +kernel)) ggX6_numerator_X6_refreshDivision
theorem dX6_numerator_0 : decode cX6_numerator 0 = .ok (.aload_n 0, 1) := by decide +kernel
theorem dX6_numerator_1 : decode cX6_numerator 1 = .ok (.iload_n 1, 1) := by decide +kernel
theorem dX6_numerator_2 : decode cX6_numerator 2 = .ok (.invokevirtual 76, 3) := by decide +kernel
theorem dX6_numerator_5 : decode cX6_numerator 5 = .ok (.iload_n 2, 1) := by decide +kernel
theorem dX6_numerator_6 : decode cX6_numerator 6 = .ok (.invokestatic 80, 3) := by decide +kernel
theorem dX6_numerator_9 : decode cX6_numerator 9 = .ok (.aload_n 0, 1) := by decide +kernel
theorem dX6_numerator_10 : decode cX6_numerator 10 = .ok (.invokevirtual 104, 3) := by decide +kernel
theorem dX6_numerator_13 : decode cX6_numerator 13 = .ok (.aload_n 0, 1) := by decide +kernel
theorem dX6_numerator_14 : decode cX6_numerator 14 = .ok (.getfield 33, 3) := by decide +kernel
theorem dX6_numerator_17 : decode cX6_numerator 17 = .ok (.getfield 110, 3) := by decide +kernel
theorem dX6_numerator_20 : decode cX6_numerator 20 = .ok (.iload_n 1, 1) := by decide +kernel
theorem dX6_numerator_21 : decode cX6_numerator 21 = .ok (.iconst 3, 1) := by decide +kernel
theorem dX6_numerator_22 : decode cX6_numerator 22 = .ok (.imul, 1) := by decide +kernel
theorem dX6_numerator_23 : decode cX6_numerator 23 = .ok (.iload_n 2, 1) := by decide +kernel
theorem dX6_numerator_24 : decode cX6_numerator 24 = .ok (.iadd, 1) := by decide +kernel
theorem dX6_numerator_25 : decode cX6_numerator 25 = .ok (.iaload, 1) := by decide +kernel
theorem dX6_numerator_26 : decode cX6_numerator 26 = .ok (.ireturn, 1) := by decide +kernel
set_option maxRecDepth 20000 in
theorem ggX6_denominator_X6_requireJob : GoodIn wsX6_denominator wsX6_requireJob := goodIn_ca (goodIn_r _ [6, 7, 8, 9, 135, 136, 137, 138, 139, 140, 141, 148, 149] (by decide +kernel) (by decide +kernel)) (goodIn_sub (fun _ h => List.mem_cons_of_mem _ (List.mem_append_right _ h)) (by decide +kernel))
set_option maxRecDepth 20000 in
theorem gX6_denominator_X6_requireJob : GoodIn wsX6_denominator (wsV RX6 76 RX6 yX6_requireJob wsX6_requireJob) := goodIn_app (goodIn_of _ (by decide +kernel)) ggX6_denominator_X6_requireJob
set_option maxRecDepth 20000 in
theorem ggX6_denominator_X6_requireMachine : GoodIn wsX6_denominator wsX6_requireMachine := goodIn_ca (goodIn_r _ [12, 7, 8] (by decide +kernel) (by decide +kernel)) (goodIn_sub (fun _ h => List.mem_cons_of_mem _ (List.mem_append_right _ h)) (by decide +kernel))
set_option maxRecDepth 20000 in
theorem gX6_denominator_X6_requireMachine : GoodIn wsX6_denominator (va_wsS RX6 80 yX6_requireMachine wsX6_requireMachine) := goodIn_app (goodIn_of _ (by decide +kernel)) ggX6_denominator_X6_requireMachine
set_option maxRecDepth 20000 in
theorem ggX6_denominator_X6_refreshDivision : GoodIn wsX6_denominator wsX6_refreshDivision := goodIn_r _ [16, 17, 1, 9, 18, 19, 20, 21, 22, 23, 24, 25, 26, 27, 28, 29, 30, 31, 32, 33, 34, 35, 36, 37, 38, 39, 40, 41, 42, 43, 44, 45, 46, 47, 48, 49, 50, 51, 52, 53, 54, 55, 56, 57, 58, 59, 60, 61, 62, 63, 64, 65, 66, 67, 68, 69, 70, 71, 72, 73, 74, 75, 76, 77, 78, 79, 80, 81, 82, 83, 84, 85, 86, 87, 88, 89, 90, 91, 92, 93, 94, 95, 96, 97, 98, 99, 100, 101, 102, 103, 104, 105, 106, 107, 108, 109, 110, 111, 112, 113, 114, 115, 116, 117, 118, 119, 120, 121, 122, 123, 124, 125, 126, 127, 128, 129, 130, 131, 132, 133, 134, 135, 136, 137, 138, 139, 140, 141, 142, 143, 144, 145, 146, 147, 150, 151, 152, 153, 154, 148, 149, 155] (by decide +kernel) (by decide +kernel)
set_option maxRecDepth 20000 in
theorem gX6_denominator_X6_refreshDivision : GoodIn wsX6_denominator (wsV RX6 104 RX6 yX6_refreshDivision wsX6_refreshDivision) := goodIn_app (goodIn_of _ (by decide +kernel)) ggX6_denominator_X6_refreshDivision
theorem dX6_denominator_0 : decode cX6_denominator 0 = .ok (.aload_n 0, 1) := by decide +kernel
theorem dX6_denominator_1 : decode cX6_denominator 1 = .ok (.iload_n 1, 1) := by decide +kernel
theorem dX6_denominator_2 : decode cX6_denominator 2 = .ok (.invokevirtual 76, 3) := by decide +kernel
theorem dX6_denominator_5 : decode cX6_denominator 5 = .ok (.iload_n 2, 1) := by decide +kernel
theorem dX6_denominator_6 : decode cX6_denominator 6 = .ok (.invokestatic 80, 3) := by decide +kernel
theorem dX6_denominator_9 : decode cX6_denominator 9 = .ok (.aload_n 0, 1) := by decide +kernel
theorem dX6_denominator_10 : decode cX6_denominator 10 = .ok (.invokevirtual 104, 3) := by decide +kernel
theorem dX6_denominator_13 : decode cX6_denominator 13 = .ok (.aload_n 0, 1) := by decide +kernel
theorem dX6_denominator_14 : decode cX6_denominator 14 = .ok (.getfield 33, 3) := by decide +kernel
theorem dX6_denominator_17 : decode cX6_denominator 17 = .ok (.getfield 113, 3) := by decide +kernel
theorem dX6_denominator_20 : decode cX6_denominator 20 = .ok (.iload_n 1, 1) := by decide +kernel
theorem dX6_denominator_21 : decode cX6_denominator 21 = .ok (.iconst 3, 1) := by decide +kernel
theorem dX6_denominator_22 : decode cX6_denominator 22 = .ok (.imul, 1) := by decide +kernel
theorem dX6_denominator_23 : decode cX6_denominator 23 = .ok (.iload_n 2, 1) := by decide +kernel
theorem dX6_denominator_24 : decode cX6_denominator 24 = .ok (.iadd, 1) := by decide +kernel
theorem dX6_denominator_25 : decode cX6_denominator 25 = .ok (.iaload, 1) := by decide +kernel
theorem dX6_denominator_26 : decode cX6_denominator 26 = .ok (.ireturn, 1) := by decide +kernel
set_option maxRecDepth 20000 in
theorem ggX6_isDivided_X6_requireJob : GoodIn wsX6_isDivided wsX6_requireJob := goodIn_ca (goodIn_r _ [6, 7, 8, 9, 133, 134, 135, 136, 137, 138, 139, 140, 141] (by decide +kernel) (by decide +kernel)) (goodIn_sub (fun _ h => List.mem_cons_of_mem _ (List.mem_append_right _ h)) (by decide +kernel))
set_option maxRecDepth 20000 in
theorem gX6_isDivided_X6_requireJob : GoodIn wsX6_isDivided (wsV RX6 76 RX6 yX6_requireJob wsX6_requireJob) := goodIn_app (goodIn_of _ (by decide +kernel)) ggX6_isDivided_X6_requireJob
set_option maxRecDepth 20000 in
theorem ggX6_isDivided_X6_refreshDivision : GoodIn wsX6_isDivided wsX6_refreshDivision := goodIn_r _ [13, 14, 1, 9, 15, 16, 17, 18, 19, 20, 21, 22, 23, 24, 25, 26, 27, 28, 29, 30, 31, 32, 33, 34, 35, 36, 37, 38, 39, 40, 41, 42, 43, 44, 45, 46, 47, 48, 49, 50, 51, 52, 53, 54, 55, 56, 57, 58, 59, 60, 61, 62, 63, 64, 65, 66, 67, 68, 69, 70, 71, 72, 73, 74, 75, 76, 77, 78, 79, 80, 81, 82, 83, 84, 85, 86, 87, 88, 89, 90, 91, 92, 93, 94, 95, 96, 97, 98, 99, 100, 101, 102, 103, 104, 105, 106, 107, 108, 109, 110, 111, 112, 113, 114, 115, 116, 117, 118, 119, 120, 121, 122, 123, 124, 125, 126, 127, 128, 129, 130, 131, 133, 134, 135, 136, 137, 138, 139, 142, 143, 144, 145, 146, 147, 148, 149, 150, 151, 152, 140, 141, 153] (by decide +kernel) (by decide +kernel)
set_option maxRecDepth 20000 in
theorem gX6_isDivided_X6_refreshDivision : GoodIn wsX6_isDivided (wsV RX6 104 RX6 yX6_refreshDivision wsX6_refreshDivision) := goodIn_app (goodIn_of _ (by decide +kernel)) ggX6_isDivided_X6_refreshDivision
set_option maxRecDepth 20000 in
theorem ggX6_isDivided_X0_wholeMachine : GoodIn wsX6_isDivided wsX0_wholeMachine := goodIn_r _ [126, 105, 127, 128, 129, 19, 130, 104, 142, 143, 144, 145, 146, 147] (by decide +kernel) (by decide +kernel)
set_option maxRecDepth 20000 in
theorem gX6_isDivided_X0_wholeMachine : GoodIn wsX6_isDivided (wsV RX6 116 RX0 yX0_wholeMachine wsX0_wholeMachine) := goodIn_app (goodIn_of _ (by decide +kernel)) ggX6_isDivided_X0_wholeMachine
theorem dX6_isDivided_0 : decode cX6_isDivided 0 = .ok (.aload_n 0, 1) := by decide +kernel
theorem dX6_isDivided_1 : decode cX6_isDivided 1 = .ok (.iload_n 1, 1) := by decide +kernel
theorem dX6_isDivided_2 : decode cX6_isDivided 2 = .ok (.invokevirtual 76, 3) := by decide +kernel
theorem dX6_isDivided_5 : decode cX6_isDivided 5 = .ok (.aload_n 0, 1) := by decide +kernel
theorem dX6_isDivided_6 : decode cX6_isDivided 6 = .ok (.invokevirtual 104, 3) := by decide +kernel
theorem dX6_isDivided_9 : decode cX6_isDivided 9 = .ok (.aload_n 0, 1) := by decide +kernel
theorem dX6_isDivided_10 : decode cX6_isDivided 10 = .ok (.getfield 33, 3) := by decide +kernel
theorem dX6_isDivided_13 : decode cX6_isDivided 13 = .ok (.iload_n 1, 1) := by decide +kernel
theorem dX6_isDivided_14 : decode cX6_isDivided 14 = .ok (.invokevirtual 116, 3) := by decide +kernel
theorem dX6_isDivided_17 : decode cX6_isDivided 17 = .ok (.iconst (-1), 1) := by decide +kernel
theorem dX6_isDivided_18 : decode cX6_isDivided 18 = .ok (.if_icmp .ne 7, 3) := by decide +kernel
theorem dX6_isDivided_21 : decode cX6_isDivided 21 = .ok (.iconst 1, 1) := by decide +kernel
theorem dX6_isDivided_22 : decode cX6_isDivided 22 = .ok (.goto 4, 3) := by decide +kernel
theorem dX6_isDivided_25 : decode cX6_isDivided 25 = .ok (.iconst 0, 1) := by decide +kernel
theorem dX6_isDivided_26 : decode cX6_isDivided 26 = .ok (.ireturn, 1) := by decide +kernel
set_option maxRecDepth 20000 in
theorem ggX6_leastNumerator_X6_refreshDivision : GoodIn wsX6_leastNumerator wsX6_refreshDivision := goodIn_r _ [6, 7, 1, 8, 9, 10, 11, 12, 13, 14, 15, 16, 17, 18, 19, 20, 21, 22, 23, 24, 25, 26, 27, 28, 29, 30, 31, 32, 33, 34, 35, 36, 37, 38, 39, 40, 41, 42, 43, 44, 45, 46, 47, 48, 49, 50, 51, 52, 53, 54, 55, 56, 57, 58, 59, 60, 61, 62, 63, 64, 65, 66, 67, 68, 69, 70, 71, 72, 73, 74, 75, 76, 77, 78, 79, 80, 81, 82, 83, 84, 85, 86, 87, 88, 89, 90, 91, 92, 93, 94, 95, 96, 97, 98, 99, 100, 101, 102, 103, 104, 105, 106, 107, 108, 109, 110, 111, 112, 113, 114, 115, 116, 117, 118, 119, 120, 121, 122, 123, 124, 125, 126, 127, 128, 129, 130, 131, 132, 133, 134, 135, 136, 137, 138, 139, 140, 141, 142, 143, 144, 145, 146] (by decide +kernel) (by decide +kernel)
set_option maxRecDepth 20000 in
theorem gX6_leastNumerator_X6_refreshDivision : GoodIn wsX6_leastNumerator (wsV RX6 104 RX6 yX6_refreshDivision wsX6_refreshDivision) := goodIn_app (goodIn_of _ (by decide +kernel)) ggX6_leastNumerator_X6_refreshDivision
end
section
theorem dX6_leastNumerator_0 : decode cX6_leastNumerator 0 = .ok (.aload_n 0, 1) := by decide +kernel
theorem dX6_leastNumerator_1 : decode cX6_leastNumerator 1 = .ok (.invokevirtual 104, 3) := by decide +kernel
theorem dX6_leastNumerator_4 : decode cX6_leastNumerator 4 = .ok (.aload_n 0, 1) := by decide +kernel
theorem dX6_leastNumerator_5 : decode cX6_leastNumerator 5 = .ok (.getfield 33, 3) := by decide +kernel
theorem dX6_leastNumerator_8 : decode cX6_leastNumerator 8 = .ok (.getfield 120, 3) := by decide +kernel
theorem dX6_leastNumerator_11 : decode cX6_leastNumerator 11 = .ok (.ireturn, 1) := by decide +kernel
set_option maxRecDepth 20000 in
theorem ggX6_leastDenominator_X6_refreshDivision : GoodIn wsX6_leastDenominator wsX6_refreshDivision := goodIn_r _ [6, 7, 1, 8, 9, 10, 11, 12, 13, 14, 15, 16, 17, 18, 19, 20, 21, 22, 23, 24, 25, 26, 27, 28, 29, 30, 31, 32, 33, 34, 35, 36, 37, 38, 39, 40, 41, 42, 43, 44, 45, 46, 47, 48, 49, 50, 51, 52, 53, 54, 55, 56, 57, 58, 59, 60, 61, 62, 63, 64, 65, 66, 67, 68, 69, 70, 71, 72, 73, 74, 75, 76, 77, 78, 79, 80, 81, 82, 83, 84, 85, 86, 87, 88, 89, 90, 91, 92, 93, 94, 95, 96, 97, 98, 99, 100, 101, 102, 103, 104, 105, 106, 107, 108, 109, 110, 111, 112, 113, 114, 115, 116, 117, 118, 119, 120, 121, 122, 123, 124, 125, 126, 127, 128, 129, 130, 131, 132, 133, 134, 135, 136, 137, 138, 139, 140, 141, 142, 143, 144, 145, 146] (by decide +kernel) (by decide +kernel)
set_option maxRecDepth 20000 in
theorem gX6_leastDenominator_X6_refreshDivision : GoodIn wsX6_leastDenominator (wsV RX6 104 RX6 yX6_refreshDivision wsX6_refreshDivision) := goodIn_app (goodIn_of _ (by decide +kernel)) ggX6_leastDenominator_X6_refreshDivision
theorem dX6_leastDenominator_0 : decode cX6_leastDenominator 0 = .ok (.aload_n 0, 1) := by decide +kernel
theorem dX6_leastDenominator_1 : decode cX6_leastDenominator 1 = .ok (.invokevirtual 104, 3) := by decide +kernel
theorem dX6_leastDenominator_4 : decode cX6_leastDenominator 4 = .ok (.aload_n 0, 1) := by decide +kernel
theorem dX6_leastDenominator_5 : decode cX6_leastDenominator 5 = .ok (.getfield 33, 3) := by decide +kernel
theorem dX6_leastDenominator_8 : decode cX6_leastDenominator 8 = .ok (.getfield 123, 3) := by decide +kernel
theorem dX6_leastDenominator_11 : decode cX6_leastDenominator 11 = .ok (.ireturn, 1) := by decide +kernel
set_option maxRecDepth 20000 in
theorem ggX6_roundedMachine_X6_requireJob : GoodIn wsX6_roundedMachine wsX6_requireJob := goodIn_ca (goodIn_r _ [6, 7, 8, 9, 132, 133, 134, 135, 136, 137, 138, 140, 141] (by decide +kernel) (by decide +kernel)) (goodIn_sub (fun _ h => List.mem_cons_of_mem _ (List.mem_append_right _ h)) (by decide +kernel))
set_option maxRecDepth 20000 in
theorem gX6_roundedMachine_X6_requireJob : GoodIn wsX6_roundedMachine (wsV RX6 76 RX6 yX6_requireJob wsX6_requireJob) := goodIn_app (goodIn_of _ (by decide +kernel)) ggX6_roundedMachine_X6_requireJob
set_option maxRecDepth 20000 in
theorem ggX6_roundedMachine_X6_refreshDivision : GoodIn wsX6_roundedMachine wsX6_refreshDivision := goodIn_r _ [13, 14, 15, 9, 1, 16, 17, 18, 19, 20, 21, 22, 23, 24, 25, 26, 27, 28, 29, 30, 31, 32, 33, 34, 35, 36, 37, 38, 39, 40, 41, 42, 43, 44, 45, 46, 47, 48, 49, 50, 51, 52, 53, 54, 55, 56, 57, 58, 59, 60, 61, 62, 63, 64, 65, 66, 67, 68, 69, 70, 71, 72, 73, 74, 75, 76, 77, 78, 79, 80, 81, 82, 83, 84, 85, 86, 87, 88, 89, 90, 91, 92, 93, 94, 95, 96, 97, 98, 99, 100, 101, 102, 103, 104, 105, 106, 107, 108, 109, 110, 111, 112, 113, 114, 115, 116, 117, 118, 119, 120, 121, 122, 123, 124, 125, 126, 127, 128, 129, 130, 131, 132, 133, 134, 135, 136, 137, 138, 142, 143, 144, 145, 146, 147, 148, 149, 150, 151, 152, 140, 141, 139] (by decide +kernel) (by decide +kernel)
set_option maxRecDepth 20000 in
theorem gX6_roundedMachine_X6_refreshDivision : GoodIn wsX6_roundedMachine (wsV RX6 104 RX6 yX6_refreshDivision wsX6_refreshDivision) := goodIn_app (goodIn_of _ (by decide +kernel)) ggX6_roundedMachine_X6_refreshDivision
theorem dX6_roundedMachine_0 : decode cX6_roundedMachine 0 = .ok (.aload_n 0, 1) := by decide +kernel
theorem dX6_roundedMachine_1 : decode cX6_roundedMachine 1 = .ok (.iload_n 1, 1) := by decide +kernel
theorem dX6_roundedMachine_2 : decode cX6_roundedMachine 2 = .ok (.invokevirtual 76, 3) := by decide +kernel
theorem dX6_roundedMachine_5 : decode cX6_roundedMachine 5 = .ok (.aload_n 0, 1) := by decide +kernel
theorem dX6_roundedMachine_6 : decode cX6_roundedMachine 6 = .ok (.invokevirtual 104, 3) := by decide +kernel
theorem dX6_roundedMachine_9 : decode cX6_roundedMachine 9 = .ok (.aload_n 0, 1) := by decide +kernel
theorem dX6_roundedMachine_10 : decode cX6_roundedMachine 10 = .ok (.getfield 40, 3) := by decide +kernel
theorem dX6_roundedMachine_13 : decode cX6_roundedMachine 13 = .ok (.getfield 126, 3) := by decide +kernel
theorem dX6_roundedMachine_16 : decode cX6_roundedMachine 16 = .ok (.iload_n 1, 1) := by decide +kernel
theorem dX6_roundedMachine_17 : decode cX6_roundedMachine 17 = .ok (.iaload, 1) := by decide +kernel
theorem dX6_roundedMachine_18 : decode cX6_roundedMachine 18 = .ok (.ireturn, 1) := by decide +kernel
set_option maxRecDepth 20000 in
theorem ggX6_roundedLength_X6_refreshDivision : GoodIn wsX6_roundedLength wsX6_refreshDivision := goodIn_r _ [7, 8, 9, 1, 2, 10, 11, 12, 13, 14, 15, 16, 17, 18, 19, 20, 21, 22, 23, 24, 25, 26, 27, 28, 29, 30, 31, 32, 33, 34, 35, 36, 37, 38, 39, 40, 41, 42, 43, 44, 45, 46, 47, 48, 49, 50, 51, 52, 53, 54, 55, 56, 57, 58, 59, 60, 61, 62, 63, 64, 65, 66, 67, 68, 69, 70, 71, 72, 73, 74, 75, 76, 77, 78, 79, 80, 81, 82, 83, 84, 85, 86, 87, 88, 89, 90, 91, 92, 93, 94, 95, 96, 97, 98, 99, 100, 101, 102, 103, 104, 105, 106, 107, 108, 109, 110, 111, 112, 113, 114, 115, 116, 117, 118, 119, 120, 121, 122, 123, 124, 125, 138, 139, 140, 141, 142, 143, 144, 146, 147, 148, 149, 150, 151, 152, 153, 154, 155, 156, 157, 158, 145] (by decide +kernel) (by decide +kernel)
set_option maxRecDepth 20000 in
theorem gX6_roundedLength_X6_refreshDivision : GoodIn wsX6_roundedLength (wsV RX6 104 RX6 yX6_refreshDivision wsX6_refreshDivision) := goodIn_app (goodIn_of _ (by decide +kernel)) ggX6_roundedLength_X6_refreshDivision
set_option maxRecDepth 20000 in
theorem ggX6_roundedLength_X1_greatestLoad : GoodIn wsX6_roundedLength wsX1_greatestLoad := goodIn_r _ [129, 130, 131, 38, 132, 133, 134, 135, 49, 136, 51, 137, 47, 48, 50, 52, 157, 158] (by decide +kernel) (by decide +kernel)
set_option maxRecDepth 20000 in
theorem gX6_roundedLength_X1_greatestLoad : GoodIn wsX6_roundedLength (wsV RX6 127 RX1 yX1_greatestLoad wsX1_greatestLoad) := goodIn_app (goodIn_of _ (by decide +kernel)) ggX6_roundedLength_X1_greatestLoad
theorem dX6_roundedLength_0 : decode cX6_roundedLength 0 = .ok (.aload_n 0, 1) := by decide +kernel
theorem dX6_roundedLength_1 : decode cX6_roundedLength 1 = .ok (.invokevirtual 104, 3) := by decide +kernel
theorem dX6_roundedLength_4 : decode cX6_roundedLength 4 = .ok (.aload_n 0, 1) := by decide +kernel
theorem dX6_roundedLength_5 : decode cX6_roundedLength 5 = .ok (.getfield 12, 3) := by decide +kernel
theorem dX6_roundedLength_8 : decode cX6_roundedLength 8 = .ok (.aload_n 0, 1) := by decide +kernel
theorem dX6_roundedLength_9 : decode cX6_roundedLength 9 = .ok (.getfield 40, 3) := by decide +kernel
theorem dX6_roundedLength_12 : decode cX6_roundedLength 12 = .ok (.getfield 126, 3) := by decide +kernel
theorem dX6_roundedLength_15 : decode cX6_roundedLength 15 = .ok (.invokevirtual 127, 3) := by decide +kernel
theorem dX6_roundedLength_18 : decode cX6_roundedLength 18 = .ok (.ireturn, 1) := by decide +kernel
set_option maxRecDepth 20000 in
theorem ggX6_excess_X6_refreshSearch : GoodIn wsX6_excess wsX6_refreshSearch := goodIn_r _ [8, 9, 1, 2, 10, 11, 12, 13, 14, 15, 16, 17, 18, 19, 20, 21, 22, 23, 24, 25, 26, 27, 28, 29, 30, 31, 32, 33, 34, 35, 36, 37, 38, 39, 40, 41, 42, 43, 44, 170, 171, 172, 173, 174, 175, 176, 177, 178, 179, 180, 182, 183] (by decide +kernel) (by decide +kernel)
set_option maxRecDepth 20000 in
theorem gX6_excess_X6_refreshSearch : GoodIn wsX6_excess (wsV RX6 91 RX6 yX6_refreshSearch wsX6_refreshSearch) := goodIn_app (goodIn_of _ (by decide +kernel)) ggX6_excess_X6_refreshSearch
set_option maxRecDepth 20000 in
theorem ggX6_excess_X6_refreshDivision : GoodIn wsX6_excess wsX6_refreshDivision := goodIn_r _ [48, 49, 50, 2, 3, 51, 52, 53, 54, 55, 56, 57, 58, 59, 60, 61, 62, 63, 64, 65, 66, 67, 68, 69, 70, 71, 72, 73, 74, 75, 76, 77, 78, 31, 79, 80, 81, 82, 83, 84, 85, 86, 39, 40, 41, 42, 43, 44, 87, 88, 89, 90, 91, 92, 93, 94, 95, 96, 97, 98, 99, 100, 101, 102, 103, 104, 105, 106, 107, 108, 109, 110, 111, 112, 113, 114, 115, 116, 117, 118, 119, 120, 121, 122, 123, 124, 125, 126, 127, 128, 129, 130, 131, 132, 133, 134, 135, 136, 137, 138, 139, 140, 141, 142, 143, 144, 145, 146, 147, 148, 149, 150, 151, 152, 153, 154, 155, 156, 157, 158, 159, 170, 171, 172, 173, 174, 175, 176, 184, 185, 186, 187, 188, 189, 190, 191, 192, 193, 194, 182, 183, 181] (by decide +kernel) (by decide +kernel)
set_option maxRecDepth 20000 in
theorem gX6_excess_X6_refreshDivision : GoodIn wsX6_excess (wsV RX6 104 RX6 yX6_refreshDivision wsX6_refreshDivision) := goodIn_app (goodIn_of _ (by decide +kernel)) ggX6_excess_X6_refreshDivision
set_option maxRecDepth 20000 in
theorem ggX6_excess_X1_greatestLoad : GoodIn wsX6_excess wsX1_greatestLoad := goodIn_r _ [163, 164, 30, 31, 32, 165, 166, 167, 41, 168, 43, 169, 39, 40, 42, 44, 182, 183] (by decide +kernel) (by decide +kernel)
set_option maxRecDepth 20000 in
theorem gX6_excess_X1_greatestLoad : GoodIn wsX6_excess (wsV RX6 127 RX1 yX1_greatestLoad wsX1_greatestLoad) := goodIn_app (goodIn_of _ (by decide +kernel)) ggX6_excess_X1_greatestLoad
theorem dX6_excess_0 : decode cX6_excess 0 = .ok (.aload_n 0, 1) := by decide +kernel
theorem dX6_excess_1 : decode cX6_excess 1 = .ok (.invokevirtual 91, 3) := by decide +kernel
theorem dX6_excess_4 : decode cX6_excess 4 = .ok (.aload_n 0, 1) := by decide +kernel
theorem dX6_excess_5 : decode cX6_excess 5 = .ok (.invokevirtual 104, 3) := by decide +kernel
theorem dX6_excess_8 : decode cX6_excess 8 = .ok (.aload_n 0, 1) := by decide +kernel
theorem dX6_excess_9 : decode cX6_excess 9 = .ok (.getfield 26, 3) := by decide +kernel
theorem dX6_excess_12 : decode cX6_excess 12 = .ok (.getfield 94, 3) := by decide +kernel
theorem dX6_excess_15 : decode cX6_excess 15 = .ok (.ifCond .ne 5, 3) := by decide +kernel
theorem dX6_excess_18 : decode cX6_excess 18 = .ok (.fconst 1, 1) := by decide +kernel
theorem dX6_excess_19 : decode cX6_excess 19 = .ok (.freturn, 1) := by decide +kernel
theorem dX6_excess_20 : decode cX6_excess 20 = .ok (.aload_n 0, 1) := by decide +kernel
theorem dX6_excess_21 : decode cX6_excess 21 = .ok (.getfield 12, 3) := by decide +kernel
theorem dX6_excess_24 : decode cX6_excess 24 = .ok (.aload_n 0, 1) := by decide +kernel
theorem dX6_excess_25 : decode cX6_excess 25 = .ok (.getfield 40, 3) := by decide +kernel
theorem dX6_excess_28 : decode cX6_excess 28 = .ok (.getfield 126, 3) := by decide +kernel
theorem dX6_excess_31 : decode cX6_excess 31 = .ok (.invokevirtual 127, 3) := by decide +kernel
theorem dX6_excess_34 : decode cX6_excess 34 = .ok (.i2f, 1) := by decide +kernel
theorem dX6_excess_35 : decode cX6_excess 35 = .ok (.aload_n 0, 1) := by decide +kernel
theorem dX6_excess_36 : decode cX6_excess 36 = .ok (.getfield 26, 3) := by decide +kernel
theorem dX6_excess_39 : decode cX6_excess 39 = .ok (.getfield 94, 3) := by decide +kernel
theorem dX6_excess_42 : decode cX6_excess 42 = .ok (.i2f, 1) := by decide +kernel
theorem dX6_excess_43 : decode cX6_excess 43 = .ok (.fdiv, 1) := by decide +kernel
theorem dX6_excess_44 : decode cX6_excess 44 = .ok (.freturn, 1) := by decide +kernel
set_option maxRecDepth 20000 in
theorem ggX6_assign_X6_requireJob : GoodIn wsX6_assign wsX6_requireJob := goodIn_ca (goodIn_r _ [9, 10, 11, 3, 22, 23, 24, 25, 26, 27, 28, 34, 35] (by decide +kernel) (by decide +kernel)) (goodIn_sub (fun _ h => List.mem_cons_of_mem _ (List.mem_append_right _ h)) (by decide +kernel))
set_option maxRecDepth 20000 in
theorem gX6_assign_X6_requireJob : GoodIn wsX6_assign (wsV RX6 76 RX6 yX6_requireJob wsX6_requireJob) := goodIn_app (goodIn_of _ (by decide +kernel)) ggX6_assign_X6_requireJob
set_option maxRecDepth 20000 in
theorem ggX6_assign_X6_requireMachine : GoodIn wsX6_assign wsX6_requireMachine := goodIn_ca (goodIn_r _ [14, 10, 11] (by decide +kernel) (by decide +kernel)) (goodIn_sub (fun _ h => List.mem_cons_of_mem _ (List.mem_append_right _ h)) (by decide +kernel))
set_option maxRecDepth 20000 in
theorem gX6_assign_X6_requireMachine : GoodIn wsX6_assign (va_wsS RX6 80 yX6_requireMachine wsX6_requireMachine) := goodIn_app (goodIn_of _ (by decide +kernel)) ggX6_assign_X6_requireMachine
set_option maxRecDepth 20000 in
theorem ggX6_assign_X1_timeOn : GoodIn wsX6_assign wsX1_timeOn := goodIn_r _ [19, 20, 21, 34, 35] (by decide +kernel) (by decide +kernel)
set_option maxRecDepth 20000 in
theorem gX6_assign_X1_timeOn : GoodIn wsX6_assign (wsV RX6 87 RX1 yX1_timeOn wsX1_timeOn) := goodIn_app (goodIn_of _ (by decide +kernel)) ggX6_assign_X1_timeOn
theorem dX6_assign_0 : decode cX6_assign 0 = .ok (.aload_n 0, 1) := by decide +kernel
theorem dX6_assign_1 : decode cX6_assign 1 = .ok (.iload_n 1, 1) := by decide +kernel
theorem dX6_assign_2 : decode cX6_assign 2 = .ok (.invokevirtual 76, 3) := by decide +kernel
theorem dX6_assign_5 : decode cX6_assign 5 = .ok (.iload_n 2, 1) := by decide +kernel
theorem dX6_assign_6 : decode cX6_assign 6 = .ok (.invokestatic 80, 3) := by decide +kernel
theorem dX6_assign_9 : decode cX6_assign 9 = .ok (.aload_n 0, 1) := by decide +kernel
theorem dX6_assign_10 : decode cX6_assign 10 = .ok (.getfield 12, 3) := by decide +kernel
theorem dX6_assign_13 : decode cX6_assign 13 = .ok (.iload_n 1, 1) := by decide +kernel
theorem dX6_assign_14 : decode cX6_assign 14 = .ok (.iload_n 2, 1) := by decide +kernel
theorem dX6_assign_15 : decode cX6_assign 15 = .ok (.invokevirtual 87, 3) := by decide +kernel
theorem dX6_assign_18 : decode cX6_assign 18 = .ok (.ifCond .ne 13, 3) := by decide +kernel
theorem dX6_assign_21 : decode cX6_assign 21 = .ok (.new 61, 3) := by decide +kernel
theorem dX6_assign_24 : decode cX6_assign 24 = .ok (.dup, 1) := by decide +kernel
theorem dX6_assign_25 : decode cX6_assign 25 = .ok (.ldc 131, 2) := by decide +kernel
theorem dX6_assign_27 : decode cX6_assign 27 = .ok (.invokespecial 65, 3) := by decide +kernel
theorem dX6_assign_30 : decode cX6_assign 30 = .ok (.athrow, 1) := by decide +kernel
theorem dX6_assign_31 : decode cX6_assign 31 = .ok (.aload_n 0, 1) := by decide +kernel
theorem dX6_assign_32 : decode cX6_assign 32 = .ok (.getfield 19, 3) := by decide +kernel
theorem dX6_assign_35 : decode cX6_assign 35 = .ok (.getfield 70, 3) := by decide +kernel
theorem dX6_assign_38 : decode cX6_assign 38 = .ok (.iload_n 1, 1) := by decide +kernel
theorem dX6_assign_39 : decode cX6_assign 39 = .ok (.iaload, 1) := by decide +kernel
theorem dX6_assign_40 : decode cX6_assign 40 = .ok (.istore_n 3, 1) := by decide +kernel
theorem dX6_assign_41 : decode cX6_assign 41 = .ok (.aload_n 0, 1) := by decide +kernel
theorem dX6_assign_42 : decode cX6_assign 42 = .ok (.getfield 19, 3) := by decide +kernel
theorem dX6_assign_45 : decode cX6_assign 45 = .ok (.getfield 70, 3) := by decide +kernel
theorem dX6_assign_48 : decode cX6_assign 48 = .ok (.iload_n 1, 1) := by decide +kernel
theorem dX6_assign_49 : decode cX6_assign 49 = .ok (.iload_n 2, 1) := by decide +kernel
theorem dX6_assign_50 : decode cX6_assign 50 = .ok (.iastore, 1) := by decide +kernel
theorem dX6_assign_51 : decode cX6_assign 51 = .ok (.iload_n 3, 1) := by decide +kernel
theorem dX6_assign_52 : decode cX6_assign 52 = .ok (.ireturn, 1) := by decide +kernel
set_option maxRecDepth 20000 in
theorem ggX6_machine_X6_requireJob : GoodIn wsX6_machine wsX6_requireJob := goodIn_ca (goodIn_r _ [6, 7, 8, 9, 10, 11, 12, 13, 14, 15, 16, 22, 23] (by decide +kernel) (by decide +kernel)) (goodIn_sub (fun _ h => List.mem_cons_of_mem _ (List.mem_append_right _ h)) (by decide +kernel))
set_option maxRecDepth 20000 in
theorem gX6_machine_X6_requireJob : GoodIn wsX6_machine (wsV RX6 76 RX6 yX6_requireJob wsX6_requireJob) := goodIn_app (goodIn_of _ (by decide +kernel)) ggX6_machine_X6_requireJob
theorem dX6_machine_0 : decode cX6_machine 0 = .ok (.aload_n 0, 1) := by decide +kernel
theorem dX6_machine_1 : decode cX6_machine 1 = .ok (.iload_n 1, 1) := by decide +kernel
theorem dX6_machine_2 : decode cX6_machine 2 = .ok (.invokevirtual 76, 3) := by decide +kernel
theorem dX6_machine_5 : decode cX6_machine 5 = .ok (.aload_n 0, 1) := by decide +kernel
theorem dX6_machine_6 : decode cX6_machine 6 = .ok (.getfield 19, 3) := by decide +kernel
theorem dX6_machine_9 : decode cX6_machine 9 = .ok (.getfield 70, 3) := by decide +kernel
theorem dX6_machine_12 : decode cX6_machine 12 = .ok (.iload_n 1, 1) := by decide +kernel
theorem dX6_machine_13 : decode cX6_machine 13 = .ok (.iaload, 1) := by decide +kernel
theorem dX6_machine_14 : decode cX6_machine 14 = .ok (.ireturn, 1) := by decide +kernel
set_option maxRecDepth 20000 in
theorem ggX6_load_X6_requireMachine : GoodIn wsX6_load wsX6_requireMachine := goodIn_ca (goodIn_r _ [6, 7, 8] (by decide +kernel) (by decide +kernel)) (goodIn_sub (fun _ h => List.mem_cons_of_mem _ (List.mem_append_right _ h)) (by decide +kernel))
set_option maxRecDepth 20000 in
theorem gX6_load_X6_requireMachine : GoodIn wsX6_load (va_wsS RX6 80 yX6_requireMachine wsX6_requireMachine) := goodIn_app (goodIn_of _ (by decide +kernel)) ggX6_load_X6_requireMachine
set_option maxRecDepth 20000 in
theorem ggX6_load_X1_loadOn : GoodIn wsX6_load wsX1_loadOn := goodIn_r _ [13, 14, 15, 16, 17, 12, 18, 19, 32, 33] (by decide +kernel) (by decide +kernel)
set_option maxRecDepth 20000 in
theorem gX6_load_X1_loadOn : GoodIn wsX6_load (wsV RX6 133 RX1 yX1_loadOn wsX1_loadOn) := goodIn_app (goodIn_of _ (by decide +kernel)) ggX6_load_X1_loadOn
theorem dX6_load_0 : decode cX6_load 0 = .ok (.iload_n 1, 1) := by decide +kernel
theorem dX6_load_1 : decode cX6_load 1 = .ok (.invokestatic 80, 3) := by decide +kernel
theorem dX6_load_4 : decode cX6_load 4 = .ok (.aload_n 0, 1) := by decide +kernel
theorem dX6_load_5 : decode cX6_load 5 = .ok (.getfield 12, 3) := by decide +kernel
theorem dX6_load_8 : decode cX6_load 8 = .ok (.aload_n 0, 1) := by decide +kernel
theorem dX6_load_9 : decode cX6_load 9 = .ok (.getfield 19, 3) := by decide +kernel
theorem dX6_load_12 : decode cX6_load 12 = .ok (.getfield 70, 3) := by decide +kernel
theorem dX6_load_15 : decode cX6_load 15 = .ok (.iload_n 1, 1) := by decide +kernel
theorem dX6_load_16 : decode cX6_load 16 = .ok (.invokevirtual 133, 3) := by decide +kernel
theorem dX6_load_19 : decode cX6_load 19 = .ok (.ireturn, 1) := by decide +kernel
set_option maxRecDepth 20000 in
theorem ggX6_length_X1_greatestLoad : GoodIn wsX6_length wsX1_greatestLoad := goodIn_r _ [7, 8, 9, 10, 11, 12, 13, 14, 6, 15, 16, 17, 18, 19, 20, 21, 34, 35] (by decide +kernel) (by decide +kernel)
set_option maxRecDepth 20000 in
theorem gX6_length_X1_greatestLoad : GoodIn wsX6_length (wsV RX6 127 RX1 yX1_greatestLoad wsX1_greatestLoad) := goodIn_app (goodIn_of _ (by decide +kernel)) ggX6_length_X1_greatestLoad
theorem dX6_length_0 : decode cX6_length 0 = .ok (.aload_n 0, 1) := by decide +kernel
theorem dX6_length_1 : decode cX6_length 1 = .ok (.getfield 12, 3) := by decide +kernel
theorem dX6_length_4 : decode cX6_length 4 = .ok (.aload_n 0, 1) := by decide +kernel
theorem dX6_length_5 : decode cX6_length 5 = .ok (.getfield 19, 3) := by decide +kernel
theorem dX6_length_8 : decode cX6_length 8 = .ok (.getfield 70, 3) := by decide +kernel
theorem dX6_length_11 : decode cX6_length 11 = .ok (.invokevirtual 127, 3) := by decide +kernel
theorem dX6_length_14 : decode cX6_length 14 = .ok (.ireturn, 1) := by decide +kernel
set_option maxRecDepth 20000 in
theorem ggX6_improve_X2_makeBestChange : GoodIn wsX6_improve wsX2_makeBestChange := goodIn_r _ [7, 8, 9, 10, 11, 12, 13, 14, 15, 6, 16, 17, 18, 19, 20, 21, 22, 23, 24, 25, 26, 27, 28, 29, 30, 31, 32, 33, 34, 35, 36, 37, 38, 39, 40, 41, 42, 43, 44, 45, 46, 47, 48, 49, 50, 51, 65, 66, 67, 68, 69, 70, 71] (by decide +kernel) (by decide +kernel)
set_option maxRecDepth 20000 in
theorem gX6_improve_X2_makeBestChange : GoodIn wsX6_improve (wsV RX6 137 RX2 yX2_makeBestChange wsX2_makeBestChange) := goodIn_app (goodIn_of _ (by decide +kernel)) ggX6_improve_X2_makeBestChange
set_option maxRecDepth 20000 in
theorem ggX6_improve_X1_greatestLoad : GoodIn wsX6_improve wsX1_greatestLoad := goodIn_r _ [55, 56, 18, 19, 20, 57, 25, 26, 27, 28, 29, 30, 31, 32, 33, 34, 70, 71] (by decide +kernel) (by decide +kernel)
set_option maxRecDepth 20000 in
theorem gX6_improve_X1_greatestLoad : GoodIn wsX6_improve (wsV RX6 127 RX1 yX1_greatestLoad wsX1_greatestLoad) := goodIn_app (goodIn_of _ (by decide +kernel)) ggX6_improve_X1_greatestLoad
theorem dX6_improve_0 : decode cX6_improve 0 = .ok (.aload_n 0, 1) := by decide +kernel
theorem dX6_improve_1 : decode cX6_improve 1 = .ok (.getfield 19, 3) := by decide +kernel
theorem dX6_improve_4 : decode cX6_improve 4 = .ok (.aload_n 0, 1) := by decide +kernel
theorem dX6_improve_5 : decode cX6_improve 5 = .ok (.getfield 12, 3) := by decide +kernel
theorem dX6_improve_8 : decode cX6_improve 8 = .ok (.invokevirtual 137, 3) := by decide +kernel
theorem dX6_improve_11 : decode cX6_improve 11 = .ok (.ifCond .eq 20, 3) := by decide +kernel
theorem dX6_improve_14 : decode cX6_improve 14 = .ok (.aload_n 0, 1) := by decide +kernel
theorem dX6_improve_15 : decode cX6_improve 15 = .ok (.getfield 12, 3) := by decide +kernel
theorem dX6_improve_18 : decode cX6_improve 18 = .ok (.aload_n 0, 1) := by decide +kernel
theorem dX6_improve_19 : decode cX6_improve 19 = .ok (.getfield 19, 3) := by decide +kernel
theorem dX6_improve_22 : decode cX6_improve 22 = .ok (.getfield 70, 3) := by decide +kernel
theorem dX6_improve_25 : decode cX6_improve 25 = .ok (.invokevirtual 127, 3) := by decide +kernel
theorem dX6_improve_28 : decode cX6_improve 28 = .ok (.goto 4, 3) := by decide +kernel
theorem dX6_improve_31 : decode cX6_improve 31 = .ok (.iconst (-1), 1) := by decide +kernel
theorem dX6_improve_32 : decode cX6_improve 32 = .ok (.ireturn, 1) := by decide +kernel
set_option maxRecDepth 20000 in
theorem ggX6_takeRounded_X6_refreshDivision : GoodIn wsX6_takeRounded wsX6_refreshDivision := goodIn_r _ [8, 9, 10, 1, 3, 11, 12, 13, 14, 15, 16, 17, 18, 19, 20, 21, 22, 23, 24, 25, 26, 27, 28, 29, 30, 31, 32, 33, 34, 35, 36, 37, 38, 39, 40, 41, 42, 43, 44, 45, 46, 47, 48, 49, 50, 51, 52, 53, 54, 55, 56, 57, 58, 59, 60, 61, 62, 63, 64, 65, 66, 67, 68, 69, 70, 71, 72, 73, 74, 75, 76, 77, 78, 79, 80, 81, 82, 83, 84, 85, 86, 87, 88, 89, 90, 91, 92, 93, 94, 95, 96, 97, 98, 99, 100, 101, 102, 103, 104, 105, 106, 107, 108, 109, 110, 111, 112, 113, 114, 115, 116, 117, 118, 119, 120, 121, 122, 123, 124, 125, 126, 127, 128, 129, 130, 131, 132, 133, 142, 143, 144, 145, 146, 147, 148, 149, 150, 151, 152, 134, 135, 141] (by decide +kernel) (by decide +kernel)
set_option maxRecDepth 20000 in
theorem gX6_takeRounded_X6_refreshDivision : GoodIn wsX6_takeRounded (wsV RX6 104 RX6 yX6_refreshDivision wsX6_refreshDivision) := goodIn_app (goodIn_of _ (by decide +kernel)) ggX6_takeRounded_X6_refreshDivision
theorem dX6_takeRounded_0 : decode cX6_takeRounded 0 = .ok (.aload_n 0, 1) := by decide +kernel
theorem dX6_takeRounded_1 : decode cX6_takeRounded 1 = .ok (.invokevirtual 104, 3) := by decide +kernel
theorem dX6_takeRounded_4 : decode cX6_takeRounded 4 = .ok (.iconst 0, 1) := by decide +kernel
theorem dX6_takeRounded_5 : decode cX6_takeRounded 5 = .ok (.istore_n 1, 1) := by decide +kernel
theorem dX6_takeRounded_6 : decode cX6_takeRounded 6 = .ok (.iconst 0, 1) := by decide +kernel
theorem dX6_takeRounded_7 : decode cX6_takeRounded 7 = .ok (.istore_n 2, 1) := by decide +kernel
theorem dX6_takeRounded_8 : decode cX6_takeRounded 8 = .ok (.iload_n 2, 1) := by decide +kernel
theorem dX6_takeRounded_9 : decode cX6_takeRounded 9 = .ok (.aload_n 0, 1) := by decide +kernel
theorem dX6_takeRounded_10 : decode cX6_takeRounded 10 = .ok (.getfield 12, 3) := by decide +kernel
theorem dX6_takeRounded_13 : decode cX6_takeRounded 13 = .ok (.getfield 57, 3) := by decide +kernel
theorem dX6_takeRounded_16 : decode cX6_takeRounded 16 = .ok (.if_icmp .ge 57, 3) := by decide +kernel
theorem dX6_takeRounded_19 : decode cX6_takeRounded 19 = .ok (.iload_n 2, 1) := by decide +kernel
theorem dX6_takeRounded_20 : decode cX6_takeRounded 20 = .ok (.bipush 7, 2) := by decide +kernel
theorem dX6_takeRounded_22 : decode cX6_takeRounded 22 = .ok (.if_icmp .ge 51, 3) := by decide +kernel
theorem dX6_takeRounded_25 : decode cX6_takeRounded 25 = .ok (.aload_n 0, 1) := by decide +kernel
theorem dX6_takeRounded_26 : decode cX6_takeRounded 26 = .ok (.getfield 19, 3) := by decide +kernel
theorem dX6_takeRounded_29 : decode cX6_takeRounded 29 = .ok (.getfield 70, 3) := by decide +kernel
theorem dX6_takeRounded_32 : decode cX6_takeRounded 32 = .ok (.iload_n 2, 1) := by decide +kernel
theorem dX6_takeRounded_33 : decode cX6_takeRounded 33 = .ok (.iaload, 1) := by decide +kernel
theorem dX6_takeRounded_34 : decode cX6_takeRounded 34 = .ok (.aload_n 0, 1) := by decide +kernel
theorem dX6_takeRounded_35 : decode cX6_takeRounded 35 = .ok (.getfield 40, 3) := by decide +kernel
theorem dX6_takeRounded_38 : decode cX6_takeRounded 38 = .ok (.getfield 126, 3) := by decide +kernel
theorem dX6_takeRounded_41 : decode cX6_takeRounded 41 = .ok (.iload_n 2, 1) := by decide +kernel
theorem dX6_takeRounded_42 : decode cX6_takeRounded 42 = .ok (.iaload, 1) := by decide +kernel
theorem dX6_takeRounded_43 : decode cX6_takeRounded 43 = .ok (.if_icmp .eq 24, 3) := by decide +kernel
theorem dX6_takeRounded_46 : decode cX6_takeRounded 46 = .ok (.aload_n 0, 1) := by decide +kernel
theorem dX6_takeRounded_47 : decode cX6_takeRounded 47 = .ok (.getfield 19, 3) := by decide +kernel
theorem dX6_takeRounded_50 : decode cX6_takeRounded 50 = .ok (.getfield 70, 3) := by decide +kernel
theorem dX6_takeRounded_53 : decode cX6_takeRounded 53 = .ok (.iload_n 2, 1) := by decide +kernel
theorem dX6_takeRounded_54 : decode cX6_takeRounded 54 = .ok (.aload_n 0, 1) := by decide +kernel
theorem dX6_takeRounded_55 : decode cX6_takeRounded 55 = .ok (.getfield 40, 3) := by decide +kernel
theorem dX6_takeRounded_58 : decode cX6_takeRounded 58 = .ok (.getfield 126, 3) := by decide +kernel
theorem dX6_takeRounded_61 : decode cX6_takeRounded 61 = .ok (.iload_n 2, 1) := by decide +kernel
theorem dX6_takeRounded_62 : decode cX6_takeRounded 62 = .ok (.iaload, 1) := by decide +kernel
theorem dX6_takeRounded_63 : decode cX6_takeRounded 63 = .ok (.iastore, 1) := by decide +kernel
theorem dX6_takeRounded_64 : decode cX6_takeRounded 64 = .ok (.iinc 1 1, 3) := by decide +kernel
theorem dX6_takeRounded_67 : decode cX6_takeRounded 67 = .ok (.iinc 2 1, 3) := by decide +kernel
theorem dX6_takeRounded_70 : decode cX6_takeRounded 70 = .ok (.goto (-62), 3) := by decide +kernel
theorem dX6_takeRounded_73 : decode cX6_takeRounded 73 = .ok (.iload_n 1, 1) := by decide +kernel
theorem dX6_takeRounded_74 : decode cX6_takeRounded 74 = .ok (.ireturn, 1) := by decide +kernel
theorem dX6_isTime_0 : decode cX6_isTime 0 = .ok (.iload_n 0, 1) := by decide +kernel
theorem dX6_isTime_1 : decode cX6_isTime 1 = .ok (.ifCond .lt 13, 3) := by decide +kernel
theorem dX6_isTime_4 : decode cX6_isTime 4 = .ok (.iload_n 0, 1) := by decide +kernel
theorem dX6_isTime_5 : decode cX6_isTime 5 = .ok (.bipush 50, 2) := by decide +kernel
theorem dX6_isTime_7 : decode cX6_isTime 7 = .ok (.if_icmp .gt 7, 3) := by decide +kernel
theorem dX6_isTime_10 : decode cX6_isTime 10 = .ok (.iconst 1, 1) := by decide +kernel
theorem dX6_isTime_11 : decode cX6_isTime 11 = .ok (.goto 4, 3) := by decide +kernel
theorem dX6_isTime_14 : decode cX6_isTime 14 = .ok (.iconst 0, 1) := by decide +kernel
theorem dX6_isTime_15 : decode cX6_isTime 15 = .ok (.ireturn, 1) := by decide +kernel
theorem dX6_requireJob_0 : decode cX6_requireJob 0 = .ok (.iload_n 1, 1) := by decide +kernel
theorem dX6_requireJob_1 : decode cX6_requireJob 1 = .ok (.ifCond .lt 20, 3) := by decide +kernel
theorem dX6_requireJob_4 : decode cX6_requireJob 4 = .ok (.iload_n 1, 1) := by decide +kernel
theorem dX6_requireJob_5 : decode cX6_requireJob 5 = .ok (.aload_n 0, 1) := by decide +kernel
theorem dX6_requireJob_6 : decode cX6_requireJob 6 = .ok (.getfield 12, 3) := by decide +kernel
theorem dX6_requireJob_9 : decode cX6_requireJob 9 = .ok (.getfield 57, 3) := by decide +kernel
theorem dX6_requireJob_12 : decode cX6_requireJob 12 = .ok (.if_icmp .ge 9, 3) := by decide +kernel
theorem dX6_requireJob_15 : decode cX6_requireJob 15 = .ok (.iload_n 1, 1) := by decide +kernel
theorem dX6_requireJob_16 : decode cX6_requireJob 16 = .ok (.bipush 7, 2) := by decide +kernel
theorem dX6_requireJob_18 : decode cX6_requireJob 18 = .ok (.if_icmp .lt 13, 3) := by decide +kernel
theorem dX6_requireJob_21 : decode cX6_requireJob 21 = .ok (.new 141, 3) := by decide +kernel
theorem dX6_requireJob_24 : decode cX6_requireJob 24 = .ok (.dup, 1) := by decide +kernel
theorem dX6_requireJob_25 : decode cX6_requireJob 25 = .ok (.ldc 143, 2) := by decide +kernel
theorem dX6_requireJob_27 : decode cX6_requireJob 27 = .ok (.invokespecial 145, 3) := by decide +kernel
theorem dX6_requireJob_30 : decode cX6_requireJob 30 = .ok (.athrow, 1) := by decide +kernel
theorem dX6_requireJob_31 : decode cX6_requireJob 31 = .ok (.return_, 1) := by decide +kernel
theorem dX6_requireMachine_0 : decode cX6_requireMachine 0 = .ok (.iload_n 0, 1) := by decide +kernel
theorem dX6_requireMachine_1 : decode cX6_requireMachine 1 = .ok (.ifCond .lt 8, 3) := by decide +kernel
theorem dX6_requireMachine_4 : decode cX6_requireMachine 4 = .ok (.iload_n 0, 1) := by decide +kernel
theorem dX6_requireMachine_5 : decode cX6_requireMachine 5 = .ok (.iconst 3, 1) := by decide +kernel
theorem dX6_requireMachine_6 : decode cX6_requireMachine 6 = .ok (.if_icmp .lt 13, 3) := by decide +kernel
theorem dX6_requireMachine_9 : decode cX6_requireMachine 9 = .ok (.new 141, 3) := by decide +kernel
theorem dX6_requireMachine_12 : decode cX6_requireMachine 12 = .ok (.dup, 1) := by decide +kernel
theorem dX6_requireMachine_13 : decode cX6_requireMachine 13 = .ok (.ldc 146, 2) := by decide +kernel
theorem dX6_requireMachine_15 : decode cX6_requireMachine 15 = .ok (.invokespecial 145, 3) := by decide +kernel
theorem dX6_requireMachine_18 : decode cX6_requireMachine 18 = .ok (.athrow, 1) := by decide +kernel
theorem dX6_requireMachine_19 : decode cX6_requireMachine 19 = .ok (.return_, 1) := by decide +kernel
theorem dX6_forgetResults_0 : decode cX6_forgetResults 0 = .ok (.aload_n 0, 1) := by decide +kernel
theorem dX6_forgetResults_1 : decode cX6_forgetResults 1 = .ok (.iconst 0, 1) := by decide +kernel
theorem dX6_forgetResults_2 : decode cX6_forgetResults 2 = .ok (.putfield 148, 3) := by decide +kernel
theorem dX6_forgetResults_5 : decode cX6_forgetResults 5 = .ok (.aload_n 0, 1) := by decide +kernel
theorem dX6_forgetResults_6 : decode cX6_forgetResults 6 = .ok (.iconst 0, 1) := by decide +kernel
theorem dX6_forgetResults_7 : decode cX6_forgetResults 7 = .ok (.putfield 152, 3) := by decide +kernel
theorem dX6_forgetResults_10 : decode cX6_forgetResults 10 = .ok (.return_, 1) := by decide +kernel
set_option maxRecDepth 20000 in
theorem ggX6_refreshSearch_X3_find : GoodIn wsX6_refreshSearch wsX3_find := goodIn_r _ [8, 9, 10, 11, 12, 7, 13, 14, 15, 16, 17, 18, 19, 20, 21, 22, 23, 24, 25, 26, 27, 28, 29, 30, 31, 32, 33, 34, 35, 36, 37, 38, 46, 47, 48, 49, 50, 51] (by decide +kernel) (by decide +kernel)
set_option maxRecDepth 20000 in
theorem gX6_refreshSearch_X3_find : GoodIn wsX6_refreshSearch (wsV RX6 155 RX3 yX3_find wsX3_find) := goodIn_app (goodIn_of _ (by decide +kernel)) ggX6_refreshSearch_X3_find
theorem dX6_refreshSearch_0 : decode cX6_refreshSearch 0 = .ok (.aload_n 0, 1) := by decide +kernel
theorem dX6_refreshSearch_1 : decode cX6_refreshSearch 1 = .ok (.getfield 148, 3) := by decide +kernel
theorem dX6_refreshSearch_4 : decode cX6_refreshSearch 4 = .ok (.ifCond .ne 19, 3) := by decide +kernel
theorem dX6_refreshSearch_7 : decode cX6_refreshSearch 7 = .ok (.aload_n 0, 1) := by decide +kernel
theorem dX6_refreshSearch_8 : decode cX6_refreshSearch 8 = .ok (.getfield 26, 3) := by decide +kernel
theorem dX6_refreshSearch_11 : decode cX6_refreshSearch 11 = .ok (.aload_n 0, 1) := by decide +kernel
theorem dX6_refreshSearch_12 : decode cX6_refreshSearch 12 = .ok (.getfield 12, 3) := by decide +kernel
theorem dX6_refreshSearch_15 : decode cX6_refreshSearch 15 = .ok (.invokevirtual 155, 3) := by decide +kernel
theorem dX6_refreshSearch_18 : decode cX6_refreshSearch 18 = .ok (.aload_n 0, 1) := by decide +kernel
theorem dX6_refreshSearch_19 : decode cX6_refreshSearch 19 = .ok (.iconst 1, 1) := by decide +kernel
theorem dX6_refreshSearch_20 : decode cX6_refreshSearch 20 = .ok (.putfield 148, 3) := by decide +kernel
theorem dX6_refreshSearch_23 : decode cX6_refreshSearch 23 = .ok (.return_, 1) := by decide +kernel
set_option maxRecDepth 20000 in
theorem ggX6_refreshDivision_X0_make : GoodIn wsX6_refreshDivision wsX0_make := goodIn_r _ [9, 10, 11, 12, 13, 8, 14, 15, 16, 17, 18, 19, 20, 21, 22, 23, 24, 25, 26, 27, 28, 29, 30, 31, 32, 33, 34, 35, 36, 37, 38, 39, 40, 41, 42, 43, 44, 45, 46, 47, 48, 49, 50, 51, 52, 53, 54, 55, 56, 57, 58, 59, 60, 61, 62, 63, 64, 65, 66, 67, 68, 69, 70, 71, 72, 73, 74, 75, 76, 77, 78, 79, 80, 81, 82, 83, 84, 85, 86, 87, 88, 89, 90, 91, 92, 93, 94, 95, 96, 97, 98, 99, 100, 101, 102, 128, 129, 130, 131, 132, 133, 134, 135, 136, 137, 138, 139, 140] (by decide +kernel) (by decide +kernel)
set_option maxRecDepth 20000 in
theorem gX6_refreshDivision_X0_make : GoodIn wsX6_refreshDivision (wsV RX6 159 RX0 yX0_make wsX0_make) := goodIn_app (goodIn_of _ (by decide +kernel)) ggX6_refreshDivision_X0_make
set_option maxRecDepth 20000 in
theorem ggX6_refreshDivision_X4_make : GoodIn wsX6_refreshDivision wsX4_make := goodIn_r _ [107, 108, 109, 106, 110, 111, 112, 113, 114, 8, 115, 94, 116, 117, 118, 119, 93, 120, 139, 140, 141, 128, 129, 130, 131, 132, 133] (by decide +kernel) (by decide +kernel)
set_option maxRecDepth 20000 in
theorem gX6_refreshDivision_X4_make : GoodIn wsX6_refreshDivision (wsV RX6 162 RX4 yX4_make wsX4_make) := goodIn_app (goodIn_of _ (by decide +kernel)) ggX6_refreshDivision_X4_make
theorem dX6_refreshDivision_0 : decode cX6_refreshDivision 0 = .ok (.aload_n 0, 1) := by decide +kernel
theorem dX6_refreshDivision_1 : decode cX6_refreshDivision 1 = .ok (.getfield 152, 3) := by decide +kernel
theorem dX6_refreshDivision_4 : decode cX6_refreshDivision 4 = .ok (.ifCond .ne 34, 3) := by decide +kernel
theorem dX6_refreshDivision_7 : decode cX6_refreshDivision 7 = .ok (.aload_n 0, 1) := by decide +kernel
theorem dX6_refreshDivision_8 : decode cX6_refreshDivision 8 = .ok (.getfield 33, 3) := by decide +kernel
theorem dX6_refreshDivision_11 : decode cX6_refreshDivision 11 = .ok (.aload_n 0, 1) := by decide +kernel
theorem dX6_refreshDivision_12 : decode cX6_refreshDivision 12 = .ok (.getfield 12, 3) := by decide +kernel
theorem dX6_refreshDivision_15 : decode cX6_refreshDivision 15 = .ok (.invokevirtual 159, 3) := by decide +kernel
theorem dX6_refreshDivision_18 : decode cX6_refreshDivision 18 = .ok (.aload_n 0, 1) := by decide +kernel
theorem dX6_refreshDivision_19 : decode cX6_refreshDivision 19 = .ok (.getfield 40, 3) := by decide +kernel
theorem dX6_refreshDivision_22 : decode cX6_refreshDivision 22 = .ok (.aload_n 0, 1) := by decide +kernel
theorem dX6_refreshDivision_23 : decode cX6_refreshDivision 23 = .ok (.getfield 12, 3) := by decide +kernel
theorem dX6_refreshDivision_26 : decode cX6_refreshDivision 26 = .ok (.aload_n 0, 1) := by decide +kernel
theorem dX6_refreshDivision_27 : decode cX6_refreshDivision 27 = .ok (.getfield 33, 3) := by decide +kernel
theorem dX6_refreshDivision_30 : decode cX6_refreshDivision 30 = .ok (.invokevirtual 162, 3) := by decide +kernel
theorem dX6_refreshDivision_33 : decode cX6_refreshDivision 33 = .ok (.aload_n 0, 1) := by decide +kernel
theorem dX6_refreshDivision_34 : decode cX6_refreshDivision 34 = .ok (.iconst 1, 1) := by decide +kernel
theorem dX6_refreshDivision_35 : decode cX6_refreshDivision 35 = .ok (.putfield 152, 3) := by decide +kernel
theorem dX6_refreshDivision_38 : decode cX6_refreshDivision 38 = .ok (.return_, 1) := by decide +kernel
theorem dJ9_max_7cf53_0 : decode cJ9_max_7cf53 0 = .ok (.iload_n 0, 1) := by decide +kernel
theorem dJ9_max_7cf53_1 : decode cJ9_max_7cf53 1 = .ok (.iload_n 1, 1) := by decide +kernel
theorem dJ9_max_7cf53_2 : decode cJ9_max_7cf53 2 = .ok (.if_icmp .lt 7, 3) := by decide +kernel
theorem dJ9_max_7cf53_5 : decode cJ9_max_7cf53 5 = .ok (.iload_n 0, 1) := by decide +kernel
theorem dJ9_max_7cf53_6 : decode cJ9_max_7cf53 6 = .ok (.goto 4, 3) := by decide +kernel
theorem dJ9_max_7cf53_9 : decode cJ9_max_7cf53 9 = .ok (.iload_n 1, 1) := by decide +kernel
theorem dJ9_max_7cf53_10 : decode cJ9_max_7cf53 10 = .ok (.ireturn, 1) := by decide +kernel
theorem dJ9_min_7cf53_0 : decode cJ9_min_7cf53 0 = .ok (.iload_n 0, 1) := by decide +kernel
theorem dJ9_min_7cf53_1 : decode cJ9_min_7cf53 1 = .ok (.iload_n 1, 1) := by decide +kernel
theorem dJ9_min_7cf53_2 : decode cJ9_min_7cf53 2 = .ok (.if_icmp .gt 7, 3) := by decide +kernel
theorem dJ9_min_7cf53_5 : decode cJ9_min_7cf53 5 = .ok (.iload_n 0, 1) := by decide +kernel
theorem dJ9_min_7cf53_6 : decode cJ9_min_7cf53 6 = .ok (.goto 4, 3) := by decide +kernel
theorem dJ9_min_7cf53_9 : decode cJ9_min_7cf53 9 = .ok (.iload_n 1, 1) := by decide +kernel
theorem dJ9_min_7cf53_10 : decode cJ9_min_7cf53 10 = .ok (.ireturn, 1) := by decide +kernel
theorem dL_cell_0 : decode cL_cell 0 = .ok (.iload_n 1, 1) := by decide +kernel
theorem dL_cell_1 : decode cL_cell 1 = .ok (.aload_n 0, 1) := by decide +kernel
theorem dL_cell_2 : decode cL_cell 2 = .ok (.arraylength, 1) := by decide +kernel
theorem dL_cell_3 : decode cL_cell 3 = .ok (.if_icmp .ge 9, 3) := by decide +kernel
theorem dL_cell_6 : decode cL_cell 6 = .ok (.aload_n 0, 1) := by decide +kernel
theorem dL_cell_7 : decode cL_cell 7 = .ok (.iload_n 1, 1) := by decide +kernel
theorem dL_cell_8 : decode cL_cell 8 = .ok (.iaload, 1) := by decide +kernel
theorem dL_cell_9 : decode cL_cell 9 = .ok (.goto 15, 3) := by decide +kernel
theorem dL_cell_12 : decode cL_cell 12 = .ok (.ldc 7, 2) := by decide +kernel
theorem dL_cell_14 : decode cL_cell 14 = .ok (.iload_n 1, 1) := by decide +kernel
theorem dL_cell_15 : decode cL_cell 15 = .ok (.sipush 7577, 3) := by decide +kernel
theorem dL_cell_18 : decode cL_cell 18 = .ok (.irem, 1) := by decide +kernel
theorem dL_cell_19 : decode cL_cell 19 = .ok (.imul, 1) := by decide +kernel
theorem dL_cell_20 : decode cL_cell 20 = .ok (.sipush 1301, 3) := by decide +kernel
theorem dL_cell_23 : decode cL_cell 23 = .ok (.iadd, 1) := by decide +kernel
theorem dL_cell_24 : decode cL_cell 24 = .ok (.ldc 8, 2) := by decide +kernel
theorem dL_cell_26 : decode cL_cell 26 = .ok (.iand, 1) := by decide +kernel
theorem dL_cell_27 : decode cL_cell 27 = .ok (.ireturn, 1) := by decide +kernel
set_option maxRecDepth 20000 in
theorem ggL_addJob_X6_addJob : GoodIn wsL_addJob wsX6_addJob := goodIn_ca (goodIn_ca (goodIn_r _ [7, 8, 9, 10, 11, 12, 13, 14, 15, 6, 16, 17, 18, 19, 20, 21, 22, 23, 24, 25, 26, 27, 28, 29, 30, 31, 32, 33, 34, 35, 36] (by decide +kernel) (by decide +kernel)) (goodIn_sub (fun _ h => List.mem_cons_of_mem _ (List.mem_append_left _ (List.mem_append_right _ h))) (by decide +kernel))) (goodIn_sub (fun _ h => List.mem_cons_of_mem _ (List.mem_append_right _ h)) (by decide +kernel))
set_option maxRecDepth 20000 in
theorem gL_addJob_X6_addJob : GoodIn wsL_addJob (wsV RL 9 RX6 yX6_addJob wsX6_addJob) := goodIn_app (goodIn_of _ (by decide +kernel)) ggL_addJob_X6_addJob
theorem dL_addJob_0 : decode cL_addJob 0 = .ok (.aload_n 0, 1) := by decide +kernel
theorem dL_addJob_1 : decode cL_addJob 1 = .ok (.iload_n 1, 1) := by decide +kernel
theorem dL_addJob_2 : decode cL_addJob 2 = .ok (.iload_n 2, 1) := by decide +kernel
theorem dL_addJob_3 : decode cL_addJob 3 = .ok (.iload_n 3, 1) := by decide +kernel
theorem dL_addJob_4 : decode cL_addJob 4 = .ok (.invokevirtual 9, 3) := by decide +kernel
theorem dL_addJob_7 : decode cL_addJob 7 = .ok (.ireturn, 1) := by decide +kernel
theorem dL_addJob_8 : decode cL_addJob 8 = .ok (.astore 4, 2) := by decide +kernel
theorem dL_addJob_10 : decode cL_addJob 10 = .ok (.bipush (-102), 2) := by decide +kernel
theorem dL_addJob_12 : decode cL_addJob 12 = .ok (.ireturn, 1) := by decide +kernel
theorem dL_addJob_13 : decode cL_addJob 13 = .ok (.astore 4, 2) := by decide +kernel
theorem dL_addJob_15 : decode cL_addJob 15 = .ok (.bipush (-103), 2) := by decide +kernel
theorem dL_addJob_17 : decode cL_addJob 17 = .ok (.ireturn, 1) := by decide +kernel
set_option maxRecDepth 20000 in
theorem ggL_setTime_X6_setTime : GoodIn wsL_setTime wsX6_setTime := goodIn_ca (goodIn_ca (goodIn_ca (goodIn_r _ [8, 9, 10, 11, 12, 13, 14, 15, 16, 17, 7, 18, 19, 20, 21, 22, 23, 24, 25, 26, 27, 28, 29, 30, 31, 32, 33, 34, 35, 36, 37, 38, 39, 40, 41, 42, 43, 44, 45, 46, 47, 48, 49, 50, 51, 52, 53] (by decide +kernel) (by decide +kernel)) (goodIn_sub (fun _ h => List.mem_cons_of_mem _ (List.mem_append_left _ (List.mem_append_left _ (List.mem_append_right _ h)))) (by decide +kernel))) (goodIn_sub (fun _ h => List.mem_cons_of_mem _ (List.mem_append_left _ (List.mem_append_right _ h))) (by decide +kernel))) (goodIn_sub (fun _ h => List.mem_cons_of_mem _ (List.mem_append_right _ h)) (by decide +kernel))
set_option maxRecDepth 20000 in
theorem gL_setTime_X6_setTime : GoodIn wsL_setTime (wsV RL 19 RX6 yX6_setTime wsX6_setTime) := goodIn_app (goodIn_of _ (by decide +kernel)) ggL_setTime_X6_setTime
theorem dL_setTime_0 : decode cL_setTime 0 = .ok (.aload_n 0, 1) := by decide +kernel
theorem dL_setTime_1 : decode cL_setTime 1 = .ok (.iload_n 1, 1) := by decide +kernel
theorem dL_setTime_2 : decode cL_setTime 2 = .ok (.iload_n 2, 1) := by decide +kernel
theorem dL_setTime_3 : decode cL_setTime 3 = .ok (.iload_n 3, 1) := by decide +kernel
theorem dL_setTime_4 : decode cL_setTime 4 = .ok (.invokevirtual 19, 3) := by decide +kernel
theorem dL_setTime_7 : decode cL_setTime 7 = .ok (.ireturn, 1) := by decide +kernel
theorem dL_setTime_8 : decode cL_setTime 8 = .ok (.astore 4, 2) := by decide +kernel
theorem dL_setTime_10 : decode cL_setTime 10 = .ok (.bipush (-101), 2) := by decide +kernel
theorem dL_setTime_12 : decode cL_setTime 12 = .ok (.ireturn, 1) := by decide +kernel
theorem dL_setTime_13 : decode cL_setTime 13 = .ok (.astore 4, 2) := by decide +kernel
theorem dL_setTime_15 : decode cL_setTime 15 = .ok (.bipush (-102), 2) := by decide +kernel
theorem dL_setTime_17 : decode cL_setTime 17 = .ok (.ireturn, 1) := by decide +kernel
theorem dL_setTime_18 : decode cL_setTime 18 = .ok (.astore 4, 2) := by decide +kernel
theorem dL_setTime_20 : decode cL_setTime 20 = .ok (.bipush (-103), 2) := by decide +kernel
theorem dL_setTime_22 : decode cL_setTime 22 = .ok (.ireturn, 1) := by decide +kernel
set_option maxRecDepth 20000 in
theorem ggL_time_X6_time : GoodIn wsL_time wsX6_time := goodIn_ca (goodIn_r _ [6, 7, 8, 9, 10, 5, 11, 12, 13, 14, 15, 16, 17, 18, 19, 20, 21, 22, 23, 24, 25, 26, 27, 28, 29, 30, 31, 32] (by decide +kernel) (by decide +kernel)) (goodIn_sub (fun _ h => List.mem_cons_of_mem _ (List.mem_append_right _ h)) (by decide +kernel))
set_option maxRecDepth 20000 in
theorem gL_time_X6_time : GoodIn wsL_time (wsV RL 24 RX6 yX6_time wsX6_time) := goodIn_app (goodIn_of _ (by decide +kernel)) ggL_time_X6_time
theorem dL_time_0 : decode cL_time 0 = .ok (.aload_n 0, 1) := by decide +kernel
theorem dL_time_1 : decode cL_time 1 = .ok (.iload_n 1, 1) := by decide +kernel
theorem dL_time_2 : decode cL_time 2 = .ok (.iload_n 2, 1) := by decide +kernel
theorem dL_time_3 : decode cL_time 3 = .ok (.invokevirtual 24, 3) := by decide +kernel
theorem dL_time_6 : decode cL_time 6 = .ok (.ireturn, 1) := by decide +kernel
theorem dL_time_7 : decode cL_time 7 = .ok (.astore_n 3, 1) := by decide +kernel
theorem dL_time_8 : decode cL_time 8 = .ok (.bipush (-101), 2) := by decide +kernel
theorem dL_time_10 : decode cL_time 10 = .ok (.ireturn, 1) := by decide +kernel
set_option maxRecDepth 20000 in
theorem ggL_shortestOn_X6_shortestMachine : GoodIn wsL_shortestOn wsX6_shortestMachine := goodIn_ca (goodIn_r _ [6, 7, 8, 9, 10, 5, 11, 12, 13, 14, 15, 16, 17, 18, 19, 20, 21, 22, 23, 24, 25, 26, 27, 28, 29, 30, 31, 32, 33, 34, 35, 36, 37, 38, 39, 40, 41, 42, 43, 44, 45, 46, 47, 48, 49, 50, 51, 52, 53, 54, 55, 56, 57, 58, 59, 60, 61, 62, 63, 64, 65, 66, 67] (by decide +kernel) (by decide +kernel)) (goodIn_sub (fun _ h => List.mem_cons_of_mem _ (List.mem_append_right _ h)) (by decide +kernel))
set_option maxRecDepth 20000 in
theorem gL_shortestOn_X6_shortestMachine : GoodIn wsL_shortestOn (wsV RL 28 RX6 yX6_shortestMachine wsX6_shortestMachine) := goodIn_app (goodIn_of _ (by decide +kernel)) ggL_shortestOn_X6_shortestMachine
theorem dL_shortestOn_0 : decode cL_shortestOn 0 = .ok (.aload_n 0, 1) := by decide +kernel
theorem dL_shortestOn_1 : decode cL_shortestOn 1 = .ok (.iload_n 1, 1) := by decide +kernel
theorem dL_shortestOn_2 : decode cL_shortestOn 2 = .ok (.invokevirtual 28, 3) := by decide +kernel
theorem dL_shortestOn_5 : decode cL_shortestOn 5 = .ok (.ireturn, 1) := by decide +kernel
theorem dL_shortestOn_6 : decode cL_shortestOn 6 = .ok (.astore_n 2, 1) := by decide +kernel
theorem dL_shortestOn_7 : decode cL_shortestOn 7 = .ok (.bipush (-101), 2) := by decide +kernel
theorem dL_shortestOn_9 : decode cL_shortestOn 9 = .ok (.ireturn, 1) := by decide +kernel
set_option maxRecDepth 20000 in
theorem ggL_numerator_X6_numerator : GoodIn wsL_numerator wsX6_numerator := goodIn_ca (goodIn_r _ [6, 7, 8, 9, 10, 5, 11, 12, 13, 14, 15, 16, 17, 18, 19, 20, 21, 22, 23, 24, 25, 26, 27, 28, 29, 30, 31, 32, 33, 34, 35, 36, 37, 38, 39, 40, 41, 42, 43, 44, 45, 46, 47, 48, 49, 50, 51, 52, 53, 54, 55, 56, 57, 58, 59, 60, 61, 62, 63, 64, 65, 66, 67, 68, 69, 70, 71, 72, 73, 74, 75, 76, 77, 78, 79, 80, 81, 82, 83, 84, 85, 86, 87, 88, 89, 90, 91, 92, 93, 94, 95, 96, 97, 98, 99, 100, 101, 102, 103, 104, 105, 106, 107, 108, 109, 110, 111, 112, 113, 114, 115, 116, 117, 118, 119, 120, 121, 122, 123, 124, 125, 126, 127, 128, 129, 130, 131, 132, 133, 134, 135, 136, 137, 138, 139, 140, 141, 142, 143, 144, 145, 146, 147, 148, 149, 150, 151, 152, 153, 154, 155, 156, 157, 158, 159, 160] (by decide +kernel) (by decide +kernel)) (goodIn_sub (fun _ h => List.mem_cons_of_mem _ (List.mem_append_right _ h)) (by decide +kernel))
set_option maxRecDepth 20000 in
theorem gL_numerator_X6_numerator : GoodIn wsL_numerator (wsV RL 32 RX6 yX6_numerator wsX6_numerator) := goodIn_app (goodIn_of _ (by decide +kernel)) ggL_numerator_X6_numerator
theorem dL_numerator_0 : decode cL_numerator 0 = .ok (.aload_n 0, 1) := by decide +kernel
theorem dL_numerator_1 : decode cL_numerator 1 = .ok (.iload_n 1, 1) := by decide +kernel
theorem dL_numerator_2 : decode cL_numerator 2 = .ok (.iload_n 2, 1) := by decide +kernel
theorem dL_numerator_3 : decode cL_numerator 3 = .ok (.invokevirtual 32, 3) := by decide +kernel
theorem dL_numerator_6 : decode cL_numerator 6 = .ok (.ireturn, 1) := by decide +kernel
theorem dL_numerator_7 : decode cL_numerator 7 = .ok (.astore_n 3, 1) := by decide +kernel
theorem dL_numerator_8 : decode cL_numerator 8 = .ok (.bipush (-101), 2) := by decide +kernel
theorem dL_numerator_10 : decode cL_numerator 10 = .ok (.ireturn, 1) := by decide +kernel
set_option maxRecDepth 20000 in
theorem ggL_denominator_X6_denominator : GoodIn wsL_denominator wsX6_denominator := goodIn_ca (goodIn_r _ [6, 7, 8, 9, 10, 5, 11, 12, 13, 14, 15, 16, 17, 18, 19, 20, 21, 22, 23, 24, 25, 26, 27, 28, 29, 30, 31, 32, 33, 34, 35, 36, 37, 38, 39, 40, 41, 42, 43, 44, 45, 46, 47, 48, 49, 50, 51, 52, 53, 54, 55, 56, 57, 58, 59, 60, 61, 62, 63, 64, 65, 66, 67, 68, 69, 70, 71, 72, 73, 74, 75, 76, 77, 78, 79, 80, 81, 82, 83, 84, 85, 86, 87, 88, 89, 90, 91, 92, 93, 94, 95, 96, 97, 98, 99, 100, 101, 102, 103, 104, 105, 106, 107, 108, 109, 110, 111, 112, 113, 114, 115, 116, 117, 118, 119, 120, 121, 122, 123, 124, 125, 126, 127, 128, 129, 130, 131, 132, 133, 134, 135, 136, 137, 138, 139, 140, 141, 142, 143, 144, 145, 146, 147, 148, 149, 150, 151, 152, 153, 154, 155, 156, 157, 158, 159, 160] (by decide +kernel) (by decide +kernel)) (goodIn_sub (fun _ h => List.mem_cons_of_mem _ (List.mem_append_right _ h)) (by decide +kernel))
set_option maxRecDepth 20000 in
theorem gL_denominator_X6_denominator : GoodIn wsL_denominator (wsV RL 35 RX6 yX6_denominator wsX6_denominator) := goodIn_app (goodIn_of _ (by decide +kernel)) ggL_denominator_X6_denominator
theorem dL_denominator_0 : decode cL_denominator 0 = .ok (.aload_n 0, 1) := by decide +kernel
theorem dL_denominator_1 : decode cL_denominator 1 = .ok (.iload_n 1, 1) := by decide +kernel
theorem dL_denominator_2 : decode cL_denominator 2 = .ok (.iload_n 2, 1) := by decide +kernel
theorem dL_denominator_3 : decode cL_denominator 3 = .ok (.invokevirtual 35, 3) := by decide +kernel
theorem dL_denominator_6 : decode cL_denominator 6 = .ok (.ireturn, 1) := by decide +kernel
theorem dL_denominator_7 : decode cL_denominator 7 = .ok (.astore_n 3, 1) := by decide +kernel
theorem dL_denominator_8 : decode cL_denominator 8 = .ok (.bipush (-101), 2) := by decide +kernel
theorem dL_denominator_10 : decode cL_denominator 10 = .ok (.ireturn, 1) := by decide +kernel
set_option maxRecDepth 20000 in
theorem ggL_divided_X6_isDivided : GoodIn wsL_divided wsX6_isDivided := goodIn_ca (goodIn_r _ [6, 7, 8, 9, 10, 5, 11, 12, 13, 14, 15, 16, 17, 18, 19, 20, 21, 22, 23, 24, 25, 26, 27, 28, 29, 30, 31, 32, 33, 34, 35, 36, 37, 38, 39, 40, 41, 42, 43, 44, 45, 46, 47, 48, 49, 50, 51, 52, 53, 54, 55, 56, 57, 58, 59, 60, 61, 62, 63, 64, 65, 66, 67, 68, 69, 70, 71, 72, 73, 74, 75, 76, 77, 78, 79, 80, 81, 82, 83, 84, 85, 86, 87, 88, 89, 90, 91, 92, 93, 94, 95, 96, 97, 98, 99, 100, 101, 102, 103, 104, 105, 106, 107, 108, 109, 110, 111, 112, 113, 114, 115, 116, 117, 118, 119, 120, 121, 122, 123, 124, 125, 126, 127, 128, 129, 130, 131, 132, 133, 134, 135, 136, 137, 138, 139, 140, 141, 142, 143, 144, 145, 146, 147, 148, 149, 150, 151, 152, 153, 154, 155, 156, 157, 158] (by decide +kernel) (by decide +kernel)) (goodIn_sub (fun _ h => List.mem_cons_of_mem _ (List.mem_append_right _ h)) (by decide +kernel))
set_option maxRecDepth 20000 in
theorem gL_divided_X6_isDivided : GoodIn wsL_divided (wsV RL 38 RX6 yX6_isDivided wsX6_isDivided) := goodIn_app (goodIn_of _ (by decide +kernel)) ggL_divided_X6_isDivided
theorem dL_divided_0 : decode cL_divided 0 = .ok (.aload_n 0, 1) := by decide +kernel
theorem dL_divided_1 : decode cL_divided 1 = .ok (.iload_n 1, 1) := by decide +kernel
theorem dL_divided_2 : decode cL_divided 2 = .ok (.invokevirtual 38, 3) := by decide +kernel
theorem dL_divided_5 : decode cL_divided 5 = .ok (.ifCond .eq 7, 3) := by decide +kernel
theorem dL_divided_8 : decode cL_divided 8 = .ok (.iconst 1, 1) := by decide +kernel
theorem dL_divided_9 : decode cL_divided 9 = .ok (.goto 4, 3) := by decide +kernel
theorem dL_divided_12 : decode cL_divided 12 = .ok (.iconst 0, 1) := by decide +kernel
theorem dL_divided_13 : decode cL_divided 13 = .ok (.ireturn, 1) := by decide +kernel
theorem dL_divided_14 : decode cL_divided 14 = .ok (.astore_n 2, 1) := by decide +kernel
theorem dL_divided_15 : decode cL_divided 15 = .ok (.bipush (-101), 2) := by decide +kernel
theorem dL_divided_17 : decode cL_divided 17 = .ok (.ireturn, 1) := by decide +kernel
set_option maxRecDepth 20000 in
theorem ggL_roundedOn_X6_roundedMachine : GoodIn wsL_roundedOn wsX6_roundedMachine := goodIn_ca (goodIn_r _ [6, 7, 8, 9, 10, 5, 11, 12, 13, 14, 15, 16, 17, 18, 19, 20, 21, 22, 23, 24, 25, 26, 27, 28, 29, 30, 31, 32, 33, 34, 35, 36, 37, 38, 39, 40, 41, 42, 43, 44, 45, 46, 47, 48, 49, 50, 51, 52, 53, 54, 55, 56, 57, 58, 59, 60, 61, 62, 63, 64, 65, 66, 67, 68, 69, 70, 71, 72, 73, 74, 75, 76, 77, 78, 79, 80, 81, 82, 83, 84, 85, 86, 87, 88, 89, 90, 91, 92, 93, 94, 95, 96, 97, 98, 99, 100, 101, 102, 103, 104, 105, 106, 107, 108, 109, 110, 111, 112, 113, 114, 115, 116, 117, 118, 119, 120, 121, 122, 123, 124, 125, 126, 127, 128, 129, 130, 131, 132, 133, 134, 135, 136, 137, 138, 139, 140, 141, 142, 143, 144, 145, 146, 147, 148, 149, 150, 151, 152, 153, 154, 155, 156, 157] (by decide +kernel) (by decide +kernel)) (goodIn_sub (fun _ h => List.mem_cons_of_mem _ (List.mem_append_right _ h)) (by decide +kernel))
set_option maxRecDepth 20000 in
theorem gL_roundedOn_X6_roundedMachine : GoodIn wsL_roundedOn (wsV RL 42 RX6 yX6_roundedMachine wsX6_roundedMachine) := goodIn_app (goodIn_of _ (by decide +kernel)) ggL_roundedOn_X6_roundedMachine
theorem dL_roundedOn_0 : decode cL_roundedOn 0 = .ok (.aload_n 0, 1) := by decide +kernel
theorem dL_roundedOn_1 : decode cL_roundedOn 1 = .ok (.iload_n 1, 1) := by decide +kernel
theorem dL_roundedOn_2 : decode cL_roundedOn 2 = .ok (.invokevirtual 42, 3) := by decide +kernel
theorem dL_roundedOn_5 : decode cL_roundedOn 5 = .ok (.ireturn, 1) := by decide +kernel
theorem dL_roundedOn_6 : decode cL_roundedOn 6 = .ok (.astore_n 2, 1) := by decide +kernel
theorem dL_roundedOn_7 : decode cL_roundedOn 7 = .ok (.bipush (-101), 2) := by decide +kernel
theorem dL_roundedOn_9 : decode cL_roundedOn 9 = .ok (.ireturn, 1) := by decide +kernel
set_option maxRecDepth 20000 in
theorem ggL_assign_X6_assign : GoodIn wsL_assign wsX6_assign := goodIn_ca (goodIn_ca (goodIn_r _ [7, 8, 9, 10, 11, 12, 13, 14, 6, 15, 16, 17, 18, 19, 20, 21, 22, 23, 24, 25, 26, 27, 28, 29, 30, 31, 32, 33, 34, 35, 36, 37, 38, 39, 40, 41] (by decide +kernel) (by decide +kernel)) (goodIn_sub (fun _ h => List.mem_cons_of_mem _ (List.mem_append_left _ (List.mem_append_right _ h))) (by decide +kernel))) (goodIn_sub (fun _ h => List.mem_cons_of_mem _ (List.mem_append_right _ h)) (by decide +kernel))
set_option maxRecDepth 20000 in
theorem gL_assign_X6_assign : GoodIn wsL_assign (wsV RL 45 RX6 yX6_assign wsX6_assign) := goodIn_app (goodIn_of _ (by decide +kernel)) ggL_assign_X6_assign
theorem dL_assign_0 : decode cL_assign 0 = .ok (.aload_n 0, 1) := by decide +kernel
theorem dL_assign_1 : decode cL_assign 1 = .ok (.iload_n 1, 1) := by decide +kernel
theorem dL_assign_2 : decode cL_assign 2 = .ok (.iload_n 2, 1) := by decide +kernel
theorem dL_assign_3 : decode cL_assign 3 = .ok (.invokevirtual 45, 3) := by decide +kernel
theorem dL_assign_6 : decode cL_assign 6 = .ok (.ireturn, 1) := by decide +kernel
theorem dL_assign_7 : decode cL_assign 7 = .ok (.astore_n 3, 1) := by decide +kernel
theorem dL_assign_8 : decode cL_assign 8 = .ok (.bipush (-101), 2) := by decide +kernel
theorem dL_assign_10 : decode cL_assign 10 = .ok (.ireturn, 1) := by decide +kernel
theorem dL_assign_11 : decode cL_assign 11 = .ok (.astore_n 3, 1) := by decide +kernel
theorem dL_assign_12 : decode cL_assign 12 = .ok (.bipush (-103), 2) := by decide +kernel
theorem dL_assign_14 : decode cL_assign 14 = .ok (.ireturn, 1) := by decide +kernel
set_option maxRecDepth 20000 in
theorem ggL_machine_X6_machine : GoodIn wsL_machine wsX6_machine := goodIn_ca (goodIn_r _ [6, 7, 8, 9, 10, 5, 11, 12, 13, 14, 15, 16, 17, 18, 19, 20, 21, 22, 23, 24, 25, 26, 27, 28] (by decide +kernel) (by decide +kernel)) (goodIn_sub (fun _ h => List.mem_cons_of_mem _ (List.mem_append_right _ h)) (by decide +kernel))
set_option maxRecDepth 20000 in
theorem gL_machine_X6_machine : GoodIn wsL_machine (wsV RL 48 RX6 yX6_machine wsX6_machine) := goodIn_app (goodIn_of _ (by decide +kernel)) ggL_machine_X6_machine
theorem dL_machine_0 : decode cL_machine 0 = .ok (.aload_n 0, 1) := by decide +kernel
theorem dL_machine_1 : decode cL_machine 1 = .ok (.iload_n 1, 1) := by decide +kernel
theorem dL_machine_2 : decode cL_machine 2 = .ok (.invokevirtual 48, 3) := by decide +kernel
theorem dL_machine_5 : decode cL_machine 5 = .ok (.ireturn, 1) := by decide +kernel
theorem dL_machine_6 : decode cL_machine 6 = .ok (.astore_n 2, 1) := by decide +kernel
theorem dL_machine_7 : decode cL_machine 7 = .ok (.bipush (-101), 2) := by decide +kernel
theorem dL_machine_9 : decode cL_machine 9 = .ok (.ireturn, 1) := by decide +kernel
set_option maxRecDepth 20000 in
theorem ggL_load_X6_load : GoodIn wsL_load wsX6_load := goodIn_ca (goodIn_r _ [6, 7, 8, 9, 10, 5, 11, 12, 13, 14, 15, 16, 17, 18, 19, 20, 21, 22, 23, 24, 25, 26, 27, 28, 29, 30, 31, 32, 33, 34, 35, 36, 37, 38] (by decide +kernel) (by decide +kernel)) (goodIn_sub (fun _ h => List.mem_cons_of_mem _ (List.mem_append_right _ h)) (by decide +kernel))
set_option maxRecDepth 20000 in
theorem gL_load_X6_load : GoodIn wsL_load (wsV RL 51 RX6 yX6_load wsX6_load) := goodIn_app (goodIn_of _ (by decide +kernel)) ggL_load_X6_load
theorem dL_load_0 : decode cL_load 0 = .ok (.aload_n 0, 1) := by decide +kernel
theorem dL_load_1 : decode cL_load 1 = .ok (.iload_n 1, 1) := by decide +kernel
theorem dL_load_2 : decode cL_load 2 = .ok (.invokevirtual 51, 3) := by decide +kernel
theorem dL_load_5 : decode cL_load 5 = .ok (.ireturn, 1) := by decide +kernel
theorem dL_load_6 : decode cL_load 6 = .ok (.astore_n 2, 1) := by decide +kernel
theorem dL_load_7 : decode cL_load 7 = .ok (.bipush (-101), 2) := by decide +kernel
theorem dL_load_9 : decode cL_load 9 = .ok (.ireturn, 1) := by decide +kernel
theorem dL_common_0 : decode cL_common 0 = .ok (.lload_n 0, 1) := by decide +kernel
theorem dL_common_1 : decode cL_common 1 = .ok (.lstore 4, 2) := by decide +kernel
theorem dL_common_3 : decode cL_common 3 = .ok (.lload_n 2, 1) := by decide +kernel
theorem dL_common_4 : decode cL_common 4 = .ok (.lstore 6, 2) := by decide +kernel
theorem dL_common_6 : decode cL_common 6 = .ok (.lload 6, 2) := by decide +kernel
theorem dL_common_8 : decode cL_common 8 = .ok (.lconst 0, 1) := by decide +kernel
theorem dL_common_9 : decode cL_common 9 = .ok (.lcmp, 1) := by decide +kernel
theorem dL_common_10 : decode cL_common 10 = .ok (.ifCond .eq 21, 3) := by decide +kernel
theorem dL_common_13 : decode cL_common 13 = .ok (.lload 4, 2) := by decide +kernel
theorem dL_common_15 : decode cL_common 15 = .ok (.lload 6, 2) := by decide +kernel
theorem dL_common_17 : decode cL_common 17 = .ok (.lrem, 1) := by decide +kernel
theorem dL_common_18 : decode cL_common 18 = .ok (.lstore 8, 2) := by decide +kernel
theorem dL_common_20 : decode cL_common 20 = .ok (.lload 6, 2) := by decide +kernel
theorem dL_common_22 : decode cL_common 22 = .ok (.lstore 4, 2) := by decide +kernel
theorem dL_common_24 : decode cL_common 24 = .ok (.lload 8, 2) := by decide +kernel
theorem dL_common_26 : decode cL_common 26 = .ok (.lstore 6, 2) := by decide +kernel
theorem dL_common_28 : decode cL_common 28 = .ok (.goto (-22), 3) := by decide +kernel
theorem dL_common_31 : decode cL_common 31 = .ok (.lload 4, 2) := by decide +kernel
theorem dL_common_33 : decode cL_common 33 = .ok (.lconst 1, 1) := by decide +kernel
theorem dL_common_34 : decode cL_common 34 = .ok (.lcmp, 1) := by decide +kernel
theorem dL_common_35 : decode cL_common 35 = .ok (.ifCond .ge 7, 3) := by decide +kernel
theorem dL_common_38 : decode cL_common 38 = .ok (.lconst 1, 1) := by decide +kernel
theorem dL_common_39 : decode cL_common 39 = .ok (.goto 5, 3) := by decide +kernel
theorem dL_common_42 : decode cL_common 42 = .ok (.lload 4, 2) := by decide +kernel
theorem dL_common_44 : decode cL_common 44 = .ok (.lreturn, 1) := by decide +kernel
set_option maxRecDepth 20000 in
theorem ggL_isWithin_X6_jobs : GoodIn wsL_isWithin wsX6_jobs := goodIn_r _ [5, 6, 166, 167, 168, 169, 170, 171, 172, 173, 174] (by decide +kernel) (by decide +kernel)
set_option maxRecDepth 20000 in
theorem gL_isWithin_X6_jobs : GoodIn wsL_isWithin (wsV RL 54 RX6 yX6_jobs wsX6_jobs) := goodIn_app (goodIn_of _ (by decide +kernel)) ggL_isWithin_X6_jobs
set_option maxRecDepth 20000 in
theorem ggL_isWithin_L_numerator : GoodIn wsL_isWithin wsL_numerator := goodIn_ca (goodIn_r _ [10, 11, 12, 13, 14, 4, 15, 16, 17, 18, 19, 20, 21, 22, 6, 23, 24, 25, 26, 27, 28, 29, 30, 31, 32, 33, 34, 35, 36, 37, 38, 39, 40, 41, 42, 43, 44, 45, 46, 47, 48, 49, 50, 51, 52, 53, 54, 55, 56, 57, 58, 59, 60, 61, 62, 63, 64, 65, 66, 67, 68, 69, 70, 71, 72, 73, 74, 75, 76, 77, 78, 79, 80, 81, 82, 83, 84, 85, 86, 87, 88, 89, 90, 91, 92, 93, 94, 95, 96, 97, 98, 99, 100, 101, 102, 103, 104, 105, 106, 107, 108, 109, 110, 111, 112, 113, 114, 115, 116, 117, 118, 119, 120, 121, 122, 123, 124, 125, 126, 127, 128, 129, 130, 131, 132, 133, 134, 135, 136, 137, 138, 139, 140, 141, 142, 143, 144, 145, 146, 147, 166, 167, 168, 169, 170, 171, 172, 175, 176, 177, 178, 179, 180, 173, 174, 181, 182, 183, 184, 185, 186] (by decide +kernel) (by decide +kernel)) (goodIn_sub (fun _ h => List.mem_cons_of_mem _ (List.mem_append_right _ h)) (by decide +kernel))
set_option maxRecDepth 20000 in
theorem gL_isWithin_L_numerator : GoodIn wsL_isWithin (va_wsS RL 58 yL_numerator wsL_numerator) := goodIn_app (goodIn_of _ (by decide +kernel)) ggL_isWithin_L_numerator
set_option maxRecDepth 20000 in
theorem ggL_isWithin_L_denominator : GoodIn wsL_isWithin wsL_denominator := goodIn_ca (goodIn_r _ [150, 11, 151, 152, 153, 4, 154, 16, 17, 18, 19, 20, 21, 22, 6, 23, 24, 25, 26, 27, 28, 29, 30, 31, 32, 33, 34, 35, 36, 37, 38, 39, 40, 41, 42, 43, 44, 45, 46, 47, 48, 49, 50, 51, 52, 53, 54, 55, 56, 57, 58, 59, 60, 61, 62, 63, 64, 65, 66, 67, 68, 69, 70, 71, 72, 73, 74, 75, 76, 77, 78, 79, 80, 81, 82, 83, 84, 85, 86, 87, 88, 89, 90, 91, 92, 93, 94, 95, 96, 97, 98, 99, 100, 101, 102, 103, 104, 105, 106, 107, 108, 109, 110, 111, 112, 113, 114, 115, 116, 117, 118, 119, 120, 121, 122, 123, 124, 125, 126, 127, 128, 129, 130, 131, 132, 133, 134, 135, 136, 137, 138, 139, 140, 141, 142, 143, 144, 145, 146, 147, 166, 167, 168, 169, 170, 171, 172, 175, 176, 177, 178, 179, 180, 173, 174, 181, 182, 183, 184, 185, 186] (by decide +kernel) (by decide +kernel)) (goodIn_sub (fun _ h => List.mem_cons_of_mem _ (List.mem_append_right _ h)) (by decide +kernel))
set_option maxRecDepth 20000 in
theorem gL_isWithin_L_denominator : GoodIn wsL_isWithin (va_wsS RL 63 yL_denominator wsL_denominator) := goodIn_app (goodIn_of _ (by decide +kernel)) ggL_isWithin_L_denominator
set_option maxRecDepth 20000 in
theorem ggL_isWithin_L_time : GoodIn wsL_isWithin wsL_time := goodIn_ca (goodIn_r _ [157, 11, 158, 159, 160, 4, 161, 6, 17, 18, 19, 20, 21, 22, 23, 24, 25, 162, 69, 70, 71, 72, 73, 74, 166, 167, 168, 169, 170, 171, 172, 173, 174] (by decide +kernel) (by decide +kernel)) (goodIn_sub (fun _ h => List.mem_cons_of_mem _ (List.mem_append_right _ h)) (by decide +kernel))
set_option maxRecDepth 20000 in
theorem gL_isWithin_L_time : GoodIn wsL_isWithin (va_wsS RL 65 yL_time wsL_time) := goodIn_app (goodIn_of _ (by decide +kernel)) ggL_isWithin_L_time
set_option maxRecDepth 20000 in
theorem ggL_isWithin_L_common : GoodIn wsL_isWithin wsL_common := goodIn_r _ [165] (by decide +kernel) (by decide +kernel)
set_option maxRecDepth 20000 in
theorem gL_isWithin_L_common : GoodIn wsL_isWithin (va_wsS RL 67 yL_common wsL_common) := goodIn_app (goodIn_of _ (by decide +kernel)) ggL_isWithin_L_common
theorem dL_isWithin_0 : decode cL_isWithin 0 = .ok (.lconst 0, 1) := by decide +kernel
theorem dL_isWithin_1 : decode cL_isWithin 1 = .ok (.lstore_n 3, 1) := by decide +kernel
theorem dL_isWithin_2 : decode cL_isWithin 2 = .ok (.lconst 1, 1) := by decide +kernel
theorem dL_isWithin_3 : decode cL_isWithin 3 = .ok (.lstore 5, 2) := by decide +kernel
theorem dL_isWithin_5 : decode cL_isWithin 5 = .ok (.iconst 0, 1) := by decide +kernel
theorem dL_isWithin_6 : decode cL_isWithin 6 = .ok (.istore 7, 2) := by decide +kernel
theorem dL_isWithin_8 : decode cL_isWithin 8 = .ok (.iload 7, 2) := by decide +kernel
theorem dL_isWithin_10 : decode cL_isWithin 10 = .ok (.aload_n 0, 1) := by decide +kernel
theorem dL_isWithin_11 : decode cL_isWithin 11 = .ok (.invokevirtual 54, 3) := by decide +kernel
theorem dL_isWithin_14 : decode cL_isWithin 14 = .ok (.if_icmp .ge 78, 3) := by decide +kernel
theorem dL_isWithin_17 : decode cL_isWithin 17 = .ok (.aload_n 0, 1) := by decide +kernel
theorem dL_isWithin_18 : decode cL_isWithin 18 = .ok (.iload 7, 2) := by decide +kernel
theorem dL_isWithin_20 : decode cL_isWithin 20 = .ok (.iload_n 1, 1) := by decide +kernel
theorem dL_isWithin_21 : decode cL_isWithin 21 = .ok (.invokestatic 58, 3) := by decide +kernel
theorem dL_isWithin_24 : decode cL_isWithin 24 = .ok (.i2l, 1) := by decide +kernel
theorem dL_isWithin_25 : decode cL_isWithin 25 = .ok (.lstore 8, 2) := by decide +kernel
theorem dL_isWithin_27 : decode cL_isWithin 27 = .ok (.aload_n 0, 1) := by decide +kernel
theorem dL_isWithin_28 : decode cL_isWithin 28 = .ok (.iload 7, 2) := by decide +kernel
theorem dL_isWithin_30 : decode cL_isWithin 30 = .ok (.iload_n 1, 1) := by decide +kernel
theorem dL_isWithin_31 : decode cL_isWithin 31 = .ok (.invokestatic 63, 3) := by decide +kernel
theorem dL_isWithin_34 : decode cL_isWithin 34 = .ok (.i2l, 1) := by decide +kernel
theorem dL_isWithin_35 : decode cL_isWithin 35 = .ok (.lstore 10, 2) := by decide +kernel
theorem dL_isWithin_37 : decode cL_isWithin 37 = .ok (.lload_n 3, 1) := by decide +kernel
theorem dL_isWithin_38 : decode cL_isWithin 38 = .ok (.lload 10, 2) := by decide +kernel
theorem dL_isWithin_40 : decode cL_isWithin 40 = .ok (.lmul, 1) := by decide +kernel
theorem dL_isWithin_41 : decode cL_isWithin 41 = .ok (.lload 8, 2) := by decide +kernel
theorem dL_isWithin_43 : decode cL_isWithin 43 = .ok (.aload_n 0, 1) := by decide +kernel
theorem dL_isWithin_44 : decode cL_isWithin 44 = .ok (.iload 7, 2) := by decide +kernel
theorem dL_isWithin_46 : decode cL_isWithin 46 = .ok (.iload_n 1, 1) := by decide +kernel
theorem dL_isWithin_47 : decode cL_isWithin 47 = .ok (.invokestatic 65, 3) := by decide +kernel
theorem dL_isWithin_50 : decode cL_isWithin 50 = .ok (.i2l, 1) := by decide +kernel
theorem dL_isWithin_51 : decode cL_isWithin 51 = .ok (.lmul, 1) := by decide +kernel
theorem dL_isWithin_52 : decode cL_isWithin 52 = .ok (.lload 5, 2) := by decide +kernel
theorem dL_isWithin_54 : decode cL_isWithin 54 = .ok (.lmul, 1) := by decide +kernel
theorem dL_isWithin_55 : decode cL_isWithin 55 = .ok (.ladd, 1) := by decide +kernel
theorem dL_isWithin_56 : decode cL_isWithin 56 = .ok (.lstore 12, 2) := by decide +kernel
theorem dL_isWithin_58 : decode cL_isWithin 58 = .ok (.lload 12, 2) := by decide +kernel
theorem dL_isWithin_60 : decode cL_isWithin 60 = .ok (.lload 5, 2) := by decide +kernel
theorem dL_isWithin_62 : decode cL_isWithin 62 = .ok (.lload 10, 2) := by decide +kernel
theorem dL_isWithin_64 : decode cL_isWithin 64 = .ok (.lmul, 1) := by decide +kernel
theorem dL_isWithin_65 : decode cL_isWithin 65 = .ok (.invokestatic 67, 3) := by decide +kernel
theorem dL_isWithin_68 : decode cL_isWithin 68 = .ok (.lstore 14, 2) := by decide +kernel
theorem dL_isWithin_70 : decode cL_isWithin 70 = .ok (.lload 12, 2) := by decide +kernel
theorem dL_isWithin_72 : decode cL_isWithin 72 = .ok (.lload 14, 2) := by decide +kernel
theorem dL_isWithin_74 : decode cL_isWithin 74 = .ok (.ldiv, 1) := by decide +kernel
theorem dL_isWithin_75 : decode cL_isWithin 75 = .ok (.lstore_n 3, 1) := by decide +kernel
theorem dL_isWithin_76 : decode cL_isWithin 76 = .ok (.lload 5, 2) := by decide +kernel
theorem dL_isWithin_78 : decode cL_isWithin 78 = .ok (.lload 10, 2) := by decide +kernel
theorem dL_isWithin_80 : decode cL_isWithin 80 = .ok (.lmul, 1) := by decide +kernel
theorem dL_isWithin_81 : decode cL_isWithin 81 = .ok (.lload 14, 2) := by decide +kernel
theorem dL_isWithin_83 : decode cL_isWithin 83 = .ok (.ldiv, 1) := by decide +kernel
theorem dL_isWithin_84 : decode cL_isWithin 84 = .ok (.lstore 5, 2) := by decide +kernel
theorem dL_isWithin_86 : decode cL_isWithin 86 = .ok (.iinc 7 1, 3) := by decide +kernel
theorem dL_isWithin_89 : decode cL_isWithin 89 = .ok (.goto (-81), 3) := by decide +kernel
theorem dL_isWithin_92 : decode cL_isWithin 92 = .ok (.lload_n 3, 1) := by decide +kernel
theorem dL_isWithin_93 : decode cL_isWithin 93 = .ok (.iload_n 2, 1) := by decide +kernel
theorem dL_isWithin_94 : decode cL_isWithin 94 = .ok (.i2l, 1) := by decide +kernel
theorem dL_isWithin_95 : decode cL_isWithin 95 = .ok (.lload 5, 2) := by decide +kernel
theorem dL_isWithin_97 : decode cL_isWithin 97 = .ok (.lmul, 1) := by decide +kernel
theorem dL_isWithin_98 : decode cL_isWithin 98 = .ok (.lcmp, 1) := by decide +kernel
theorem dL_isWithin_99 : decode cL_isWithin 99 = .ok (.ifCond .gt 7, 3) := by decide +kernel
theorem dL_isWithin_102 : decode cL_isWithin 102 = .ok (.iconst 1, 1) := by decide +kernel
theorem dL_isWithin_103 : decode cL_isWithin 103 = .ok (.goto 4, 3) := by decide +kernel
theorem dL_isWithin_106 : decode cL_isWithin 106 = .ok (.iconst 0, 1) := by decide +kernel
theorem dL_isWithin_107 : decode cL_isWithin 107 = .ok (.ireturn, 1) := by decide +kernel
set_option maxRecDepth 20000 in
theorem ggL_divides_X6_bound : GoodIn wsL_divides wsX6_bound := goodIn_r _ [5, 6, 7, 8, 9, 4, 10, 11, 12, 13, 14, 15, 16, 17, 18, 19, 20, 21, 22, 23, 24, 25, 26, 27, 28, 29, 30, 31, 32, 33, 34, 35, 36, 37, 38, 39, 40, 41, 42, 43, 44, 45, 46, 47, 48, 49, 50, 51, 52, 53, 54, 55, 56, 57, 58, 59, 60, 61, 62, 63, 64, 65, 66, 67, 68, 69, 70, 71, 72, 73, 74, 75, 76, 77, 78, 79, 80, 81, 82, 83, 84, 85, 86, 87, 88, 89, 90, 91, 92, 93, 94, 95, 96, 97, 98, 99, 100, 101, 102, 103, 104, 105, 106, 107, 108, 109, 110, 111, 112, 113, 114, 115, 116, 117, 118, 119, 120, 121, 122, 123, 124, 125, 126, 127, 128, 129, 196, 197, 198, 199, 200, 201, 202, 203, 204, 205, 206, 207, 208, 209, 210, 211, 212, 213, 214, 215, 216] (by decide +kernel) (by decide +kernel)
set_option maxRecDepth 20000 in
theorem gL_divides_X6_bound : GoodIn wsL_divides (wsV RL 71 RX6 yX6_bound wsX6_bound) := goodIn_app (goodIn_of _ (by decide +kernel)) ggL_divides_X6_bound
set_option maxRecDepth 20000 in
theorem ggL_divides_X6_jobs : GoodIn wsL_divides wsX6_jobs := goodIn_r _ [133, 12, 196, 197, 198, 199, 200, 201, 202, 214, 215] (by decide +kernel) (by decide +kernel)
set_option maxRecDepth 20000 in
theorem gL_divides_X6_jobs : GoodIn wsL_divides (wsV RL 54 RX6 yX6_jobs wsX6_jobs) := goodIn_app (goodIn_of _ (by decide +kernel)) ggL_divides_X6_jobs
set_option maxRecDepth 20000 in
theorem ggL_divides_L_numerator : GoodIn wsL_divides wsL_numerator := goodIn_ca (goodIn_r _ [137, 138, 139, 140, 141, 4, 142, 6, 143, 144, 145, 146, 147, 148, 12, 149, 150, 151, 7, 8, 9, 10, 11, 13, 14, 15, 16, 17, 18, 19, 20, 21, 22, 23, 24, 25, 26, 27, 28, 29, 30, 31, 32, 33, 34, 35, 36, 37, 38, 39, 40, 41, 42, 43, 44, 45, 46, 47, 48, 49, 50, 51, 52, 53, 54, 55, 56, 57, 58, 59, 60, 61, 62, 63, 64, 65, 66, 67, 68, 69, 70, 71, 72, 73, 74, 75, 76, 77, 78, 79, 80, 81, 82, 83, 84, 85, 86, 87, 88, 89, 90, 91, 92, 93, 94, 95, 96, 97, 98, 99, 100, 101, 102, 103, 104, 105, 106, 107, 108, 109, 110, 111, 112, 113, 114, 115, 116, 117, 118, 119, 120, 121, 122, 123, 124, 125, 126, 127, 128, 129, 196, 197, 198, 199, 200, 201, 202, 203, 204, 205, 206, 207, 208, 214, 215, 209, 210, 211, 212, 213, 216] (by decide +kernel) (by decide +kernel)) (goodIn_sub (fun _ h => List.mem_cons_of_mem _ (List.mem_append_right _ h)) (by decide +kernel))
set_option maxRecDepth 20000 in
theorem gL_divides_L_numerator : GoodIn wsL_divides (va_wsS RL 58 yL_numerator wsL_numerator) := goodIn_app (goodIn_of _ (by decide +kernel)) ggL_divides_L_numerator
set_option maxRecDepth 20000 in
theorem ggL_divides_L_denominator : GoodIn wsL_divides wsL_denominator := goodIn_ca (goodIn_r _ [154, 138, 155, 156, 157, 4, 158, 6, 143, 144, 145, 146, 147, 148, 12, 149, 150, 151, 7, 8, 9, 10, 11, 13, 14, 15, 16, 17, 18, 19, 20, 21, 22, 23, 24, 25, 26, 27, 28, 29, 30, 31, 32, 33, 34, 35, 36, 37, 38, 39, 40, 41, 42, 43, 44, 45, 46, 47, 48, 49, 50, 51, 52, 53, 54, 55, 56, 57, 58, 59, 60, 61, 62, 63, 64, 65, 66, 67, 68, 69, 70, 71, 72, 73, 74, 75, 76, 77, 78, 79, 80, 81, 82, 83, 84, 85, 86, 87, 88, 89, 90, 91, 92, 93, 94, 95, 96, 97, 98, 99, 100, 101, 102, 103, 104, 105, 106, 107, 108, 109, 110, 111, 112, 113, 114, 115, 116, 117, 118, 119, 120, 121, 122, 123, 124, 125, 126, 127, 128, 129, 196, 197, 198, 199, 200, 201, 202, 203, 204, 205, 206, 207, 208, 214, 215, 209, 210, 211, 212, 213, 216] (by decide +kernel) (by decide +kernel)) (goodIn_sub (fun _ h => List.mem_cons_of_mem _ (List.mem_append_right _ h)) (by decide +kernel))
set_option maxRecDepth 20000 in
theorem gL_divides_L_denominator : GoodIn wsL_divides (va_wsS RL 63 yL_denominator wsL_denominator) := goodIn_app (goodIn_of _ (by decide +kernel)) ggL_divides_L_denominator
set_option maxRecDepth 20000 in
theorem ggL_divides_L_time : GoodIn wsL_divides wsL_time := goodIn_ca (goodIn_r _ [161, 138, 162, 163, 164, 4, 165, 12, 143, 144, 145, 146, 147, 148, 149, 150, 151, 166, 51, 52, 53, 54, 55, 56, 196, 197, 198, 199, 200, 201, 202, 214, 215] (by decide +kernel) (by decide +kernel)) (goodIn_sub (fun _ h => List.mem_cons_of_mem _ (List.mem_append_right _ h)) (by decide +kernel))
set_option maxRecDepth 20000 in
theorem gL_divides_L_time : GoodIn wsL_divides (va_wsS RL 65 yL_time wsL_time) := goodIn_app (goodIn_of _ (by decide +kernel)) ggL_divides_L_time
set_option maxRecDepth 20000 in
theorem ggL_divides_L_common : GoodIn wsL_divides wsL_common := goodIn_r _ [169] (by decide +kernel) (by decide +kernel)
set_option maxRecDepth 20000 in
theorem gL_divides_L_common : GoodIn wsL_divides (va_wsS RL 67 yL_common wsL_common) := goodIn_app (goodIn_of _ (by decide +kernel)) ggL_divides_L_common
set_option maxRecDepth 20000 in
theorem ggL_divides_L_roundedOn : GoodIn wsL_divides wsL_roundedOn := goodIn_ca (goodIn_r _ [172, 138, 173, 174, 175, 4, 176, 13, 143, 144, 145, 146, 147, 148, 12, 7, 8, 9, 10, 11, 6, 14, 15, 16, 17, 18, 19, 20, 21, 22, 23, 24, 25, 26, 27, 28, 29, 30, 31, 32, 33, 34, 35, 36, 37, 38, 39, 40, 41, 42, 43, 44, 45, 46, 47, 48, 49, 50, 51, 52, 53, 54, 55, 56, 57, 58, 59, 60, 61, 62, 63, 64, 65, 66, 67, 68, 69, 70, 71, 72, 73, 74, 75, 76, 77, 78, 79, 80, 81, 82, 83, 84, 85, 86, 87, 88, 89, 90, 91, 92, 93, 94, 95, 96, 97, 98, 99, 100, 101, 102, 103, 104, 105, 106, 107, 108, 109, 110, 111, 112, 113, 114, 115, 116, 117, 118, 119, 120, 121, 122, 123, 124, 125, 126, 127, 128, 129, 196, 197, 198, 199, 200, 201, 202, 216, 214, 215, 203, 204, 205, 206, 207, 208, 209, 210, 211, 212, 213] (by decide +kernel) (by decide +kernel)) (goodIn_sub (fun _ h => List.mem_cons_of_mem _ (List.mem_append_right _ h)) (by decide +kernel))
set_option maxRecDepth 20000 in
theorem gL_divides_L_roundedOn : GoodIn wsL_divides (va_wsS RL 74 yL_roundedOn wsL_roundedOn) := goodIn_app (goodIn_of _ (by decide +kernel)) ggL_divides_L_roundedOn
set_option maxRecDepth 20000 in
theorem ggL_divides_L_divided : GoodIn wsL_divides wsL_divided := goodIn_ca (goodIn_r _ [179, 138, 180, 181, 182, 4, 183, 6, 143, 144, 145, 146, 147, 148, 12, 7, 8, 9, 10, 11, 13, 14, 15, 16, 17, 18, 19, 20, 21, 22, 23, 24, 25, 26, 27, 28, 29, 30, 31, 32, 33, 34, 35, 36, 37, 38, 39, 40, 41, 42, 43, 44, 45, 46, 47, 48, 49, 50, 51, 52, 53, 54, 55, 56, 57, 58, 59, 60, 61, 62, 63, 64, 65, 66, 67, 68, 69, 70, 71, 72, 73, 74, 75, 76, 77, 78, 79, 80, 81, 82, 83, 84, 85, 86, 87, 88, 89, 90, 91, 92, 93, 94, 95, 96, 97, 98, 99, 100, 101, 102, 103, 104, 105, 106, 107, 108, 109, 110, 111, 112, 113, 114, 115, 116, 117, 118, 119, 120, 121, 122, 123, 124, 125, 126, 127, 128, 129, 184, 196, 197, 198, 199, 200, 201, 202, 214, 215, 203, 204, 205, 206, 207, 208, 209, 210, 211, 212, 213, 216] (by decide +kernel) (by decide +kernel)) (goodIn_sub (fun _ h => List.mem_cons_of_mem _ (List.mem_append_right _ h)) (by decide +kernel))
set_option maxRecDepth 20000 in
theorem gL_divides_L_divided : GoodIn wsL_divides (va_wsS RL 78 yL_divided wsL_divided) := goodIn_app (goodIn_of _ (by decide +kernel)) ggL_divides_L_divided
set_option maxRecDepth 20000 in
theorem ggL_divides_L_isWithin : GoodIn wsL_divides wsL_isWithin := goodIn_ca (goodIn_r _ [187, 130, 131, 132, 4, 133, 12, 134, 135, 136, 137, 138, 139, 140, 141, 142, 6, 143, 144, 145, 146, 147, 148, 149, 150, 151, 7, 8, 9, 10, 11, 13, 14, 15, 16, 17, 18, 19, 20, 21, 22, 23, 24, 25, 26, 27, 28, 29, 30, 31, 32, 33, 34, 35, 36, 37, 38, 39, 40, 41, 42, 43, 44, 45, 46, 47, 48, 49, 50, 51, 52, 53, 54, 55, 56, 57, 58, 59, 60, 61, 62, 63, 64, 65, 66, 67, 68, 69, 70, 71, 72, 73, 74, 75, 76, 77, 78, 79, 80, 81, 82, 83, 84, 85, 86, 87, 88, 89, 90, 91, 92, 93, 94, 95, 96, 97, 98, 99, 100, 101, 102, 103, 104, 105, 106, 107, 108, 109, 110, 111, 112, 113, 114, 115, 116, 117, 118, 119, 120, 121, 122, 123, 124, 125, 126, 127, 128, 129, 152, 153, 154, 155, 156, 157, 158, 159, 160, 161, 162, 163, 164, 165, 166, 167, 168, 169, 196, 197, 198, 199, 200, 201, 202, 214, 215, 203, 204, 205, 206, 207, 208, 209, 210, 211, 212, 213, 216] (by decide +kernel) (by decide +kernel)) (goodIn_sub (fun _ h => List.mem_cons_of_mem _ (List.mem_append_right _ h)) (by decide +kernel))
set_option maxRecDepth 20000 in
theorem gL_divides_L_isWithin : GoodIn wsL_divides (va_wsS RL 81 yL_isWithin wsL_isWithin) := goodIn_app (goodIn_of _ (by decide +kernel)) ggL_divides_L_isWithin
set_option maxRecDepth 20000 in
theorem ggL_divides_X6_leastNumerator : GoodIn wsL_divides wsX6_leastNumerator := goodIn_r _ [191, 6, 7, 8, 9, 4, 10, 11, 12, 13, 14, 15, 16, 17, 18, 19, 20, 21, 22, 23, 24, 25, 26, 27, 28, 29, 30, 31, 32, 33, 34, 35, 36, 37, 38, 39, 40, 41, 42, 43, 44, 45, 46, 47, 48, 49, 50, 51, 52, 53, 54, 55, 56, 57, 58, 59, 60, 61, 62, 63, 64, 65, 66, 67, 68, 69, 70, 71, 72, 73, 74, 75, 76, 77, 78, 79, 80, 81, 82, 83, 84, 85, 86, 87, 88, 89, 90, 91, 92, 93, 94, 95, 96, 97, 98, 99, 100, 101, 102, 103, 104, 105, 106, 107, 108, 109, 110, 111, 112, 113, 114, 115, 116, 117, 118, 119, 120, 121, 122, 123, 124, 125, 126, 127, 128, 129, 196, 197, 198, 199, 200, 201, 202, 203, 204, 205, 206, 207, 208, 209, 210, 211, 212, 213, 214, 215, 216] (by decide +kernel) (by decide +kernel)
set_option maxRecDepth 20000 in
theorem gL_divides_X6_leastNumerator : GoodIn wsL_divides (wsV RL 85 RX6 yX6_leastNumerator wsX6_leastNumerator) := goodIn_app (goodIn_of _ (by decide +kernel)) ggL_divides_X6_leastNumerator
set_option maxRecDepth 20000 in
theorem ggL_divides_X6_leastDenominator : GoodIn wsL_divides wsX6_leastDenominator := goodIn_r _ [195, 6, 7, 8, 9, 4, 10, 11, 12, 13, 14, 15, 16, 17, 18, 19, 20, 21, 22, 23, 24, 25, 26, 27, 28, 29, 30, 31, 32, 33, 34, 35, 36, 37, 38, 39, 40, 41, 42, 43, 44, 45, 46, 47, 48, 49, 50, 51, 52, 53, 54, 55, 56, 57, 58, 59, 60, 61, 62, 63, 64, 65, 66, 67, 68, 69, 70, 71, 72, 73, 74, 75, 76, 77, 78, 79, 80, 81, 82, 83, 84, 85, 86, 87, 88, 89, 90, 91, 92, 93, 94, 95, 96, 97, 98, 99, 100, 101, 102, 103, 104, 105, 106, 107, 108, 109, 110, 111, 112, 113, 114, 115, 116, 117, 118, 119, 120, 121, 122, 123, 124, 125, 126, 127, 128, 129, 196, 197, 198, 199, 200, 201, 202, 203, 204, 205, 206, 207, 208, 209, 210, 211, 212, 213, 214, 215, 216] (by decide +kernel) (by decide +kernel)
set_option maxRecDepth 20000 in
theorem gL_divides_X6_leastDenominator : GoodIn wsL_divides (wsV RL 88 RX6 yX6_leastDenominator wsX6_leastDenominator) := goodIn_app (goodIn_of _ (by decide +kernel)) ggL_divides_X6_leastDenominator
theorem dL_divides_0 : decode cL_divides 0 = .ok (.aload_n 0, 1) := by decide +kernel
theorem dL_divides_1 : decode cL_divides 1 = .ok (.invokevirtual 71, 3) := by decide +kernel
theorem dL_divides_4 : decode cL_divides 4 = .ok (.istore_n 1, 1) := by decide +kernel
theorem dL_divides_5 : decode cL_divides 5 = .ok (.aload_n 0, 1) := by decide +kernel
theorem dL_divides_6 : decode cL_divides 6 = .ok (.invokevirtual 54, 3) := by decide +kernel
theorem dL_divides_9 : decode cL_divides 9 = .ok (.ifCond .ne 7, 3) := by decide +kernel
theorem dL_divides_12 : decode cL_divides 12 = .ok (.iconst 1, 1) := by decide +kernel
theorem dL_divides_13 : decode cL_divides 13 = .ok (.goto 4, 3) := by decide +kernel
theorem dL_divides_16 : decode cL_divides 16 = .ok (.iconst 0, 1) := by decide +kernel
theorem dL_divides_17 : decode cL_divides 17 = .ok (.iload_n 1, 1) := by decide +kernel
theorem dL_divides_18 : decode cL_divides 18 = .ok (.ifCond .ne 7, 3) := by decide +kernel
theorem dL_divides_21 : decode cL_divides 21 = .ok (.iconst 1, 1) := by decide +kernel
theorem dL_divides_22 : decode cL_divides 22 = .ok (.goto 4, 3) := by decide +kernel
theorem dL_divides_25 : decode cL_divides 25 = .ok (.iconst 0, 1) := by decide +kernel
theorem dL_divides_26 : decode cL_divides 26 = .ok (.if_icmp .ne 7, 3) := by decide +kernel
theorem dL_divides_29 : decode cL_divides 29 = .ok (.iconst 1, 1) := by decide +kernel
theorem dL_divides_30 : decode cL_divides 30 = .ok (.goto 4, 3) := by decide +kernel
theorem dL_divides_33 : decode cL_divides 33 = .ok (.iconst 0, 1) := by decide +kernel
theorem dL_divides_34 : decode cL_divides 34 = .ok (.istore_n 2, 1) := by decide +kernel
theorem dL_divides_35 : decode cL_divides 35 = .ok (.iconst 0, 1) := by decide +kernel
theorem dL_divides_36 : decode cL_divides 36 = .ok (.istore_n 3, 1) := by decide +kernel
theorem dL_divides_37 : decode cL_divides 37 = .ok (.iconst 0, 1) := by decide +kernel
theorem dL_divides_38 : decode cL_divides 38 = .ok (.istore 4, 2) := by decide +kernel
theorem dL_divides_40 : decode cL_divides 40 = .ok (.iconst 0, 1) := by decide +kernel
theorem dL_divides_41 : decode cL_divides 41 = .ok (.istore 5, 2) := by decide +kernel
theorem dL_divides_43 : decode cL_divides 43 = .ok (.iload 5, 2) := by decide +kernel
theorem dL_divides_45 : decode cL_divides 45 = .ok (.aload_n 0, 1) := by decide +kernel
theorem dL_divides_46 : decode cL_divides 46 = .ok (.invokevirtual 54, 3) := by decide +kernel
theorem dL_divides_49 : decode cL_divides 49 = .ok (.if_icmp .ge 295, 3) := by decide +kernel
theorem dL_divides_52 : decode cL_divides 52 = .ok (.iload_n 2, 1) := by decide +kernel
theorem dL_divides_53 : decode cL_divides 53 = .ok (.ifCond .eq 291, 3) := by decide +kernel
theorem dL_divides_56 : decode cL_divides 56 = .ok (.lconst 0, 1) := by decide +kernel
theorem dL_divides_57 : decode cL_divides 57 = .ok (.lstore 6, 2) := by decide +kernel
theorem dL_divides_59 : decode cL_divides 59 = .ok (.lconst 1, 1) := by decide +kernel
theorem dL_divides_60 : decode cL_divides 60 = .ok (.lstore 8, 2) := by decide +kernel
theorem dL_divides_62 : decode cL_divides 62 = .ok (.iconst 0, 1) := by decide +kernel
theorem dL_divides_63 : decode cL_divides 63 = .ok (.istore 10, 2) := by decide +kernel
theorem dL_divides_65 : decode cL_divides 65 = .ok (.iconst 0, 1) := by decide +kernel
theorem dL_divides_66 : decode cL_divides 66 = .ok (.istore 11, 2) := by decide +kernel
theorem dL_divides_68 : decode cL_divides 68 = .ok (.iload 11, 2) := by decide +kernel
theorem dL_divides_70 : decode cL_divides 70 = .ok (.iconst 3, 1) := by decide +kernel
theorem dL_divides_71 : decode cL_divides 71 = .ok (.if_icmp .ge 149, 3) := by decide +kernel
theorem dL_divides_74 : decode cL_divides 74 = .ok (.iload_n 2, 1) := by decide +kernel
theorem dL_divides_75 : decode cL_divides 75 = .ok (.ifCond .eq 145, 3) := by decide +kernel
theorem dL_divides_78 : decode cL_divides 78 = .ok (.aload_n 0, 1) := by decide +kernel
theorem dL_divides_79 : decode cL_divides 79 = .ok (.iload 5, 2) := by decide +kernel
theorem dL_divides_81 : decode cL_divides 81 = .ok (.iload 11, 2) := by decide +kernel
theorem dL_divides_83 : decode cL_divides 83 = .ok (.invokestatic 58, 3) := by decide +kernel
theorem dL_divides_86 : decode cL_divides 86 = .ok (.i2l, 1) := by decide +kernel
theorem dL_divides_87 : decode cL_divides 87 = .ok (.lstore 12, 2) := by decide +kernel
theorem dL_divides_89 : decode cL_divides 89 = .ok (.aload_n 0, 1) := by decide +kernel
theorem dL_divides_90 : decode cL_divides 90 = .ok (.iload 5, 2) := by decide +kernel
theorem dL_divides_92 : decode cL_divides 92 = .ok (.iload 11, 2) := by decide +kernel
theorem dL_divides_94 : decode cL_divides 94 = .ok (.invokestatic 63, 3) := by decide +kernel
theorem dL_divides_97 : decode cL_divides 97 = .ok (.i2l, 1) := by decide +kernel
theorem dL_divides_98 : decode cL_divides 98 = .ok (.lstore 14, 2) := by decide +kernel
theorem dL_divides_100 : decode cL_divides 100 = .ok (.aload_n 0, 1) := by decide +kernel
theorem dL_divides_101 : decode cL_divides 101 = .ok (.iload 5, 2) := by decide +kernel
theorem dL_divides_103 : decode cL_divides 103 = .ok (.iload 11, 2) := by decide +kernel
theorem dL_divides_105 : decode cL_divides 105 = .ok (.invokestatic 65, 3) := by decide +kernel
theorem dL_divides_108 : decode cL_divides 108 = .ok (.istore 16, 2) := by decide +kernel
theorem dL_divides_110 : decode cL_divides 110 = .ok (.lload 12, 2) := by decide +kernel
theorem dL_divides_112 : decode cL_divides 112 = .ok (.lconst 0, 1) := by decide +kernel
theorem dL_divides_113 : decode cL_divides 113 = .ok (.lcmp, 1) := by decide +kernel
theorem dL_divides_114 : decode cL_divides 114 = .ok (.ifCond .lt 52, 3) := by decide +kernel
theorem dL_divides_117 : decode cL_divides 117 = .ok (.lload 14, 2) := by decide +kernel
theorem dL_divides_119 : decode cL_divides 119 = .ok (.lconst 1, 1) := by decide +kernel
theorem dL_divides_120 : decode cL_divides 120 = .ok (.lcmp, 1) := by decide +kernel
theorem dL_divides_121 : decode cL_divides 121 = .ok (.ifCond .lt 45, 3) := by decide +kernel
theorem dL_divides_124 : decode cL_divides 124 = .ok (.lload 12, 2) := by decide +kernel
theorem dL_divides_126 : decode cL_divides 126 = .ok (.lload 14, 2) := by decide +kernel
theorem dL_divides_128 : decode cL_divides 128 = .ok (.lcmp, 1) := by decide +kernel
theorem dL_divides_129 : decode cL_divides 129 = .ok (.ifCond .gt 37, 3) := by decide +kernel
theorem dL_divides_132 : decode cL_divides 132 = .ok (.lload 12, 2) := by decide +kernel
theorem dL_divides_134 : decode cL_divides 134 = .ok (.lload 14, 2) := by decide +kernel
theorem dL_divides_136 : decode cL_divides 136 = .ok (.invokestatic 67, 3) := by decide +kernel
theorem dL_divides_139 : decode cL_divides 139 = .ok (.lconst 1, 1) := by decide +kernel
theorem dL_divides_140 : decode cL_divides 140 = .ok (.lcmp, 1) := by decide +kernel
theorem dL_divides_141 : decode cL_divides 141 = .ok (.ifCond .ne 25, 3) := by decide +kernel
theorem dL_divides_144 : decode cL_divides 144 = .ok (.lload 12, 2) := by decide +kernel
theorem dL_divides_146 : decode cL_divides 146 = .ok (.lconst 0, 1) := by decide +kernel
theorem dL_divides_147 : decode cL_divides 147 = .ok (.lcmp, 1) := by decide +kernel
theorem dL_divides_148 : decode cL_divides 148 = .ok (.ifCond .eq 14, 3) := by decide +kernel
theorem dL_divides_151 : decode cL_divides 151 = .ok (.iload 16, 2) := by decide +kernel
theorem dL_divides_153 : decode cL_divides 153 = .ok (.ifCond .le 13, 3) := by decide +kernel
theorem dL_divides_156 : decode cL_divides 156 = .ok (.iload 16, 2) := by decide +kernel
theorem dL_divides_158 : decode cL_divides 158 = .ok (.iload_n 1, 1) := by decide +kernel
theorem dL_divides_159 : decode cL_divides 159 = .ok (.if_icmp .gt 7, 3) := by decide +kernel
theorem dL_divides_162 : decode cL_divides 162 = .ok (.iconst 1, 1) := by decide +kernel
theorem dL_divides_163 : decode cL_divides 163 = .ok (.goto 4, 3) := by decide +kernel
theorem dL_divides_166 : decode cL_divides 166 = .ok (.iconst 0, 1) := by decide +kernel
theorem dL_divides_167 : decode cL_divides 167 = .ok (.istore_n 2, 1) := by decide +kernel
theorem dL_divides_168 : decode cL_divides 168 = .ok (.iload 10, 2) := by decide +kernel
theorem dL_divides_170 : decode cL_divides 170 = .ok (.ifCond .ne 17, 3) := by decide +kernel
theorem dL_divides_173 : decode cL_divides 173 = .ok (.lload 12, 2) := by decide +kernel
theorem dL_divides_175 : decode cL_divides 175 = .ok (.lconst 1, 1) := by decide +kernel
theorem dL_divides_176 : decode cL_divides 176 = .ok (.lcmp, 1) := by decide +kernel
theorem dL_divides_177 : decode cL_divides 177 = .ok (.ifCond .ne 14, 3) := by decide +kernel
theorem dL_divides_180 : decode cL_divides 180 = .ok (.lload 14, 2) := by decide +kernel
theorem dL_divides_182 : decode cL_divides 182 = .ok (.lconst 1, 1) := by decide +kernel
theorem dL_divides_183 : decode cL_divides 183 = .ok (.lcmp, 1) := by decide +kernel
theorem dL_divides_184 : decode cL_divides 184 = .ok (.ifCond .ne 7, 3) := by decide +kernel
theorem dL_divides_187 : decode cL_divides 187 = .ok (.iconst 1, 1) := by decide +kernel
theorem dL_divides_188 : decode cL_divides 188 = .ok (.goto 4, 3) := by decide +kernel
theorem dL_divides_191 : decode cL_divides 191 = .ok (.iconst 0, 1) := by decide +kernel
theorem dL_divides_192 : decode cL_divides 192 = .ok (.istore 10, 2) := by decide +kernel
theorem dL_divides_194 : decode cL_divides 194 = .ok (.lload 6, 2) := by decide +kernel
theorem dL_divides_196 : decode cL_divides 196 = .ok (.lload 14, 2) := by decide +kernel
theorem dL_divides_198 : decode cL_divides 198 = .ok (.lmul, 1) := by decide +kernel
theorem dL_divides_199 : decode cL_divides 199 = .ok (.lload 12, 2) := by decide +kernel
theorem dL_divides_201 : decode cL_divides 201 = .ok (.lload 8, 2) := by decide +kernel
theorem dL_divides_203 : decode cL_divides 203 = .ok (.lmul, 1) := by decide +kernel
theorem dL_divides_204 : decode cL_divides 204 = .ok (.ladd, 1) := by decide +kernel
theorem dL_divides_205 : decode cL_divides 205 = .ok (.lstore 6, 2) := by decide +kernel
theorem dL_divides_207 : decode cL_divides 207 = .ok (.lload 8, 2) := by decide +kernel
theorem dL_divides_209 : decode cL_divides 209 = .ok (.lload 14, 2) := by decide +kernel
theorem dL_divides_211 : decode cL_divides 211 = .ok (.lmul, 1) := by decide +kernel
theorem dL_divides_212 : decode cL_divides 212 = .ok (.lstore 8, 2) := by decide +kernel
theorem dL_divides_214 : decode cL_divides 214 = .ok (.iinc 11 1, 3) := by decide +kernel
theorem dL_divides_217 : decode cL_divides 217 = .ok (.goto (-149), 3) := by decide +kernel
theorem dL_divides_220 : decode cL_divides 220 = .ok (.aload_n 0, 1) := by decide +kernel
theorem dL_divides_221 : decode cL_divides 221 = .ok (.iload 5, 2) := by decide +kernel
theorem dL_divides_223 : decode cL_divides 223 = .ok (.invokestatic 74, 3) := by decide +kernel
theorem dL_divides_226 : decode cL_divides 226 = .ok (.istore 11, 2) := by decide +kernel
theorem dL_divides_228 : decode cL_divides 228 = .ok (.iload_n 2, 1) := by decide +kernel
theorem dL_divides_229 : decode cL_divides 229 = .ok (.ifCond .eq 73, 3) := by decide +kernel
theorem dL_divides_232 : decode cL_divides 232 = .ok (.lload 6, 2) := by decide +kernel
theorem dL_divides_234 : decode cL_divides 234 = .ok (.lload 8, 2) := by decide +kernel
theorem dL_divides_236 : decode cL_divides 236 = .ok (.lcmp, 1) := by decide +kernel
theorem dL_divides_237 : decode cL_divides 237 = .ok (.ifCond .ne 65, 3) := by decide +kernel
theorem dL_divides_240 : decode cL_divides 240 = .ok (.aload_n 0, 1) := by decide +kernel
theorem dL_divides_241 : decode cL_divides 241 = .ok (.iload 5, 2) := by decide +kernel
theorem dL_divides_243 : decode cL_divides 243 = .ok (.invokestatic 78, 3) := by decide +kernel
theorem dL_divides_246 : decode cL_divides 246 = .ok (.ifCond .ne 7, 3) := by decide +kernel
theorem dL_divides_249 : decode cL_divides 249 = .ok (.iconst 1, 1) := by decide +kernel
theorem dL_divides_250 : decode cL_divides 250 = .ok (.goto 4, 3) := by decide +kernel
theorem dL_divides_253 : decode cL_divides 253 = .ok (.iconst 0, 1) := by decide +kernel
theorem dL_divides_254 : decode cL_divides 254 = .ok (.iload 10, 2) := by decide +kernel
theorem dL_divides_256 : decode cL_divides 256 = .ok (.if_icmp .ne 46, 3) := by decide +kernel
theorem dL_divides_259 : decode cL_divides 259 = .ok (.iload 11, 2) := by decide +kernel
theorem dL_divides_261 : decode cL_divides 261 = .ok (.ifCond .lt 41, 3) := by decide +kernel
theorem dL_divides_264 : decode cL_divides 264 = .ok (.iload 11, 2) := by decide +kernel
theorem dL_divides_266 : decode cL_divides 266 = .ok (.iconst 3, 1) := by decide +kernel
theorem dL_divides_267 : decode cL_divides 267 = .ok (.if_icmp .ge 35, 3) := by decide +kernel
theorem dL_divides_270 : decode cL_divides 270 = .ok (.aload_n 0, 1) := by decide +kernel
theorem dL_divides_271 : decode cL_divides 271 = .ok (.iload 5, 2) := by decide +kernel
theorem dL_divides_273 : decode cL_divides 273 = .ok (.iload 11, 2) := by decide +kernel
theorem dL_divides_275 : decode cL_divides 275 = .ok (.invokestatic 58, 3) := by decide +kernel
theorem dL_divides_278 : decode cL_divides 278 = .ok (.ifCond .le 24, 3) := by decide +kernel
theorem dL_divides_281 : decode cL_divides 281 = .ok (.iload 10, 2) := by decide +kernel
theorem dL_divides_283 : decode cL_divides 283 = .ok (.ifCond .eq 15, 3) := by decide +kernel
theorem dL_divides_286 : decode cL_divides 286 = .ok (.aload_n 0, 1) := by decide +kernel
theorem dL_divides_287 : decode cL_divides 287 = .ok (.iload 5, 2) := by decide +kernel
theorem dL_divides_289 : decode cL_divides 289 = .ok (.iload 11, 2) := by decide +kernel
theorem dL_divides_291 : decode cL_divides 291 = .ok (.invokestatic 63, 3) := by decide +kernel
theorem dL_divides_294 : decode cL_divides 294 = .ok (.iconst 1, 1) := by decide +kernel
theorem dL_divides_295 : decode cL_divides 295 = .ok (.if_icmp .ne 7, 3) := by decide +kernel
theorem dL_divides_298 : decode cL_divides 298 = .ok (.iconst 1, 1) := by decide +kernel
theorem dL_divides_299 : decode cL_divides 299 = .ok (.goto 4, 3) := by decide +kernel
theorem dL_divides_302 : decode cL_divides 302 = .ok (.iconst 0, 1) := by decide +kernel
theorem dL_divides_303 : decode cL_divides 303 = .ok (.istore_n 2, 1) := by decide +kernel
theorem dL_divides_304 : decode cL_divides 304 = .ok (.iload_n 2, 1) := by decide +kernel
theorem dL_divides_305 : decode cL_divides 305 = .ok (.ifCond .eq 33, 3) := by decide +kernel
theorem dL_divides_308 : decode cL_divides 308 = .ok (.iload 10, 2) := by decide +kernel
theorem dL_divides_310 : decode cL_divides 310 = .ok (.ifCond .ne 28, 3) := by decide +kernel
theorem dL_divides_313 : decode cL_divides 313 = .ok (.iload_n 3, 1) := by decide +kernel
theorem dL_divides_314 : decode cL_divides 314 = .ok (.iload 11, 2) := by decide +kernel
theorem dL_divides_316 : decode cL_divides 316 = .ok (.ishr, 1) := by decide +kernel
theorem dL_divides_317 : decode cL_divides 317 = .ok (.iconst 1, 1) := by decide +kernel
theorem dL_divides_318 : decode cL_divides 318 = .ok (.iand, 1) := by decide +kernel
theorem dL_divides_319 : decode cL_divides 319 = .ok (.ifCond .ne 7, 3) := by decide +kernel
theorem dL_divides_322 : decode cL_divides 322 = .ok (.iconst 1, 1) := by decide +kernel
theorem dL_divides_323 : decode cL_divides 323 = .ok (.goto 4, 3) := by decide +kernel
theorem dL_divides_326 : decode cL_divides 326 = .ok (.iconst 0, 1) := by decide +kernel
theorem dL_divides_327 : decode cL_divides 327 = .ok (.istore_n 2, 1) := by decide +kernel
theorem dL_divides_328 : decode cL_divides 328 = .ok (.iload_n 3, 1) := by decide +kernel
theorem dL_divides_329 : decode cL_divides 329 = .ok (.iconst 1, 1) := by decide +kernel
theorem dL_divides_330 : decode cL_divides 330 = .ok (.iload 11, 2) := by decide +kernel
theorem dL_divides_332 : decode cL_divides 332 = .ok (.ishl, 1) := by decide +kernel
theorem dL_divides_333 : decode cL_divides 333 = .ok (.ior, 1) := by decide +kernel
theorem dL_divides_334 : decode cL_divides 334 = .ok (.istore_n 3, 1) := by decide +kernel
theorem dL_divides_335 : decode cL_divides 335 = .ok (.iinc 4 1, 3) := by decide +kernel
theorem dL_divides_338 : decode cL_divides 338 = .ok (.iinc 5 1, 3) := by decide +kernel
theorem dL_divides_341 : decode cL_divides 341 = .ok (.goto (-298), 3) := by decide +kernel
theorem dL_divides_344 : decode cL_divides 344 = .ok (.iconst 0, 1) := by decide +kernel
theorem dL_divides_345 : decode cL_divides 345 = .ok (.istore 5, 2) := by decide +kernel
theorem dL_divides_347 : decode cL_divides 347 = .ok (.iload 5, 2) := by decide +kernel
theorem dL_divides_349 : decode cL_divides 349 = .ok (.iconst 3, 1) := by decide +kernel
theorem dL_divides_350 : decode cL_divides 350 = .ok (.if_icmp .ge 21, 3) := by decide +kernel
theorem dL_divides_353 : decode cL_divides 353 = .ok (.iload_n 2, 1) := by decide +kernel
theorem dL_divides_354 : decode cL_divides 354 = .ok (.ifCond .eq 17, 3) := by decide +kernel
theorem dL_divides_357 : decode cL_divides 357 = .ok (.aload_n 0, 1) := by decide +kernel
theorem dL_divides_358 : decode cL_divides 358 = .ok (.iload 5, 2) := by decide +kernel
theorem dL_divides_360 : decode cL_divides 360 = .ok (.iload_n 1, 1) := by decide +kernel
theorem dL_divides_361 : decode cL_divides 361 = .ok (.invokestatic 81, 3) := by decide +kernel
theorem dL_divides_364 : decode cL_divides 364 = .ok (.istore_n 2, 1) := by decide +kernel
theorem dL_divides_365 : decode cL_divides 365 = .ok (.iinc 5 1, 3) := by decide +kernel
theorem dL_divides_368 : decode cL_divides 368 = .ok (.goto (-21), 3) := by decide +kernel
theorem dL_divides_371 : decode cL_divides 371 = .ok (.iload_n 2, 1) := by decide +kernel
theorem dL_divides_372 : decode cL_divides 372 = .ok (.ifCond .eq 48, 3) := by decide +kernel
theorem dL_divides_375 : decode cL_divides 375 = .ok (.iload 4, 2) := by decide +kernel
theorem dL_divides_377 : decode cL_divides 377 = .ok (.iconst 3, 1) := by decide +kernel
theorem dL_divides_378 : decode cL_divides 378 = .ok (.if_icmp .gt 42, 3) := by decide +kernel
theorem dL_divides_381 : decode cL_divides 381 = .ok (.aload_n 0, 1) := by decide +kernel
theorem dL_divides_382 : decode cL_divides 382 = .ok (.invokevirtual 85, 3) := by decide +kernel
theorem dL_divides_385 : decode cL_divides 385 = .ok (.i2l, 1) := by decide +kernel
theorem dL_divides_386 : decode cL_divides 386 = .ok (.iload_n 1, 1) := by decide +kernel
theorem dL_divides_387 : decode cL_divides 387 = .ok (.i2l, 1) := by decide +kernel
theorem dL_divides_388 : decode cL_divides 388 = .ok (.aload_n 0, 1) := by decide +kernel
theorem dL_divides_389 : decode cL_divides 389 = .ok (.invokevirtual 88, 3) := by decide +kernel
theorem dL_divides_392 : decode cL_divides 392 = .ok (.i2l, 1) := by decide +kernel
theorem dL_divides_393 : decode cL_divides 393 = .ok (.lmul, 1) := by decide +kernel
theorem dL_divides_394 : decode cL_divides 394 = .ok (.lcmp, 1) := by decide +kernel
theorem dL_divides_395 : decode cL_divides 395 = .ok (.ifCond .gt 25, 3) := by decide +kernel
theorem dL_divides_398 : decode cL_divides 398 = .ok (.aload_n 0, 1) := by decide +kernel
theorem dL_divides_399 : decode cL_divides 399 = .ok (.invokevirtual 85, 3) := by decide +kernel
theorem dL_divides_402 : decode cL_divides 402 = .ok (.i2l, 1) := by decide +kernel
theorem dL_divides_403 : decode cL_divides 403 = .ok (.aload_n 0, 1) := by decide +kernel
theorem dL_divides_404 : decode cL_divides 404 = .ok (.invokevirtual 88, 3) := by decide +kernel
theorem dL_divides_407 : decode cL_divides 407 = .ok (.i2l, 1) := by decide +kernel
theorem dL_divides_408 : decode cL_divides 408 = .ok (.invokestatic 67, 3) := by decide +kernel
theorem dL_divides_411 : decode cL_divides 411 = .ok (.lconst 1, 1) := by decide +kernel
theorem dL_divides_412 : decode cL_divides 412 = .ok (.lcmp, 1) := by decide +kernel
theorem dL_divides_413 : decode cL_divides 413 = .ok (.ifCond .ne 7, 3) := by decide +kernel
theorem dL_divides_416 : decode cL_divides 416 = .ok (.iconst 1, 1) := by decide +kernel
theorem dL_divides_417 : decode cL_divides 417 = .ok (.goto 4, 3) := by decide +kernel
theorem dL_divides_420 : decode cL_divides 420 = .ok (.iconst 0, 1) := by decide +kernel
theorem dL_divides_421 : decode cL_divides 421 = .ok (.ireturn, 1) := by decide +kernel
set_option maxRecDepth 20000 in
theorem ggL_plans_X6_shortest : GoodIn wsL_plans wsX6_shortest := goodIn_r _ [5, 6, 7, 8, 9, 4, 10, 11, 12, 13, 14, 15, 16, 17, 18, 19, 20, 21, 22, 23, 24, 25, 26, 27, 28, 29, 30, 31, 32, 33, 34, 35, 36, 37, 38, 39, 40, 41, 42, 43, 44, 45, 46, 47, 255, 256, 257, 258, 259, 260, 261, 262, 263, 264, 265, 266, 267] (by decide +kernel) (by decide +kernel)
set_option maxRecDepth 20000 in
theorem gL_plans_X6_shortest : GoodIn wsL_plans (wsV RL 91 RX6 yX6_shortest wsX6_shortest) := goodIn_app (goodIn_of _ (by decide +kernel)) ggL_plans_X6_shortest
set_option maxRecDepth 20000 in
theorem ggL_plans_X6_shortestByTrying : GoodIn wsL_plans wsX6_shortestByTrying := goodIn_r _ [51, 6, 12, 52, 53, 54, 16, 55, 19, 20, 21, 22, 23, 56, 57, 58, 59, 60, 34, 61, 28, 29, 30, 31, 32, 33, 35, 41, 42, 43, 44, 45, 46, 47, 255, 256, 257, 258, 259, 260, 261, 262, 263, 264, 265, 266, 267] (by decide +kernel) (by decide +kernel)
set_option maxRecDepth 20000 in
theorem gL_plans_X6_shortestByTrying : GoodIn wsL_plans (wsV RL 94 RX6 yX6_shortestByTrying wsX6_shortestByTrying) := goodIn_app (goodIn_of _ (by decide +kernel)) ggL_plans_X6_shortestByTrying
set_option maxRecDepth 20000 in
theorem ggL_plans_X6_jobs : GoodIn wsL_plans wsX6_jobs := goodIn_r _ [65, 12, 255, 256, 257, 258, 259, 260, 261, 266, 267] (by decide +kernel) (by decide +kernel)
set_option maxRecDepth 20000 in
theorem gL_plans_X6_jobs : GoodIn wsL_plans (wsV RL 54 RX6 yX6_jobs wsX6_jobs) := goodIn_app (goodIn_of _ (by decide +kernel)) ggL_plans_X6_jobs
set_option maxRecDepth 20000 in
theorem ggL_plans_L_time : GoodIn wsL_plans wsL_time := goodIn_ca (goodIn_r _ [69, 70, 71, 72, 73, 4, 74, 12, 75, 76, 77, 78, 79, 80, 81, 82, 83, 84, 42, 43, 44, 45, 46, 47, 255, 256, 257, 258, 259, 260, 261, 266, 267] (by decide +kernel) (by decide +kernel)) (goodIn_sub (fun _ h => List.mem_cons_of_mem _ (List.mem_append_right _ h)) (by decide +kernel))
set_option maxRecDepth 20000 in
theorem gL_plans_L_time : GoodIn wsL_plans (va_wsS RL 65 yL_time wsL_time) := goodIn_app (goodIn_of _ (by decide +kernel)) ggL_plans_L_time
set_option maxRecDepth 20000 in
theorem ggL_plans_L_shortestOn : GoodIn wsL_plans wsL_shortestOn := goodIn_ca (goodIn_r _ [87, 70, 88, 89, 90, 4, 91, 6, 75, 76, 77, 78, 79, 80, 12, 7, 8, 9, 10, 11, 13, 14, 15, 16, 17, 18, 19, 20, 21, 22, 23, 24, 25, 26, 27, 28, 29, 30, 31, 32, 33, 34, 35, 36, 37, 38, 39, 40, 41, 42, 43, 44, 45, 46, 47, 255, 256, 257, 258, 259, 260, 261, 262, 263, 264, 265, 266, 267] (by decide +kernel) (by decide +kernel)) (goodIn_sub (fun _ h => List.mem_cons_of_mem _ (List.mem_append_right _ h)) (by decide +kernel))
set_option maxRecDepth 20000 in
theorem gL_plans_L_shortestOn : GoodIn wsL_plans (va_wsS RL 97 yL_shortestOn wsL_shortestOn) := goodIn_app (goodIn_of _ (by decide +kernel)) ggL_plans_L_shortestOn
set_option maxRecDepth 20000 in
theorem ggL_plans_L_roundedOn : GoodIn wsL_plans wsL_roundedOn := goodIn_ca (goodIn_r _ [94, 70, 95, 96, 97, 4, 98, 99, 75, 76, 77, 78, 79, 80, 12, 100, 101, 102, 103, 104, 105, 106, 107, 108, 109, 110, 111, 112, 113, 114, 115, 116, 117, 118, 119, 120, 121, 122, 123, 124, 125, 126, 127, 128, 129, 130, 131, 132, 60, 34, 61, 133, 134, 135, 136, 137, 138, 139, 42, 43, 44, 45, 46, 47, 140, 141, 142, 143, 144, 145, 146, 147, 148, 149, 150, 151, 152, 153, 154, 155, 156, 157, 158, 159, 160, 161, 162, 163, 164, 165, 166, 167, 168, 169, 170, 171, 172, 173, 174, 175, 176, 177, 178, 179, 180, 181, 182, 183, 184, 185, 186, 187, 188, 189, 190, 191, 192, 193, 194, 195, 196, 197, 198, 199, 200, 201, 202, 203, 204, 205, 206, 207, 208, 209, 210, 211, 212, 255, 256, 257, 258, 259, 260, 261, 268, 266, 267, 269, 270, 271, 272, 273, 274, 275, 276, 277, 278, 279] (by decide +kernel) (by decide +kernel)) (goodIn_sub (fun _ h => List.mem_cons_of_mem _ (List.mem_append_right _ h)) (by decide +kernel))
set_option maxRecDepth 20000 in
theorem gL_plans_L_roundedOn : GoodIn wsL_plans (va_wsS RL 74 yL_roundedOn wsL_roundedOn) := goodIn_app (goodIn_of _ (by decide +kernel)) ggL_plans_L_roundedOn
set_option maxRecDepth 20000 in
theorem ggL_plans_L_machine : GoodIn wsL_plans wsL_machine := goodIn_ca (goodIn_r _ [215, 70, 216, 217, 218, 4, 219, 220, 75, 76, 77, 78, 79, 80, 12, 255, 256, 257, 258, 259, 260, 261, 280, 281, 282, 283, 284, 266, 267] (by decide +kernel) (by decide +kernel)) (goodIn_sub (fun _ h => List.mem_cons_of_mem _ (List.mem_append_right _ h)) (by decide +kernel))
set_option maxRecDepth 20000 in
theorem gL_plans_L_machine : GoodIn wsL_plans (va_wsS RL 100 yL_machine wsL_machine) := goodIn_app (goodIn_of _ (by decide +kernel)) ggL_plans_L_machine
set_option maxRecDepth 20000 in
theorem ggL_plans_L_load : GoodIn wsL_plans wsL_load := goodIn_ca (goodIn_r _ [223, 70, 224, 225, 226, 4, 227, 12, 220, 81, 82, 83, 79, 80, 228, 229, 230, 44, 231, 46, 232, 42, 43, 45, 47, 255, 256, 257, 258, 259, 260, 261, 280, 281, 282, 283, 284, 266, 267] (by decide +kernel) (by decide +kernel)) (goodIn_sub (fun _ h => List.mem_cons_of_mem _ (List.mem_append_right _ h)) (by decide +kernel))
set_option maxRecDepth 20000 in
theorem gL_plans_L_load : GoodIn wsL_plans (va_wsS RL 102 yL_load wsL_load) := goodIn_app (goodIn_of _ (by decide +kernel)) ggL_plans_L_load
set_option maxRecDepth 20000 in
theorem ggL_plans_X6_roundedLength : GoodIn wsL_plans wsX6_roundedLength := goodIn_r _ [236, 12, 99, 100, 101, 102, 4, 103, 104, 105, 106, 107, 108, 109, 110, 111, 112, 113, 114, 115, 116, 117, 118, 119, 120, 121, 122, 123, 124, 125, 126, 127, 128, 129, 130, 131, 132, 60, 34, 61, 133, 134, 135, 136, 137, 138, 139, 42, 43, 44, 45, 46, 47, 140, 141, 142, 143, 144, 145, 146, 147, 148, 149, 150, 151, 152, 153, 154, 155, 156, 157, 158, 159, 160, 161, 162, 163, 164, 165, 166, 167, 168, 169, 170, 171, 172, 173, 174, 175, 176, 177, 178, 179, 180, 181, 182, 183, 184, 185, 186, 187, 188, 189, 190, 191, 192, 193, 194, 195, 196, 197, 198, 199, 200, 201, 202, 203, 204, 205, 206, 207, 208, 209, 210, 211, 212, 237, 238, 239, 240, 241, 33, 35, 242, 229, 230, 231, 232, 255, 256, 257, 258, 259, 260, 261, 268, 269, 270, 271, 272, 273, 274, 275, 276, 277, 278, 279, 266, 267] (by decide +kernel) (by decide +kernel)
set_option maxRecDepth 20000 in
theorem gL_plans_X6_roundedLength : GoodIn wsL_plans (wsV RL 104 RX6 yX6_roundedLength wsX6_roundedLength) := goodIn_app (goodIn_of _ (by decide +kernel)) ggL_plans_X6_roundedLength
end
section
set_option maxRecDepth 20000 in
theorem ggL_plans_X6_length : GoodIn wsL_plans wsX6_length := goodIn_r _ [246, 12, 220, 237, 238, 239, 44, 240, 241, 33, 34, 35, 242, 229, 230, 231, 46, 232, 42, 43, 45, 47, 255, 256, 257, 258, 259, 260, 261, 280, 281, 282, 283, 284, 266, 267] (by decide +kernel) (by decide +kernel)
set_option maxRecDepth 20000 in
theorem gL_plans_X6_length : GoodIn wsL_plans (wsV RL 107 RX6 yX6_length wsX6_length) := goodIn_app (goodIn_of _ (by decide +kernel)) ggL_plans_X6_length
set_option maxRecDepth 20000 in
theorem ggL_plans_X6_bound : GoodIn wsL_plans wsX6_bound := goodIn_r _ [250, 105, 100, 101, 102, 4, 103, 104, 12, 99, 106, 107, 108, 109, 110, 111, 112, 113, 114, 115, 116, 117, 118, 119, 120, 121, 122, 123, 124, 125, 126, 127, 128, 129, 130, 131, 132, 60, 34, 61, 133, 134, 135, 136, 137, 138, 139, 42, 43, 44, 45, 46, 47, 140, 141, 142, 143, 144, 145, 146, 147, 148, 149, 150, 151, 152, 153, 154, 155, 156, 157, 158, 159, 160, 161, 162, 163, 164, 165, 166, 167, 168, 169, 170, 171, 172, 173, 174, 175, 176, 177, 178, 179, 180, 181, 182, 183, 184, 185, 186, 187, 188, 189, 190, 191, 192, 193, 194, 195, 196, 197, 198, 199, 200, 201, 202, 203, 204, 205, 206, 207, 208, 209, 210, 211, 212, 255, 256, 257, 258, 259, 260, 261, 269, 270, 271, 272, 273, 274, 275, 276, 277, 278, 279, 266, 267, 268] (by decide +kernel) (by decide +kernel)
set_option maxRecDepth 20000 in
theorem gL_plans_X6_bound : GoodIn wsL_plans (wsV RL 71 RX6 yX6_bound wsX6_bound) := goodIn_app (goodIn_of _ (by decide +kernel)) ggL_plans_X6_bound
set_option maxRecDepth 20000 in
theorem ggL_plans_X6_excess : GoodIn wsL_plans wsX6_excess := goodIn_r _ [254, 6, 12, 99, 7, 8, 9, 4, 10, 11, 13, 14, 15, 16, 17, 18, 19, 20, 21, 22, 23, 24, 25, 26, 27, 28, 29, 30, 31, 32, 33, 34, 35, 36, 37, 38, 39, 40, 41, 42, 43, 44, 45, 46, 47, 100, 101, 102, 103, 104, 105, 106, 107, 108, 109, 110, 111, 112, 113, 114, 115, 116, 117, 118, 119, 120, 121, 122, 123, 124, 125, 126, 127, 128, 129, 130, 131, 132, 60, 61, 133, 134, 135, 136, 137, 138, 139, 140, 141, 142, 143, 144, 145, 146, 147, 148, 149, 150, 151, 152, 153, 154, 155, 156, 157, 158, 159, 160, 161, 162, 163, 164, 165, 166, 167, 168, 169, 170, 171, 172, 173, 174, 175, 176, 177, 178, 179, 180, 181, 182, 183, 184, 185, 186, 187, 188, 189, 190, 191, 192, 193, 194, 195, 196, 197, 198, 199, 200, 201, 202, 203, 204, 205, 206, 207, 208, 209, 210, 211, 212, 237, 238, 239, 240, 241, 242, 229, 230, 231, 232, 255, 256, 257, 258, 259, 260, 261, 262, 263, 264, 265, 268, 266, 267, 269, 270, 271, 272, 273, 274, 275, 276, 277, 278, 279] (by decide +kernel) (by decide +kernel)
set_option maxRecDepth 20000 in
theorem gL_plans_X6_excess : GoodIn wsL_plans (wsV RL 110 RX6 yX6_excess wsX6_excess) := goodIn_app (goodIn_of _ (by decide +kernel)) ggL_plans_X6_excess
theorem dL_plans_0 : decode cL_plans 0 = .ok (.aload_n 0, 1) := by decide +kernel
theorem dL_plans_1 : decode cL_plans 1 = .ok (.invokevirtual 91, 3) := by decide +kernel
theorem dL_plans_4 : decode cL_plans 4 = .ok (.istore_n 1, 1) := by decide +kernel
theorem dL_plans_5 : decode cL_plans 5 = .ok (.iconst 0, 1) := by decide +kernel
theorem dL_plans_6 : decode cL_plans 6 = .ok (.istore_n 2, 1) := by decide +kernel
theorem dL_plans_7 : decode cL_plans 7 = .ok (.iconst 0, 1) := by decide +kernel
theorem dL_plans_8 : decode cL_plans 8 = .ok (.istore_n 3, 1) := by decide +kernel
theorem dL_plans_9 : decode cL_plans 9 = .ok (.iconst 0, 1) := by decide +kernel
theorem dL_plans_10 : decode cL_plans 10 = .ok (.istore 4, 2) := by decide +kernel
theorem dL_plans_12 : decode cL_plans 12 = .ok (.iload_n 1, 1) := by decide +kernel
theorem dL_plans_13 : decode cL_plans 13 = .ok (.aload_n 0, 1) := by decide +kernel
theorem dL_plans_14 : decode cL_plans 14 = .ok (.invokevirtual 94, 3) := by decide +kernel
theorem dL_plans_17 : decode cL_plans 17 = .ok (.if_icmp .ne 7, 3) := by decide +kernel
theorem dL_plans_20 : decode cL_plans 20 = .ok (.iconst 1, 1) := by decide +kernel
theorem dL_plans_21 : decode cL_plans 21 = .ok (.goto 4, 3) := by decide +kernel
theorem dL_plans_24 : decode cL_plans 24 = .ok (.iconst 0, 1) := by decide +kernel
theorem dL_plans_25 : decode cL_plans 25 = .ok (.istore 5, 2) := by decide +kernel
theorem dL_plans_27 : decode cL_plans 27 = .ok (.iconst 0, 1) := by decide +kernel
theorem dL_plans_28 : decode cL_plans 28 = .ok (.istore 6, 2) := by decide +kernel
theorem dL_plans_30 : decode cL_plans 30 = .ok (.iload 6, 2) := by decide +kernel
theorem dL_plans_32 : decode cL_plans 32 = .ok (.iconst 3, 1) := by decide +kernel
theorem dL_plans_33 : decode cL_plans 33 = .ok (.if_icmp .ge 232, 3) := by decide +kernel
theorem dL_plans_36 : decode cL_plans 36 = .ok (.iload 5, 2) := by decide +kernel
theorem dL_plans_38 : decode cL_plans 38 = .ok (.ifCond .eq 227, 3) := by decide +kernel
theorem dL_plans_41 : decode cL_plans 41 = .ok (.iconst 0, 1) := by decide +kernel
theorem dL_plans_42 : decode cL_plans 42 = .ok (.istore 7, 2) := by decide +kernel
theorem dL_plans_44 : decode cL_plans 44 = .ok (.iconst 0, 1) := by decide +kernel
theorem dL_plans_45 : decode cL_plans 45 = .ok (.istore 8, 2) := by decide +kernel
theorem dL_plans_47 : decode cL_plans 47 = .ok (.iconst 0, 1) := by decide +kernel
theorem dL_plans_48 : decode cL_plans 48 = .ok (.istore 9, 2) := by decide +kernel
theorem dL_plans_50 : decode cL_plans 50 = .ok (.iconst 0, 1) := by decide +kernel
theorem dL_plans_51 : decode cL_plans 51 = .ok (.istore 10, 2) := by decide +kernel
theorem dL_plans_53 : decode cL_plans 53 = .ok (.iload 10, 2) := by decide +kernel
theorem dL_plans_55 : decode cL_plans 55 = .ok (.aload_n 0, 1) := by decide +kernel
theorem dL_plans_56 : decode cL_plans 56 = .ok (.invokevirtual 54, 3) := by decide +kernel
theorem dL_plans_59 : decode cL_plans 59 = .ok (.if_icmp .ge 135, 3) := by decide +kernel
theorem dL_plans_62 : decode cL_plans 62 = .ok (.aload_n 0, 1) := by decide +kernel
theorem dL_plans_63 : decode cL_plans 63 = .ok (.iload 10, 2) := by decide +kernel
theorem dL_plans_65 : decode cL_plans 65 = .ok (.iload 6, 2) := by decide +kernel
theorem dL_plans_67 : decode cL_plans 67 = .ok (.invokestatic 65, 3) := by decide +kernel
theorem dL_plans_70 : decode cL_plans 70 = .ok (.istore 11, 2) := by decide +kernel
theorem dL_plans_72 : decode cL_plans 72 = .ok (.iload 5, 2) := by decide +kernel
theorem dL_plans_74 : decode cL_plans 74 = .ok (.ifCond .eq 45, 3) := by decide +kernel
theorem dL_plans_77 : decode cL_plans 77 = .ok (.iload 11, 2) := by decide +kernel
theorem dL_plans_79 : decode cL_plans 79 = .ok (.ifCond .gt 36, 3) := by decide +kernel
theorem dL_plans_82 : decode cL_plans 82 = .ok (.aload_n 0, 1) := by decide +kernel
theorem dL_plans_83 : decode cL_plans 83 = .ok (.iload 10, 2) := by decide +kernel
theorem dL_plans_85 : decode cL_plans 85 = .ok (.invokestatic 97, 3) := by decide +kernel
theorem dL_plans_88 : decode cL_plans 88 = .ok (.iload 6, 2) := by decide +kernel
theorem dL_plans_90 : decode cL_plans 90 = .ok (.if_icmp .eq 29, 3) := by decide +kernel
theorem dL_plans_93 : decode cL_plans 93 = .ok (.aload_n 0, 1) := by decide +kernel
theorem dL_plans_94 : decode cL_plans 94 = .ok (.iload 10, 2) := by decide +kernel
theorem dL_plans_96 : decode cL_plans 96 = .ok (.invokestatic 74, 3) := by decide +kernel
theorem dL_plans_99 : decode cL_plans 99 = .ok (.iload 6, 2) := by decide +kernel
theorem dL_plans_101 : decode cL_plans 101 = .ok (.if_icmp .eq 18, 3) := by decide +kernel
theorem dL_plans_104 : decode cL_plans 104 = .ok (.aload_n 0, 1) := by decide +kernel
theorem dL_plans_105 : decode cL_plans 105 = .ok (.iload 10, 2) := by decide +kernel
theorem dL_plans_107 : decode cL_plans 107 = .ok (.invokestatic 100, 3) := by decide +kernel
theorem dL_plans_110 : decode cL_plans 110 = .ok (.iload 6, 2) := by decide +kernel
theorem dL_plans_112 : decode cL_plans 112 = .ok (.if_icmp .eq 7, 3) := by decide +kernel
theorem dL_plans_115 : decode cL_plans 115 = .ok (.iconst 1, 1) := by decide +kernel
theorem dL_plans_116 : decode cL_plans 116 = .ok (.goto 4, 3) := by decide +kernel
theorem dL_plans_119 : decode cL_plans 119 = .ok (.iconst 0, 1) := by decide +kernel
theorem dL_plans_120 : decode cL_plans 120 = .ok (.istore 5, 2) := by decide +kernel
theorem dL_plans_122 : decode cL_plans 122 = .ok (.iload 7, 2) := by decide +kernel
theorem dL_plans_124 : decode cL_plans 124 = .ok (.aload_n 0, 1) := by decide +kernel
theorem dL_plans_125 : decode cL_plans 125 = .ok (.iload 10, 2) := by decide +kernel
theorem dL_plans_127 : decode cL_plans 127 = .ok (.invokestatic 97, 3) := by decide +kernel
theorem dL_plans_130 : decode cL_plans 130 = .ok (.iload 6, 2) := by decide +kernel
theorem dL_plans_132 : decode cL_plans 132 = .ok (.if_icmp .ne 8, 3) := by decide +kernel
theorem dL_plans_135 : decode cL_plans 135 = .ok (.iload 11, 2) := by decide +kernel
theorem dL_plans_137 : decode cL_plans 137 = .ok (.goto 4, 3) := by decide +kernel
theorem dL_plans_140 : decode cL_plans 140 = .ok (.iconst 0, 1) := by decide +kernel
theorem dL_plans_141 : decode cL_plans 141 = .ok (.iadd, 1) := by decide +kernel
theorem dL_plans_142 : decode cL_plans 142 = .ok (.istore 7, 2) := by decide +kernel
theorem dL_plans_144 : decode cL_plans 144 = .ok (.iload 8, 2) := by decide +kernel
theorem dL_plans_146 : decode cL_plans 146 = .ok (.aload_n 0, 1) := by decide +kernel
theorem dL_plans_147 : decode cL_plans 147 = .ok (.iload 10, 2) := by decide +kernel
theorem dL_plans_149 : decode cL_plans 149 = .ok (.invokestatic 74, 3) := by decide +kernel
theorem dL_plans_152 : decode cL_plans 152 = .ok (.iload 6, 2) := by decide +kernel
theorem dL_plans_154 : decode cL_plans 154 = .ok (.if_icmp .ne 8, 3) := by decide +kernel
theorem dL_plans_157 : decode cL_plans 157 = .ok (.iload 11, 2) := by decide +kernel
theorem dL_plans_159 : decode cL_plans 159 = .ok (.goto 4, 3) := by decide +kernel
theorem dL_plans_162 : decode cL_plans 162 = .ok (.iconst 0, 1) := by decide +kernel
theorem dL_plans_163 : decode cL_plans 163 = .ok (.iadd, 1) := by decide +kernel
theorem dL_plans_164 : decode cL_plans 164 = .ok (.istore 8, 2) := by decide +kernel
theorem dL_plans_166 : decode cL_plans 166 = .ok (.iload 9, 2) := by decide +kernel
theorem dL_plans_168 : decode cL_plans 168 = .ok (.aload_n 0, 1) := by decide +kernel
theorem dL_plans_169 : decode cL_plans 169 = .ok (.iload 10, 2) := by decide +kernel
theorem dL_plans_171 : decode cL_plans 171 = .ok (.invokestatic 100, 3) := by decide +kernel
theorem dL_plans_174 : decode cL_plans 174 = .ok (.iload 6, 2) := by decide +kernel
theorem dL_plans_176 : decode cL_plans 176 = .ok (.if_icmp .ne 8, 3) := by decide +kernel
theorem dL_plans_179 : decode cL_plans 179 = .ok (.iload 11, 2) := by decide +kernel
theorem dL_plans_181 : decode cL_plans 181 = .ok (.goto 4, 3) := by decide +kernel
theorem dL_plans_184 : decode cL_plans 184 = .ok (.iconst 0, 1) := by decide +kernel
theorem dL_plans_185 : decode cL_plans 185 = .ok (.iadd, 1) := by decide +kernel
theorem dL_plans_186 : decode cL_plans 186 = .ok (.istore 9, 2) := by decide +kernel
theorem dL_plans_188 : decode cL_plans 188 = .ok (.iinc 10 1, 3) := by decide +kernel
theorem dL_plans_191 : decode cL_plans 191 = .ok (.goto (-138), 3) := by decide +kernel
theorem dL_plans_194 : decode cL_plans 194 = .ok (.iload 7, 2) := by decide +kernel
theorem dL_plans_196 : decode cL_plans 196 = .ok (.iload_n 2, 1) := by decide +kernel
theorem dL_plans_197 : decode cL_plans 197 = .ok (.if_icmp .le 8, 3) := by decide +kernel
theorem dL_plans_200 : decode cL_plans 200 = .ok (.iload 7, 2) := by decide +kernel
theorem dL_plans_202 : decode cL_plans 202 = .ok (.goto 4, 3) := by decide +kernel
theorem dL_plans_205 : decode cL_plans 205 = .ok (.iload_n 2, 1) := by decide +kernel
theorem dL_plans_206 : decode cL_plans 206 = .ok (.istore_n 2, 1) := by decide +kernel
theorem dL_plans_207 : decode cL_plans 207 = .ok (.iload 8, 2) := by decide +kernel
theorem dL_plans_209 : decode cL_plans 209 = .ok (.iload_n 3, 1) := by decide +kernel
theorem dL_plans_210 : decode cL_plans 210 = .ok (.if_icmp .le 8, 3) := by decide +kernel
theorem dL_plans_213 : decode cL_plans 213 = .ok (.iload 8, 2) := by decide +kernel
theorem dL_plans_215 : decode cL_plans 215 = .ok (.goto 4, 3) := by decide +kernel
theorem dL_plans_218 : decode cL_plans 218 = .ok (.iload_n 3, 1) := by decide +kernel
theorem dL_plans_219 : decode cL_plans 219 = .ok (.istore_n 3, 1) := by decide +kernel
theorem dL_plans_220 : decode cL_plans 220 = .ok (.iload 9, 2) := by decide +kernel
theorem dL_plans_222 : decode cL_plans 222 = .ok (.iload 4, 2) := by decide +kernel
theorem dL_plans_224 : decode cL_plans 224 = .ok (.if_icmp .le 8, 3) := by decide +kernel
theorem dL_plans_227 : decode cL_plans 227 = .ok (.iload 9, 2) := by decide +kernel
theorem dL_plans_229 : decode cL_plans 229 = .ok (.goto 5, 3) := by decide +kernel
theorem dL_plans_232 : decode cL_plans 232 = .ok (.iload 4, 2) := by decide +kernel
theorem dL_plans_234 : decode cL_plans 234 = .ok (.istore 4, 2) := by decide +kernel
theorem dL_plans_236 : decode cL_plans 236 = .ok (.iload 5, 2) := by decide +kernel
theorem dL_plans_238 : decode cL_plans 238 = .ok (.ifCond .eq 18, 3) := by decide +kernel
theorem dL_plans_241 : decode cL_plans 241 = .ok (.aload_n 0, 1) := by decide +kernel
theorem dL_plans_242 : decode cL_plans 242 = .ok (.iload 6, 2) := by decide +kernel
theorem dL_plans_244 : decode cL_plans 244 = .ok (.invokestatic 102, 3) := by decide +kernel
theorem dL_plans_247 : decode cL_plans 247 = .ok (.iload 9, 2) := by decide +kernel
theorem dL_plans_249 : decode cL_plans 249 = .ok (.if_icmp .ne 7, 3) := by decide +kernel
theorem dL_plans_252 : decode cL_plans 252 = .ok (.iconst 1, 1) := by decide +kernel
theorem dL_plans_253 : decode cL_plans 253 = .ok (.goto 4, 3) := by decide +kernel
theorem dL_plans_256 : decode cL_plans 256 = .ok (.iconst 0, 1) := by decide +kernel
theorem dL_plans_257 : decode cL_plans 257 = .ok (.istore 5, 2) := by decide +kernel
theorem dL_plans_259 : decode cL_plans 259 = .ok (.iinc 6 1, 3) := by decide +kernel
theorem dL_plans_262 : decode cL_plans 262 = .ok (.goto (-232), 3) := by decide +kernel
theorem dL_plans_265 : decode cL_plans 265 = .ok (.iload 5, 2) := by decide +kernel
theorem dL_plans_267 : decode cL_plans 267 = .ok (.ifCond .eq 58, 3) := by decide +kernel
theorem dL_plans_270 : decode cL_plans 270 = .ok (.iload_n 2, 1) := by decide +kernel
theorem dL_plans_271 : decode cL_plans 271 = .ok (.iload_n 1, 1) := by decide +kernel
theorem dL_plans_272 : decode cL_plans 272 = .ok (.if_icmp .ne 53, 3) := by decide +kernel
theorem dL_plans_275 : decode cL_plans 275 = .ok (.iload_n 3, 1) := by decide +kernel
theorem dL_plans_276 : decode cL_plans 276 = .ok (.aload_n 0, 1) := by decide +kernel
theorem dL_plans_277 : decode cL_plans 277 = .ok (.invokevirtual 104, 3) := by decide +kernel
theorem dL_plans_280 : decode cL_plans 280 = .ok (.if_icmp .ne 45, 3) := by decide +kernel
theorem dL_plans_283 : decode cL_plans 283 = .ok (.iload 4, 2) := by decide +kernel
theorem dL_plans_285 : decode cL_plans 285 = .ok (.aload_n 0, 1) := by decide +kernel
theorem dL_plans_286 : decode cL_plans 286 = .ok (.invokevirtual 107, 3) := by decide +kernel
theorem dL_plans_289 : decode cL_plans 289 = .ok (.if_icmp .ne 36, 3) := by decide +kernel
theorem dL_plans_292 : decode cL_plans 292 = .ok (.iload_n 1, 1) := by decide +kernel
theorem dL_plans_293 : decode cL_plans 293 = .ok (.iload_n 3, 1) := by decide +kernel
theorem dL_plans_294 : decode cL_plans 294 = .ok (.if_icmp .gt 31, 3) := by decide +kernel
theorem dL_plans_297 : decode cL_plans 297 = .ok (.iload_n 1, 1) := by decide +kernel
theorem dL_plans_298 : decode cL_plans 298 = .ok (.iload 4, 2) := by decide +kernel
theorem dL_plans_300 : decode cL_plans 300 = .ok (.if_icmp .gt 25, 3) := by decide +kernel
theorem dL_plans_303 : decode cL_plans 303 = .ok (.aload_n 0, 1) := by decide +kernel
theorem dL_plans_304 : decode cL_plans 304 = .ok (.invokevirtual 71, 3) := by decide +kernel
theorem dL_plans_307 : decode cL_plans 307 = .ok (.iload_n 1, 1) := by decide +kernel
theorem dL_plans_308 : decode cL_plans 308 = .ok (.if_icmp .gt 17, 3) := by decide +kernel
theorem dL_plans_311 : decode cL_plans 311 = .ok (.iload_n 3, 1) := by decide +kernel
theorem dL_plans_312 : decode cL_plans 312 = .ok (.iconst 2, 1) := by decide +kernel
theorem dL_plans_313 : decode cL_plans 313 = .ok (.aload_n 0, 1) := by decide +kernel
theorem dL_plans_314 : decode cL_plans 314 = .ok (.invokevirtual 71, 3) := by decide +kernel
theorem dL_plans_317 : decode cL_plans 317 = .ok (.imul, 1) := by decide +kernel
theorem dL_plans_318 : decode cL_plans 318 = .ok (.if_icmp .gt 7, 3) := by decide +kernel
theorem dL_plans_321 : decode cL_plans 321 = .ok (.iconst 1, 1) := by decide +kernel
theorem dL_plans_322 : decode cL_plans 322 = .ok (.goto 4, 3) := by decide +kernel
theorem dL_plans_325 : decode cL_plans 325 = .ok (.iconst 0, 1) := by decide +kernel
theorem dL_plans_326 : decode cL_plans 326 = .ok (.istore 5, 2) := by decide +kernel
theorem dL_plans_328 : decode cL_plans 328 = .ok (.iload 5, 2) := by decide +kernel
theorem dL_plans_330 : decode cL_plans 330 = .ok (.ifCond .eq 31, 3) := by decide +kernel
theorem dL_plans_333 : decode cL_plans 333 = .ok (.aload_n 0, 1) := by decide +kernel
theorem dL_plans_334 : decode cL_plans 334 = .ok (.invokevirtual 110, 3) := by decide +kernel
theorem dL_plans_337 : decode cL_plans 337 = .ok (.aload_n 0, 1) := by decide +kernel
theorem dL_plans_338 : decode cL_plans 338 = .ok (.invokevirtual 54, 3) := by decide +kernel
theorem dL_plans_341 : decode cL_plans 341 = .ok (.ifCond .ne 7, 3) := by decide +kernel
theorem dL_plans_344 : decode cL_plans 344 = .ok (.fconst 1, 1) := by decide +kernel
theorem dL_plans_345 : decode cL_plans 345 = .ok (.goto 8, 3) := by decide +kernel
theorem dL_plans_348 : decode cL_plans 348 = .ok (.iload_n 3, 1) := by decide +kernel
theorem dL_plans_349 : decode cL_plans 349 = .ok (.i2f, 1) := by decide +kernel
theorem dL_plans_350 : decode cL_plans 350 = .ok (.iload_n 1, 1) := by decide +kernel
theorem dL_plans_351 : decode cL_plans 351 = .ok (.i2f, 1) := by decide +kernel
theorem dL_plans_352 : decode cL_plans 352 = .ok (.fdiv, 1) := by decide +kernel
theorem dL_plans_353 : decode cL_plans 353 = .ok (.fcmp .l, 1) := by decide +kernel
theorem dL_plans_354 : decode cL_plans 354 = .ok (.ifCond .ne 7, 3) := by decide +kernel
theorem dL_plans_357 : decode cL_plans 357 = .ok (.iconst 1, 1) := by decide +kernel
theorem dL_plans_358 : decode cL_plans 358 = .ok (.goto 4, 3) := by decide +kernel
theorem dL_plans_361 : decode cL_plans 361 = .ok (.iconst 0, 1) := by decide +kernel
theorem dL_plans_362 : decode cL_plans 362 = .ok (.ireturn, 1) := by decide +kernel
set_option maxRecDepth 20000 in
theorem ggL_law_X6_init : GoodIn wsL_law wsX6_init := goodIn_r _ [5, 6, 7, 8, 9, 10, 11, 12, 13, 14, 15, 16, 17, 18, 19, 20, 21, 22, 23, 24, 25, 26, 27, 28, 29, 30, 31, 32, 33, 34, 35, 36, 37, 38, 39, 40, 41, 42, 43, 44, 45, 46, 47, 48, 49, 50, 51, 52, 53, 54, 55, 56, 57, 58, 59, 60, 61, 62, 63, 64, 65, 430, 431, 423, 424, 425, 426, 427, 428, 429, 432, 433, 434, 435, 436, 437, 438, 439, 440, 441, 442, 443, 444, 445, 446, 447, 448, 449, 450, 451, 452] (by decide +kernel) (by decide +kernel)
set_option maxRecDepth 20000 in
theorem gL_law_X6_init : GoodIn wsL_law (wsX6_init) := ggL_law_X6_init
set_option maxRecDepth 20000 in
theorem ggL_law_L_divides : GoodIn wsL_law wsL_divides := goodIn_ca (goodIn_r _ [69, 70, 71, 72, 2, 73, 24, 74, 75, 76, 77, 78, 12, 28, 79, 80, 81, 23, 82, 83, 84, 85, 86, 87, 50, 88, 89, 90, 91, 92, 49, 93, 58, 94, 59, 61, 95, 96, 97, 98, 99, 100, 101, 102, 103, 104, 105, 106, 107, 108, 109, 110, 111, 11, 112, 113, 33, 114, 115, 116, 117, 118, 119, 120, 121, 122, 123, 124, 125, 126, 127, 128, 129, 130, 131, 132, 133, 134, 135, 136, 137, 138, 139, 140, 141, 142, 143, 144, 145, 146, 147, 148, 149, 150, 151, 152, 153, 154, 155, 156, 157, 158, 51, 52, 159, 160, 161, 162, 163, 164, 165, 166, 167, 168, 169, 27, 170, 171, 172, 173, 65, 174, 175, 176, 177, 178, 179, 180, 181, 182, 183, 184, 185, 186, 187, 188, 68, 189, 190, 191, 192, 193, 194, 195, 196, 197, 198, 199, 200, 201, 202, 203, 204, 205, 206, 207, 208, 209, 210, 211, 212, 213, 214, 215, 216, 217, 218, 219, 220, 221, 222, 223, 224, 225, 226, 227, 228, 229, 230, 231, 232, 233, 234, 235, 236, 237, 238, 239, 240, 241, 242, 243, 244, 245, 246, 247, 423, 424, 425, 426, 427, 428, 429, 441, 442, 443, 444, 445, 446, 448, 449, 450, 451, 452, 430, 431, 447] (by decide +kernel) (by decide +kernel)) (goodIn_sub (fun _ h => List.mem_append_left _ (List.mem_append_left _ (List.mem_append_right _ h))) (by decide +kernel))
set_option maxRecDepth 20000 in
theorem gL_law_L_divides : GoodIn wsL_law (va_wsS RL 115 yL_divides wsL_divides) := goodIn_app (goodIn_of _ (by decide +kernel)) ggL_law_L_divides
set_option maxRecDepth 20000 in
theorem ggL_law_L_plans : GoodIn wsL_law wsL_plans := goodIn_ca (goodIn_r _ [250, 251, 252, 253, 2, 254, 20, 255, 256, 257, 258, 259, 12, 260, 261, 262, 19, 263, 264, 265, 266, 267, 268, 41, 269, 270, 271, 42, 272, 273, 274, 275, 276, 277, 101, 278, 279, 280, 281, 282, 43, 283, 110, 111, 11, 112, 113, 33, 284, 285, 286, 287, 288, 289, 290, 291, 292, 293, 294, 295, 100, 102, 183, 184, 185, 186, 211, 212, 68, 213, 190, 214, 215, 216, 217, 195, 196, 197, 198, 199, 200, 201, 202, 203, 218, 296, 297, 298, 299, 300, 301, 302, 222, 223, 224, 225, 226, 227, 228, 28, 74, 75, 76, 77, 78, 24, 79, 80, 81, 23, 82, 83, 84, 85, 86, 87, 50, 88, 89, 90, 91, 92, 49, 93, 58, 94, 59, 61, 95, 96, 97, 98, 99, 103, 104, 105, 106, 107, 108, 109, 114, 115, 116, 117, 118, 119, 120, 121, 122, 123, 124, 125, 126, 127, 128, 129, 130, 131, 132, 133, 134, 135, 136, 137, 138, 139, 140, 141, 142, 143, 144, 145, 146, 147, 148, 149, 150, 151, 152, 153, 154, 155, 156, 157, 158, 51, 52, 159, 160, 161, 162, 163, 164, 165, 166, 167, 168, 169, 27, 170, 171, 172, 173, 65, 174, 175, 176, 177, 178, 179, 180, 181, 182, 303, 304, 305, 306, 307, 308, 309, 16, 310, 311, 312, 313, 314, 315, 316, 317, 318, 319, 320, 321, 322, 323, 324, 325, 326, 327, 328, 329, 330, 331, 332, 333, 334, 335, 70, 71, 72, 73, 336, 337, 338, 339, 423, 424, 425, 426, 427, 428, 429, 437, 438, 439, 440, 430, 431, 447, 441, 442, 443, 444, 445, 446, 448, 449, 450, 451, 452, 432, 433, 434, 435, 436] (by decide +kernel) (by decide +kernel)) (goodIn_sub (fun _ h => List.mem_append_left _ (List.mem_append_left _ (List.mem_append_right _ h))) (by decide +kernel))
set_option maxRecDepth 20000 in
theorem gL_law_L_plans : GoodIn wsL_law (va_wsS RL 119 yL_plans wsL_plans) := goodIn_app (goodIn_of _ (by decide +kernel)) ggL_law_L_plans
set_option maxRecDepth 20000 in
theorem ggL_law_L_cell : GoodIn wsL_law wsL_cell := goodIn_r _ [342, 343, 344] (by decide +kernel) (by decide +kernel)
set_option maxRecDepth 20000 in
theorem gL_law_L_cell : GoodIn wsL_law (va_wsS RL 122 yL_cell wsL_cell) := goodIn_app (goodIn_of _ (by decide +kernel)) ggL_law_L_cell
set_option maxRecDepth 20000 in
theorem ggL_law_X6_jobs : GoodIn wsL_law wsX6_jobs := goodIn_r _ [186, 12, 423, 424, 425, 426, 427, 428, 429, 430, 431] (by decide +kernel) (by decide +kernel)
set_option maxRecDepth 20000 in
theorem gL_law_X6_jobs : GoodIn wsL_law (wsV RL 54 RX6 yX6_jobs wsX6_jobs) := goodIn_app (goodIn_of _ (by decide +kernel)) ggL_law_X6_jobs
set_option maxRecDepth 20000 in
theorem ggL_law_L_addJob : GoodIn wsL_law wsL_addJob := goodIn_ca (goodIn_ca (goodIn_r _ [347, 348, 349, 350, 351, 352, 2, 353, 354, 355, 356, 357, 12, 16, 358, 359, 360, 361, 362, 363, 364, 259, 78, 423, 424, 425, 426, 427, 428, 429, 430, 431, 432, 433, 434, 435, 436] (by decide +kernel) (by decide +kernel)) (goodIn_sub (fun _ h => List.mem_append_left _ (List.mem_append_right _ h)) (by decide +kernel))) (goodIn_sub (fun _ h => List.mem_append_right _ h) (by decide +kernel))
set_option maxRecDepth 20000 in
theorem gL_law_L_addJob : GoodIn wsL_law (va_wsS RL 126 yL_addJob wsL_addJob) := goodIn_app (goodIn_of _ (by decide +kernel)) ggL_law_L_addJob
set_option maxRecDepth 20000 in
theorem ggL_law_L_time : GoodIn wsL_law wsL_time := goodIn_ca (goodIn_r _ [213, 190, 214, 215, 216, 2, 217, 12, 195, 196, 197, 198, 199, 200, 201, 202, 203, 218, 110, 111, 11, 112, 113, 33, 423, 424, 425, 426, 427, 428, 429, 430, 431] (by decide +kernel) (by decide +kernel)) (goodIn_sub (fun _ h => List.mem_append_left _ (List.mem_append_left _ (List.mem_append_right _ h))) (by decide +kernel))
set_option maxRecDepth 20000 in
theorem gL_law_L_time : GoodIn wsL_law (va_wsS RL 65 yL_time wsL_time) := goodIn_app (goodIn_of _ (by decide +kernel)) ggL_law_L_time
set_option maxRecDepth 20000 in
theorem ggL_law_L_setTime : GoodIn wsL_law wsL_setTime := goodIn_ca (goodIn_ca (goodIn_ca (goodIn_r _ [367, 190, 348, 349, 368, 369, 370, 2, 371, 354, 355, 356, 357, 16, 12, 195, 196, 197, 198, 199, 200, 201, 202, 203, 358, 359, 360, 218, 110, 111, 11, 112, 113, 33, 361, 362, 363, 364, 259, 78, 423, 424, 425, 426, 427, 428, 429, 432, 433, 434, 435, 436, 430, 431] (by decide +kernel) (by decide +kernel)) (goodIn_sub (fun _ h => List.mem_append_left _ (List.mem_append_right _ h)) (by decide +kernel))) (goodIn_sub (fun _ h => List.mem_append_right _ h) (by decide +kernel))) (goodIn_sub (fun _ h => List.mem_append_left _ (List.mem_append_left _ (List.mem_append_right _ h))) (by decide +kernel))
set_option maxRecDepth 20000 in
theorem gL_law_L_setTime : GoodIn wsL_law (va_wsS RL 129 yL_setTime wsL_setTime) := goodIn_app (goodIn_of _ (by decide +kernel)) ggL_law_L_setTime
set_option maxRecDepth 20000 in
theorem ggL_law_L_machine : GoodIn wsL_law wsL_machine := goodIn_ca (goodIn_r _ [305, 190, 306, 307, 308, 2, 309, 16, 195, 196, 197, 198, 199, 200, 12, 423, 424, 425, 426, 427, 428, 429, 432, 433, 434, 435, 436, 430, 431] (by decide +kernel) (by decide +kernel)) (goodIn_sub (fun _ h => List.mem_append_left _ (List.mem_append_left _ (List.mem_append_right _ h))) (by decide +kernel))
set_option maxRecDepth 20000 in
theorem gL_law_L_machine : GoodIn wsL_law (va_wsS RL 100 yL_machine wsL_machine) := goodIn_app (goodIn_of _ (by decide +kernel)) ggL_law_L_machine
set_option maxRecDepth 20000 in
theorem ggL_law_X6_removeLast : GoodIn wsL_law wsX6_removeLast := goodIn_r _ [375, 12, 361, 362, 363, 2, 364, 259, 78, 423, 424, 425, 426, 427, 428, 429, 430, 431] (by decide +kernel) (by decide +kernel)
set_option maxRecDepth 20000 in
theorem gL_law_X6_removeLast : GoodIn wsL_law (wsV RL 131 RX6 yX6_removeLast wsX6_removeLast) := goodIn_app (goodIn_of _ (by decide +kernel)) ggL_law_X6_removeLast
set_option maxRecDepth 20000 in
theorem ggL_law_L_assign : GoodIn wsL_law wsL_assign := goodIn_ca (goodIn_ca (goodIn_r _ [378, 190, 349, 379, 380, 381, 2, 382, 356, 357, 12, 16, 195, 196, 197, 198, 199, 200, 201, 202, 203, 218, 110, 111, 11, 112, 113, 33, 423, 424, 425, 426, 427, 428, 429, 432, 433, 434, 435, 436, 430, 431] (by decide +kernel) (by decide +kernel)) (goodIn_sub (fun _ h => List.mem_append_right _ h) (by decide +kernel))) (goodIn_sub (fun _ h => List.mem_append_left _ (List.mem_append_left _ (List.mem_append_right _ h))) (by decide +kernel))
set_option maxRecDepth 20000 in
theorem gL_law_L_assign : GoodIn wsL_law (va_wsS RL 134 yL_assign wsL_assign) := goodIn_app (goodIn_of _ (by decide +kernel)) ggL_law_L_assign
set_option maxRecDepth 20000 in
theorem ggL_law_X6_length : GoodIn wsL_law wsX6_length := goodIn_r _ [335, 12, 16, 326, 327, 328, 11, 329, 330, 277, 101, 278, 331, 318, 319, 320, 113, 321, 110, 111, 112, 33, 423, 424, 425, 426, 427, 428, 429, 432, 433, 434, 435, 436, 430, 431] (by decide +kernel) (by decide +kernel)
set_option maxRecDepth 20000 in
theorem gL_law_X6_length : GoodIn wsL_law (wsV RL 107 RX6 yX6_length wsX6_length) := goodIn_app (goodIn_of _ (by decide +kernel)) ggL_law_X6_length
set_option maxRecDepth 20000 in
theorem ggL_law_X6_improve : GoodIn wsL_law wsX6_improve := goodIn_r _ [386, 16, 12, 387, 388, 389, 15, 390, 391, 392, 393, 394, 37, 395, 396, 397, 398, 399, 277, 101, 278, 400, 100, 102, 401, 318, 319, 11, 320, 113, 321, 110, 111, 112, 33, 402, 403, 404, 405, 406, 407, 408, 409, 410, 411, 412, 413, 414, 415, 416, 417, 418, 326, 327, 328, 329, 330, 331, 423, 424, 425, 426, 427, 428, 429, 432, 433, 434, 435, 436, 430, 431] (by decide +kernel) (by decide +kernel)
set_option maxRecDepth 20000 in
theorem gL_law_X6_improve : GoodIn wsL_law (wsV RL 136 RX6 yX6_improve wsX6_improve) := goodIn_app (goodIn_of _ (by decide +kernel)) ggL_law_X6_improve
set_option maxRecDepth 20000 in
theorem ggL_law_L_roundedOn : GoodIn wsL_law wsL_roundedOn := goodIn_ca (goodIn_r _ [224, 190, 225, 226, 227, 2, 228, 28, 195, 196, 197, 198, 199, 200, 12, 74, 75, 76, 77, 78, 24, 79, 80, 81, 23, 82, 83, 84, 85, 86, 87, 50, 88, 89, 90, 91, 92, 49, 93, 58, 94, 59, 61, 95, 96, 97, 98, 99, 100, 101, 102, 103, 104, 105, 106, 107, 108, 109, 110, 111, 11, 112, 113, 33, 114, 115, 116, 117, 118, 119, 120, 121, 122, 123, 124, 125, 126, 127, 128, 129, 130, 131, 132, 133, 134, 135, 136, 137, 138, 139, 140, 141, 142, 143, 144, 145, 146, 147, 148, 149, 150, 151, 152, 153, 154, 155, 156, 157, 158, 51, 52, 159, 160, 161, 162, 163, 164, 165, 166, 167, 168, 169, 27, 170, 171, 172, 173, 65, 174, 175, 176, 177, 178, 179, 180, 181, 182, 423, 424, 425, 426, 427, 428, 429, 447, 430, 431, 441, 442, 443, 444, 445, 446, 448, 449, 450, 451, 452] (by decide +kernel) (by decide +kernel)) (goodIn_sub (fun _ h => List.mem_append_left _ (List.mem_append_left _ (List.mem_append_right _ h))) (by decide +kernel))
set_option maxRecDepth 20000 in
theorem gL_law_L_roundedOn : GoodIn wsL_law (va_wsS RL 74 yL_roundedOn wsL_roundedOn) := goodIn_app (goodIn_of _ (by decide +kernel)) ggL_law_L_roundedOn
set_option maxRecDepth 20000 in
theorem ggL_law_X6_takeRounded : GoodIn wsL_law wsX6_takeRounded := goodIn_r _ [422, 12, 16, 28, 74, 75, 76, 2, 77, 78, 24, 79, 80, 81, 23, 82, 83, 84, 85, 86, 87, 50, 88, 89, 90, 91, 92, 49, 93, 58, 94, 59, 61, 95, 96, 97, 98, 99, 100, 101, 102, 103, 104, 105, 106, 107, 108, 109, 110, 111, 11, 112, 113, 33, 114, 115, 116, 117, 118, 119, 120, 121, 122, 123, 124, 125, 126, 127, 128, 129, 130, 131, 132, 133, 134, 135, 136, 137, 138, 139, 140, 141, 142, 143, 144, 145, 146, 147, 148, 149, 150, 151, 152, 153, 154, 155, 156, 157, 158, 51, 52, 159, 160, 161, 162, 163, 164, 165, 166, 167, 168, 169, 27, 170, 171, 172, 173, 65, 174, 175, 176, 177, 178, 179, 180, 181, 182, 423, 424, 425, 426, 427, 428, 429, 430, 431, 432, 433, 434, 435, 436, 447, 441, 442, 443, 444, 445, 446, 448, 449, 450, 451, 452] (by decide +kernel) (by decide +kernel)
set_option maxRecDepth 20000 in
theorem gL_law_X6_takeRounded : GoodIn wsL_law (wsV RL 139 RX6 yX6_takeRounded wsX6_takeRounded) := goodIn_app (goodIn_of _ (by decide +kernel)) ggL_law_X6_takeRounded
set_option maxRecDepth 20000 in
theorem ggL_law_X6_roundedLength : GoodIn wsL_law wsX6_roundedLength := goodIn_r _ [325, 12, 28, 74, 75, 76, 2, 77, 78, 24, 79, 80, 81, 23, 82, 83, 84, 85, 86, 87, 50, 88, 89, 90, 91, 92, 49, 93, 58, 94, 59, 61, 95, 96, 97, 98, 99, 100, 101, 102, 103, 104, 105, 106, 107, 108, 109, 110, 111, 11, 112, 113, 33, 114, 115, 116, 117, 118, 119, 120, 121, 122, 123, 124, 125, 126, 127, 128, 129, 130, 131, 132, 133, 134, 135, 136, 137, 138, 139, 140, 141, 142, 143, 144, 145, 146, 147, 148, 149, 150, 151, 152, 153, 154, 155, 156, 157, 158, 51, 52, 159, 160, 161, 162, 163, 164, 165, 166, 167, 168, 169, 27, 170, 171, 172, 173, 65, 174, 175, 176, 177, 178, 179, 180, 181, 182, 326, 327, 328, 329, 330, 277, 278, 331, 318, 319, 320, 321, 423, 424, 425, 426, 427, 428, 429, 447, 441, 442, 443, 444, 445, 446, 448, 449, 450, 451, 452, 430, 431] (by decide +kernel) (by decide +kernel)
set_option maxRecDepth 20000 in
theorem gL_law_X6_roundedLength : GoodIn wsL_law (wsV RL 104 RX6 yX6_roundedLength wsX6_roundedLength) := goodIn_app (goodIn_of _ (by decide +kernel)) ggL_law_X6_roundedLength
theorem dL_law_0 : decode cL_law 0 = .ok (.new 10, 3) := by decide +kernel
theorem dL_law_3 : decode cL_law 3 = .ok (.dup, 1) := by decide +kernel
theorem dL_law_4 : decode cL_law 4 = .ok (.invokespecial 114, 3) := by decide +kernel
theorem dL_law_7 : decode cL_law 7 = .ok (.astore_n 1, 1) := by decide +kernel
theorem dL_law_8 : decode cL_law 8 = .ok (.aload_n 1, 1) := by decide +kernel
theorem dL_law_9 : decode cL_law 9 = .ok (.invokestatic 115, 3) := by decide +kernel
theorem dL_law_12 : decode cL_law 12 = .ok (.ifCond .eq 14, 3) := by decide +kernel
theorem dL_law_15 : decode cL_law 15 = .ok (.aload_n 1, 1) := by decide +kernel
theorem dL_law_16 : decode cL_law 16 = .ok (.invokestatic 119, 3) := by decide +kernel
theorem dL_law_19 : decode cL_law 19 = .ok (.ifCond .eq 7, 3) := by decide +kernel
theorem dL_law_22 : decode cL_law 22 = .ok (.iconst 1, 1) := by decide +kernel
theorem dL_law_23 : decode cL_law 23 = .ok (.goto 4, 3) := by decide +kernel
theorem dL_law_26 : decode cL_law 26 = .ok (.iconst 0, 1) := by decide +kernel
theorem dL_law_27 : decode cL_law 27 = .ok (.istore_n 2, 1) := by decide +kernel
theorem dL_law_28 : decode cL_law 28 = .ok (.iconst 0, 1) := by decide +kernel
theorem dL_law_29 : decode cL_law 29 = .ok (.istore_n 3, 1) := by decide +kernel
theorem dL_law_30 : decode cL_law 30 = .ok (.iload_n 3, 1) := by decide +kernel
theorem dL_law_31 : decode cL_law 31 = .ok (.bipush 16, 2) := by decide +kernel
theorem dL_law_33 : decode cL_law 33 = .ok (.if_icmp .ge 563, 3) := by decide +kernel
theorem dL_law_36 : decode cL_law 36 = .ok (.iload_n 2, 1) := by decide +kernel
theorem dL_law_37 : decode cL_law 37 = .ok (.ifCond .eq 559, 3) := by decide +kernel
theorem dL_law_40 : decode cL_law 40 = .ok (.aload_n 0, 1) := by decide +kernel
theorem dL_law_41 : decode cL_law 41 = .ok (.iload_n 3, 1) := by decide +kernel
theorem dL_law_42 : decode cL_law 42 = .ok (.invokestatic 122, 3) := by decide +kernel
theorem dL_law_45 : decode cL_law 45 = .ok (.istore 4, 2) := by decide +kernel
theorem dL_law_47 : decode cL_law 47 = .ok (.iload 4, 2) := by decide +kernel
theorem dL_law_49 : decode cL_law 49 = .ok (.bipush 8, 2) := by decide +kernel
theorem dL_law_51 : decode cL_law 51 = .ok (.idiv, 1) := by decide +kernel
theorem dL_law_52 : decode cL_law 52 = .ok (.istore 5, 2) := by decide +kernel
theorem dL_law_54 : decode cL_law 54 = .ok (.aload_n 1, 1) := by decide +kernel
theorem dL_law_55 : decode cL_law 55 = .ok (.invokevirtual 54, 3) := by decide +kernel
theorem dL_law_58 : decode cL_law 58 = .ok (.istore 6, 2) := by decide +kernel
theorem dL_law_60 : decode cL_law 60 = .ok (.iload 6, 2) := by decide +kernel
theorem dL_law_62 : decode cL_law 62 = .ok (.ifCond .ne 7, 3) := by decide +kernel
theorem dL_law_65 : decode cL_law 65 = .ok (.iconst 0, 1) := by decide +kernel
theorem dL_law_66 : decode cL_law 66 = .ok (.goto 8, 3) := by decide +kernel
theorem dL_law_69 : decode cL_law 69 = .ok (.iload 5, 2) := by decide +kernel
theorem dL_law_71 : decode cL_law 71 = .ok (.iload 6, 2) := by decide +kernel
theorem dL_law_73 : decode cL_law 73 = .ok (.irem, 1) := by decide +kernel
theorem dL_law_74 : decode cL_law 74 = .ok (.istore 7, 2) := by decide +kernel
theorem dL_law_76 : decode cL_law 76 = .ok (.iload 4, 2) := by decide +kernel
theorem dL_law_78 : decode cL_law 78 = .ok (.bipush 8, 2) := by decide +kernel
theorem dL_law_80 : decode cL_law 80 = .ok (.irem, 1) := by decide +kernel
theorem dL_law_81 : decode cL_law 81 = .ok (.iconst 4, 1) := by decide +kernel
theorem dL_law_82 : decode cL_law 82 = .ok (.if_icmp .ge 143, 3) := by decide +kernel
theorem dL_law_85 : decode cL_law 85 = .ok (.iload 5, 2) := by decide +kernel
theorem dL_law_87 : decode cL_law 87 = .ok (.iconst 4, 1) := by decide +kernel
theorem dL_law_88 : decode cL_law 88 = .ok (.irem, 1) := by decide +kernel
theorem dL_law_89 : decode cL_law 89 = .ok (.ifCond .ne 7, 3) := by decide +kernel
theorem dL_law_92 : decode cL_law 92 = .ok (.iconst 0, 1) := by decide +kernel
theorem dL_law_93 : decode cL_law 93 = .ok (.goto 24, 3) := by decide +kernel
theorem dL_law_96 : decode cL_law 96 = .ok (.iconst 1, 1) := by decide +kernel
theorem dL_law_97 : decode cL_law 97 = .ok (.iload 5, 2) := by decide +kernel
theorem dL_law_99 : decode cL_law 99 = .ok (.iconst 4, 1) := by decide +kernel
theorem dL_law_100 : decode cL_law 100 = .ok (.idiv, 1) := by decide +kernel
theorem dL_law_101 : decode cL_law 101 = .ok (.iload 5, 2) := by decide +kernel
theorem dL_law_103 : decode cL_law 103 = .ok (.iconst 3, 1) := by decide +kernel
theorem dL_law_104 : decode cL_law 104 = .ok (.irem, 1) := by decide +kernel
theorem dL_law_105 : decode cL_law 105 = .ok (.ifCond .ne 8, 3) := by decide +kernel
theorem dL_law_108 : decode cL_law 108 = .ok (.bipush 50, 2) := by decide +kernel
theorem dL_law_110 : decode cL_law 110 = .ok (.goto 5, 3) := by decide +kernel
theorem dL_law_113 : decode cL_law 113 = .ok (.bipush 9, 2) := by decide +kernel
theorem dL_law_115 : decode cL_law 115 = .ok (.irem, 1) := by decide +kernel
theorem dL_law_116 : decode cL_law 116 = .ok (.iadd, 1) := by decide +kernel
theorem dL_law_117 : decode cL_law 117 = .ok (.istore 8, 2) := by decide +kernel
theorem dL_law_119 : decode cL_law 119 = .ok (.iload 5, 2) := by decide +kernel
theorem dL_law_121 : decode cL_law 121 = .ok (.bipush 16, 2) := by decide +kernel
theorem dL_law_123 : decode cL_law 123 = .ok (.idiv, 1) := by decide +kernel
theorem dL_law_124 : decode cL_law 124 = .ok (.iconst 4, 1) := by decide +kernel
theorem dL_law_125 : decode cL_law 125 = .ok (.irem, 1) := by decide +kernel
theorem dL_law_126 : decode cL_law 126 = .ok (.ifCond .ne 7, 3) := by decide +kernel
theorem dL_law_129 : decode cL_law 129 = .ok (.iconst 0, 1) := by decide +kernel
theorem dL_law_130 : decode cL_law 130 = .ok (.goto 13, 3) := by decide +kernel
theorem dL_law_133 : decode cL_law 133 = .ok (.iconst 1, 1) := by decide +kernel
theorem dL_law_134 : decode cL_law 134 = .ok (.iload 5, 2) := by decide +kernel
theorem dL_law_136 : decode cL_law 136 = .ok (.bipush 64, 2) := by decide +kernel
theorem dL_law_138 : decode cL_law 138 = .ok (.idiv, 1) := by decide +kernel
theorem dL_law_139 : decode cL_law 139 = .ok (.bipush 9, 2) := by decide +kernel
theorem dL_law_141 : decode cL_law 141 = .ok (.irem, 1) := by decide +kernel
theorem dL_law_142 : decode cL_law 142 = .ok (.iadd, 1) := by decide +kernel
theorem dL_law_143 : decode cL_law 143 = .ok (.istore 9, 2) := by decide +kernel
theorem dL_law_145 : decode cL_law 145 = .ok (.iload 5, 2) := by decide +kernel
theorem dL_law_147 : decode cL_law 147 = .ok (.sipush 640, 3) := by decide +kernel
theorem dL_law_150 : decode cL_law 150 = .ok (.idiv, 1) := by decide +kernel
theorem dL_law_151 : decode cL_law 151 = .ok (.iconst 3, 1) := by decide +kernel
theorem dL_law_152 : decode cL_law 152 = .ok (.irem, 1) := by decide +kernel
theorem dL_law_153 : decode cL_law 153 = .ok (.ifCond .ne 7, 3) := by decide +kernel
theorem dL_law_156 : decode cL_law 156 = .ok (.iconst 0, 1) := by decide +kernel
theorem dL_law_157 : decode cL_law 157 = .ok (.goto 14, 3) := by decide +kernel
theorem dL_law_160 : decode cL_law 160 = .ok (.iconst 1, 1) := by decide +kernel
theorem dL_law_161 : decode cL_law 161 = .ok (.iload 5, 2) := by decide +kernel
theorem dL_law_163 : decode cL_law 163 = .ok (.sipush 1920, 3) := by decide +kernel
theorem dL_law_166 : decode cL_law 166 = .ok (.idiv, 1) := by decide +kernel
theorem dL_law_167 : decode cL_law 167 = .ok (.bipush 12, 2) := by decide +kernel
theorem dL_law_169 : decode cL_law 169 = .ok (.irem, 1) := by decide +kernel
theorem dL_law_170 : decode cL_law 170 = .ok (.iadd, 1) := by decide +kernel
theorem dL_law_171 : decode cL_law 171 = .ok (.istore 10, 2) := by decide +kernel
theorem dL_law_173 : decode cL_law 173 = .ok (.aload_n 1, 1) := by decide +kernel
theorem dL_law_174 : decode cL_law 174 = .ok (.iload 8, 2) := by decide +kernel
theorem dL_law_176 : decode cL_law 176 = .ok (.iload 9, 2) := by decide +kernel
theorem dL_law_178 : decode cL_law 178 = .ok (.iload 10, 2) := by decide +kernel
theorem dL_law_180 : decode cL_law 180 = .ok (.invokestatic 126, 3) := by decide +kernel
theorem dL_law_183 : decode cL_law 183 = .ok (.iload 8, 2) := by decide +kernel
theorem dL_law_185 : decode cL_law 185 = .ok (.iload 9, 2) := by decide +kernel
theorem dL_law_187 : decode cL_law 187 = .ok (.iadd, 1) := by decide +kernel
theorem dL_law_188 : decode cL_law 188 = .ok (.iload 10, 2) := by decide +kernel
theorem dL_law_190 : decode cL_law 190 = .ok (.iadd, 1) := by decide +kernel
theorem dL_law_191 : decode cL_law 191 = .ok (.ifCond .ne 8, 3) := by decide +kernel
theorem dL_law_194 : decode cL_law 194 = .ok (.bipush (-102), 2) := by decide +kernel
theorem dL_law_196 : decode cL_law 196 = .ok (.goto 17, 3) := by decide +kernel
theorem dL_law_199 : decode cL_law 199 = .ok (.iload 6, 2) := by decide +kernel
theorem dL_law_201 : decode cL_law 201 = .ok (.bipush 7, 2) := by decide +kernel
theorem dL_law_203 : decode cL_law 203 = .ok (.if_icmp .ge 8, 3) := by decide +kernel
theorem dL_law_206 : decode cL_law 206 = .ok (.iload 6, 2) := by decide +kernel
theorem dL_law_208 : decode cL_law 208 = .ok (.goto 5, 3) := by decide +kernel
theorem dL_law_211 : decode cL_law 211 = .ok (.bipush (-103), 2) := by decide +kernel
theorem dL_law_213 : decode cL_law 213 = .ok (.if_icmp .ne 7, 3) := by decide +kernel
theorem dL_law_216 : decode cL_law 216 = .ok (.iconst 1, 1) := by decide +kernel
theorem dL_law_217 : decode cL_law 217 = .ok (.goto 4, 3) := by decide +kernel
theorem dL_law_220 : decode cL_law 220 = .ok (.iconst 0, 1) := by decide +kernel
theorem dL_law_221 : decode cL_law 221 = .ok (.istore_n 2, 1) := by decide +kernel
theorem dL_law_222 : decode cL_law 222 = .ok (.goto 344, 3) := by decide +kernel
theorem dL_law_225 : decode cL_law 225 = .ok (.iload 4, 2) := by decide +kernel
theorem dL_law_227 : decode cL_law 227 = .ok (.bipush 8, 2) := by decide +kernel
theorem dL_law_229 : decode cL_law 229 = .ok (.irem, 1) := by decide +kernel
theorem dL_law_230 : decode cL_law 230 = .ok (.iconst 4, 1) := by decide +kernel
theorem dL_law_231 : decode cL_law 231 = .ok (.if_icmp .ne 82, 3) := by decide +kernel
theorem dL_law_234 : decode cL_law 234 = .ok (.iload 6, 2) := by decide +kernel
theorem dL_law_236 : decode cL_law 236 = .ok (.ifCond .le 77, 3) := by decide +kernel
theorem dL_law_239 : decode cL_law 239 = .ok (.iload 5, 2) := by decide +kernel
theorem dL_law_241 : decode cL_law 241 = .ok (.bipush 7, 2) := by decide +kernel
theorem dL_law_243 : decode cL_law 243 = .ok (.idiv, 1) := by decide +kernel
theorem dL_law_244 : decode cL_law 244 = .ok (.iconst 3, 1) := by decide +kernel
theorem dL_law_245 : decode cL_law 245 = .ok (.irem, 1) := by decide +kernel
theorem dL_law_246 : decode cL_law 246 = .ok (.istore 8, 2) := by decide +kernel
theorem dL_law_248 : decode cL_law 248 = .ok (.aload_n 1, 1) := by decide +kernel
theorem dL_law_249 : decode cL_law 249 = .ok (.iload 7, 2) := by decide +kernel
theorem dL_law_251 : decode cL_law 251 = .ok (.iload 8, 2) := by decide +kernel
theorem dL_law_253 : decode cL_law 253 = .ok (.invokestatic 65, 3) := by decide +kernel
theorem dL_law_256 : decode cL_law 256 = .ok (.istore 9, 2) := by decide +kernel
theorem dL_law_258 : decode cL_law 258 = .ok (.iload 5, 2) := by decide +kernel
theorem dL_law_260 : decode cL_law 260 = .ok (.bipush 21, 2) := by decide +kernel
theorem dL_law_262 : decode cL_law 262 = .ok (.idiv, 1) := by decide +kernel
theorem dL_law_263 : decode cL_law 263 = .ok (.bipush 12, 2) := by decide +kernel
theorem dL_law_265 : decode cL_law 265 = .ok (.irem, 1) := by decide +kernel
theorem dL_law_266 : decode cL_law 266 = .ok (.istore 10, 2) := by decide +kernel
theorem dL_law_268 : decode cL_law 268 = .ok (.aload_n 1, 1) := by decide +kernel
theorem dL_law_269 : decode cL_law 269 = .ok (.iload 7, 2) := by decide +kernel
theorem dL_law_271 : decode cL_law 271 = .ok (.iload 8, 2) := by decide +kernel
theorem dL_law_273 : decode cL_law 273 = .ok (.iload 10, 2) := by decide +kernel
theorem dL_law_275 : decode cL_law 275 = .ok (.invokestatic 129, 3) := by decide +kernel
theorem dL_law_278 : decode cL_law 278 = .ok (.iload 10, 2) := by decide +kernel
theorem dL_law_280 : decode cL_law 280 = .ok (.ifCond .ne 19, 3) := by decide +kernel
theorem dL_law_283 : decode cL_law 283 = .ok (.aload_n 1, 1) := by decide +kernel
theorem dL_law_284 : decode cL_law 284 = .ok (.iload 7, 2) := by decide +kernel
theorem dL_law_286 : decode cL_law 286 = .ok (.invokestatic 100, 3) := by decide +kernel
theorem dL_law_289 : decode cL_law 289 = .ok (.iload 8, 2) := by decide +kernel
theorem dL_law_291 : decode cL_law 291 = .ok (.if_icmp .ne 8, 3) := by decide +kernel
theorem dL_law_294 : decode cL_law 294 = .ok (.bipush (-103), 2) := by decide +kernel
theorem dL_law_296 : decode cL_law 296 = .ok (.goto 5, 3) := by decide +kernel
theorem dL_law_299 : decode cL_law 299 = .ok (.iload 9, 2) := by decide +kernel
theorem dL_law_301 : decode cL_law 301 = .ok (.if_icmp .ne 7, 3) := by decide +kernel
theorem dL_law_304 : decode cL_law 304 = .ok (.iconst 1, 1) := by decide +kernel
theorem dL_law_305 : decode cL_law 305 = .ok (.goto 4, 3) := by decide +kernel
theorem dL_law_308 : decode cL_law 308 = .ok (.iconst 0, 1) := by decide +kernel
theorem dL_law_309 : decode cL_law 309 = .ok (.istore_n 2, 1) := by decide +kernel
theorem dL_law_310 : decode cL_law 310 = .ok (.goto 256, 3) := by decide +kernel
theorem dL_law_313 : decode cL_law 313 = .ok (.iload 4, 2) := by decide +kernel
theorem dL_law_315 : decode cL_law 315 = .ok (.bipush 8, 2) := by decide +kernel
theorem dL_law_317 : decode cL_law 317 = .ok (.irem, 1) := by decide +kernel
theorem dL_law_318 : decode cL_law 318 = .ok (.iconst 5, 1) := by decide +kernel
theorem dL_law_319 : decode cL_law 319 = .ok (.if_icmp .ne 32, 3) := by decide +kernel
theorem dL_law_322 : decode cL_law 322 = .ok (.aload_n 1, 1) := by decide +kernel
theorem dL_law_323 : decode cL_law 323 = .ok (.invokevirtual 131, 3) := by decide +kernel
theorem dL_law_326 : decode cL_law 326 = .ok (.iload 6, 2) := by decide +kernel
theorem dL_law_328 : decode cL_law 328 = .ok (.ifCond .ne 7, 3) := by decide +kernel
theorem dL_law_331 : decode cL_law 331 = .ok (.iconst (-1), 1) := by decide +kernel
theorem dL_law_332 : decode cL_law 332 = .ok (.goto 7, 3) := by decide +kernel
theorem dL_law_335 : decode cL_law 335 = .ok (.iload 6, 2) := by decide +kernel
theorem dL_law_337 : decode cL_law 337 = .ok (.iconst 1, 1) := by decide +kernel
theorem dL_law_338 : decode cL_law 338 = .ok (.isub, 1) := by decide +kernel
theorem dL_law_339 : decode cL_law 339 = .ok (.if_icmp .ne 7, 3) := by decide +kernel
theorem dL_law_342 : decode cL_law 342 = .ok (.iconst 1, 1) := by decide +kernel
theorem dL_law_343 : decode cL_law 343 = .ok (.goto 4, 3) := by decide +kernel
theorem dL_law_346 : decode cL_law 346 = .ok (.iconst 0, 1) := by decide +kernel
theorem dL_law_347 : decode cL_law 347 = .ok (.istore_n 2, 1) := by decide +kernel
theorem dL_law_348 : decode cL_law 348 = .ok (.goto 218, 3) := by decide +kernel
theorem dL_law_351 : decode cL_law 351 = .ok (.iload 4, 2) := by decide +kernel
theorem dL_law_353 : decode cL_law 353 = .ok (.bipush 8, 2) := by decide +kernel
theorem dL_law_355 : decode cL_law 355 = .ok (.irem, 1) := by decide +kernel
theorem dL_law_356 : decode cL_law 356 = .ok (.bipush 6, 2) := by decide +kernel
theorem dL_law_358 : decode cL_law 358 = .ok (.if_icmp .ne 63, 3) := by decide +kernel
theorem dL_law_361 : decode cL_law 361 = .ok (.iload 6, 2) := by decide +kernel
theorem dL_law_363 : decode cL_law 363 = .ok (.ifCond .le 58, 3) := by decide +kernel
theorem dL_law_366 : decode cL_law 366 = .ok (.iload 5, 2) := by decide +kernel
theorem dL_law_368 : decode cL_law 368 = .ok (.bipush 7, 2) := by decide +kernel
theorem dL_law_370 : decode cL_law 370 = .ok (.idiv, 1) := by decide +kernel
theorem dL_law_371 : decode cL_law 371 = .ok (.iconst 3, 1) := by decide +kernel
theorem dL_law_372 : decode cL_law 372 = .ok (.irem, 1) := by decide +kernel
theorem dL_law_373 : decode cL_law 373 = .ok (.istore 8, 2) := by decide +kernel
theorem dL_law_375 : decode cL_law 375 = .ok (.aload_n 1, 1) := by decide +kernel
theorem dL_law_376 : decode cL_law 376 = .ok (.iload 7, 2) := by decide +kernel
theorem dL_law_378 : decode cL_law 378 = .ok (.invokestatic 100, 3) := by decide +kernel
theorem dL_law_381 : decode cL_law 381 = .ok (.istore 9, 2) := by decide +kernel
theorem dL_law_383 : decode cL_law 383 = .ok (.aload_n 1, 1) := by decide +kernel
theorem dL_law_384 : decode cL_law 384 = .ok (.iload 7, 2) := by decide +kernel
theorem dL_law_386 : decode cL_law 386 = .ok (.iload 8, 2) := by decide +kernel
theorem dL_law_388 : decode cL_law 388 = .ok (.invokestatic 134, 3) := by decide +kernel
theorem dL_law_391 : decode cL_law 391 = .ok (.aload_n 1, 1) := by decide +kernel
theorem dL_law_392 : decode cL_law 392 = .ok (.iload 7, 2) := by decide +kernel
theorem dL_law_394 : decode cL_law 394 = .ok (.iload 8, 2) := by decide +kernel
theorem dL_law_396 : decode cL_law 396 = .ok (.invokestatic 65, 3) := by decide +kernel
theorem dL_law_399 : decode cL_law 399 = .ok (.ifCond .le 8, 3) := by decide +kernel
theorem dL_law_402 : decode cL_law 402 = .ok (.iload 9, 2) := by decide +kernel
theorem dL_law_404 : decode cL_law 404 = .ok (.goto 5, 3) := by decide +kernel
theorem dL_law_407 : decode cL_law 407 = .ok (.bipush (-103), 2) := by decide +kernel
theorem dL_law_409 : decode cL_law 409 = .ok (.if_icmp .ne 7, 3) := by decide +kernel
theorem dL_law_412 : decode cL_law 412 = .ok (.iconst 1, 1) := by decide +kernel
theorem dL_law_413 : decode cL_law 413 = .ok (.goto 4, 3) := by decide +kernel
theorem dL_law_416 : decode cL_law 416 = .ok (.iconst 0, 1) := by decide +kernel
theorem dL_law_417 : decode cL_law 417 = .ok (.istore_n 2, 1) := by decide +kernel
theorem dL_law_418 : decode cL_law 418 = .ok (.goto 148, 3) := by decide +kernel
theorem dL_law_421 : decode cL_law 421 = .ok (.aload_n 1, 1) := by decide +kernel
theorem dL_law_422 : decode cL_law 422 = .ok (.invokevirtual 107, 3) := by decide +kernel
theorem dL_law_425 : decode cL_law 425 = .ok (.istore 8, 2) := by decide +kernel
theorem dL_law_427 : decode cL_law 427 = .ok (.aload_n 1, 1) := by decide +kernel
theorem dL_law_428 : decode cL_law 428 = .ok (.invokevirtual 136, 3) := by decide +kernel
theorem dL_law_431 : decode cL_law 431 = .ok (.istore 9, 2) := by decide +kernel
theorem dL_law_433 : decode cL_law 433 = .ok (.iload 9, 2) := by decide +kernel
theorem dL_law_435 : decode cL_law 435 = .ok (.iconst (-1), 1) := by decide +kernel
theorem dL_law_436 : decode cL_law 436 = .ok (.if_icmp .ne 20, 3) := by decide +kernel
theorem dL_law_439 : decode cL_law 439 = .ok (.aload_n 1, 1) := by decide +kernel
theorem dL_law_440 : decode cL_law 440 = .ok (.invokevirtual 107, 3) := by decide +kernel
theorem dL_law_443 : decode cL_law 443 = .ok (.iload 8, 2) := by decide +kernel
theorem dL_law_445 : decode cL_law 445 = .ok (.if_icmp .ne 7, 3) := by decide +kernel
theorem dL_law_448 : decode cL_law 448 = .ok (.iconst 1, 1) := by decide +kernel
theorem dL_law_449 : decode cL_law 449 = .ok (.goto 28, 3) := by decide +kernel
theorem dL_law_452 : decode cL_law 452 = .ok (.iconst 0, 1) := by decide +kernel
theorem dL_law_453 : decode cL_law 453 = .ok (.goto 24, 3) := by decide +kernel
theorem dL_law_456 : decode cL_law 456 = .ok (.iload 9, 2) := by decide +kernel
theorem dL_law_458 : decode cL_law 458 = .ok (.iload 8, 2) := by decide +kernel
theorem dL_law_460 : decode cL_law 460 = .ok (.if_icmp .gt 16, 3) := by decide +kernel
theorem dL_law_463 : decode cL_law 463 = .ok (.aload_n 1, 1) := by decide +kernel
theorem dL_law_464 : decode cL_law 464 = .ok (.invokevirtual 107, 3) := by decide +kernel
theorem dL_law_467 : decode cL_law 467 = .ok (.iload 9, 2) := by decide +kernel
theorem dL_law_469 : decode cL_law 469 = .ok (.if_icmp .ne 7, 3) := by decide +kernel
theorem dL_law_472 : decode cL_law 472 = .ok (.iconst 1, 1) := by decide +kernel
theorem dL_law_473 : decode cL_law 473 = .ok (.goto 4, 3) := by decide +kernel
theorem dL_law_476 : decode cL_law 476 = .ok (.iconst 0, 1) := by decide +kernel
theorem dL_law_477 : decode cL_law 477 = .ok (.istore_n 2, 1) := by decide +kernel
theorem dL_law_478 : decode cL_law 478 = .ok (.iconst 0, 1) := by decide +kernel
theorem dL_law_479 : decode cL_law 479 = .ok (.istore 10, 2) := by decide +kernel
theorem dL_law_481 : decode cL_law 481 = .ok (.iconst 0, 1) := by decide +kernel
theorem dL_law_482 : decode cL_law 482 = .ok (.istore 11, 2) := by decide +kernel
theorem dL_law_484 : decode cL_law 484 = .ok (.iload 11, 2) := by decide +kernel
theorem dL_law_486 : decode cL_law 486 = .ok (.iload 6, 2) := by decide +kernel
theorem dL_law_488 : decode cL_law 488 = .ok (.if_icmp .ge 41, 3) := by decide +kernel
theorem dL_law_491 : decode cL_law 491 = .ok (.iload 5, 2) := by decide +kernel
theorem dL_law_493 : decode cL_law 493 = .ok (.iconst 4, 1) := by decide +kernel
theorem dL_law_494 : decode cL_law 494 = .ok (.irem, 1) := by decide +kernel
theorem dL_law_495 : decode cL_law 495 = .ok (.ifCond .ne 34, 3) := by decide +kernel
theorem dL_law_498 : decode cL_law 498 = .ok (.iload 10, 2) := by decide +kernel
theorem dL_law_500 : decode cL_law 500 = .ok (.aload_n 1, 1) := by decide +kernel
theorem dL_law_501 : decode cL_law 501 = .ok (.iload 11, 2) := by decide +kernel
theorem dL_law_503 : decode cL_law 503 = .ok (.invokestatic 100, 3) := by decide +kernel
theorem dL_law_506 : decode cL_law 506 = .ok (.aload_n 1, 1) := by decide +kernel
theorem dL_law_507 : decode cL_law 507 = .ok (.iload 11, 2) := by decide +kernel
theorem dL_law_509 : decode cL_law 509 = .ok (.invokestatic 74, 3) := by decide +kernel
theorem dL_law_512 : decode cL_law 512 = .ok (.if_icmp .eq 7, 3) := by decide +kernel
theorem dL_law_515 : decode cL_law 515 = .ok (.iconst 1, 1) := by decide +kernel
theorem dL_law_516 : decode cL_law 516 = .ok (.goto 4, 3) := by decide +kernel
theorem dL_law_519 : decode cL_law 519 = .ok (.iconst 0, 1) := by decide +kernel
theorem dL_law_520 : decode cL_law 520 = .ok (.iadd, 1) := by decide +kernel
theorem dL_law_521 : decode cL_law 521 = .ok (.istore 10, 2) := by decide +kernel
theorem dL_law_523 : decode cL_law 523 = .ok (.iinc 11 1, 3) := by decide +kernel
theorem dL_law_526 : decode cL_law 526 = .ok (.goto (-42), 3) := by decide +kernel
theorem dL_law_529 : decode cL_law 529 = .ok (.iload_n 2, 1) := by decide +kernel
theorem dL_law_530 : decode cL_law 530 = .ok (.ifCond .eq 34, 3) := by decide +kernel
theorem dL_law_533 : decode cL_law 533 = .ok (.iload 5, 2) := by decide +kernel
theorem dL_law_535 : decode cL_law 535 = .ok (.iconst 4, 1) := by decide +kernel
theorem dL_law_536 : decode cL_law 536 = .ok (.irem, 1) := by decide +kernel
theorem dL_law_537 : decode cL_law 537 = .ok (.ifCond .gt 23, 3) := by decide +kernel
theorem dL_law_540 : decode cL_law 540 = .ok (.aload_n 1, 1) := by decide +kernel
theorem dL_law_541 : decode cL_law 541 = .ok (.invokevirtual 139, 3) := by decide +kernel
theorem dL_law_544 : decode cL_law 544 = .ok (.iload 10, 2) := by decide +kernel
theorem dL_law_546 : decode cL_law 546 = .ok (.if_icmp .ne 18, 3) := by decide +kernel
theorem dL_law_549 : decode cL_law 549 = .ok (.aload_n 1, 1) := by decide +kernel
theorem dL_law_550 : decode cL_law 550 = .ok (.invokevirtual 107, 3) := by decide +kernel
theorem dL_law_553 : decode cL_law 553 = .ok (.aload_n 1, 1) := by decide +kernel
theorem dL_law_554 : decode cL_law 554 = .ok (.invokevirtual 104, 3) := by decide +kernel
theorem dL_law_557 : decode cL_law 557 = .ok (.if_icmp .ne 7, 3) := by decide +kernel
theorem dL_law_560 : decode cL_law 560 = .ok (.iconst 1, 1) := by decide +kernel
theorem dL_law_561 : decode cL_law 561 = .ok (.goto 4, 3) := by decide +kernel
theorem dL_law_564 : decode cL_law 564 = .ok (.iconst 0, 1) := by decide +kernel
theorem dL_law_565 : decode cL_law 565 = .ok (.istore_n 2, 1) := by decide +kernel
theorem dL_law_566 : decode cL_law 566 = .ok (.iload_n 2, 1) := by decide +kernel
theorem dL_law_567 : decode cL_law 567 = .ok (.ifCond .eq 21, 3) := by decide +kernel
theorem dL_law_570 : decode cL_law 570 = .ok (.aload_n 1, 1) := by decide +kernel
theorem dL_law_571 : decode cL_law 571 = .ok (.invokestatic 115, 3) := by decide +kernel
theorem dL_law_574 : decode cL_law 574 = .ok (.ifCond .eq 14, 3) := by decide +kernel
theorem dL_law_577 : decode cL_law 577 = .ok (.aload_n 1, 1) := by decide +kernel
theorem dL_law_578 : decode cL_law 578 = .ok (.invokestatic 119, 3) := by decide +kernel
theorem dL_law_581 : decode cL_law 581 = .ok (.ifCond .eq 7, 3) := by decide +kernel
theorem dL_law_584 : decode cL_law 584 = .ok (.iconst 1, 1) := by decide +kernel
theorem dL_law_585 : decode cL_law 585 = .ok (.goto 4, 3) := by decide +kernel
theorem dL_law_588 : decode cL_law 588 = .ok (.iconst 0, 1) := by decide +kernel
theorem dL_law_589 : decode cL_law 589 = .ok (.istore_n 2, 1) := by decide +kernel
theorem dL_law_590 : decode cL_law 590 = .ok (.iinc 3 1, 3) := by decide +kernel
theorem dL_law_593 : decode cL_law 593 = .ok (.goto (-563), 3) := by decide +kernel
theorem dL_law_596 : decode cL_law 596 = .ok (.iload_n 2, 1) := by decide +kernel
theorem dL_law_597 : decode cL_law 597 = .ok (.ireturn, 1) := by decide +kernel
end
