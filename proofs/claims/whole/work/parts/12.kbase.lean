/-! ===== BEGIN new T[n][m]: the outer array a place, the inner ones among the pooled ===== -/
/-- f, but v at every address of l -/
def vr_up {α : Type} (f : Nat → α) (l : List Nat) (v : α) : Nat → α := fun a => if a ∈ l then v else f a
theorem vr_up_in {α : Type} {f : Nat → α} {l : List Nat} {v : α} {a : Nat} (h : a ∈ l) : vr_up f l v a = v := if_pos h
theorem vr_up_ne {α : Type} {f : Nat → α} {l : List Nat} {v : α} {a : Nat} (h : a ∉ l) : vr_up f l v a = f a := if_neg h
theorem vr_rows {L l : List Nat} {f : Nat → va_E} {e : va_E} (h : ∀ a, a ∈ l → a ∉ L) : va_pl L f ++ l.map (fun a => (a, e)) = va_pl (L ++ l) (vr_up f l e) := by
  unfold va_pl
  rw [List.map_append]
  congr 1
  · apply List.map_congr_left
    intro a ha
    rw [vr_up_ne (fun q => h a q ha)]
  · apply List.map_congr_left
    intro a ha
    rw [vr_up_in ha]
theorem vr_lay {X rows : va_W} {x : Nat × va_E} {pl : va_W} {D : va_G} {cl : List vw_C} {H : Heap} (hP : va_P D cl (((X ++ pl) ++ [x]) ++ rows) H) : va_P D cl ((X ++ [x]) ++ (pl ++ rows)) H := by
  rw [List.append_assoc (X ++ pl)] at hP
  have h := va_P.swap hP
  rw [← List.append_assoc X] at h
  have h2 := va_P.swap h
  rw [List.append_assoc (X ++ [x])] at h2
  exact h2
theorem vr_layD {X rows : va_W} {x : Nat × va_E} {pl : va_W} {A : Nat → Prop} (hD : va_D A (((X ++ pl) ++ [x]) ++ rows)) : va_D A ((X ++ [x]) ++ (pl ++ rows)) := by
  rw [List.append_assoc (X ++ pl)] at hD
  have h := va_D.swap hD
  rw [← List.append_assoc X] at h
  have h2 := va_D.swap h
  rw [List.append_assoc (X ++ [x])] at h2
  exact h2
theorem vr_outer (c : ClassId) (N h0 : Nat) : ∀ i : Nat, Jvm.Free.Multi.outerC c N h0 i = arrV c N (fun j => va_rf (if j < i then some (h0 + 1 + j) else none))
  | 0 => by
    show ({ cls := c, slots := Array.replicate N .null, vm := .none } : Cell) = _
    rw [arrV_new]
    refine congrArg (arrV c N) (funext fun j => ?_)
    simp [va_rf]
  | i + 1 => by
    show (Jvm.Free.Multi.outerC c N h0 i).setSlot i (.ref (h0 + 1 + i)) = _
    rw [vr_outer c N h0 i, arrV_store]
    refine congrArg (arrV c N) (funext fun j => ?_)
    by_cases e : j = i
    · subst e
      simp [updV, va_rf]
    · by_cases h : j < i
      · simp [updV, e, h, Nat.lt_succ_of_lt h]
      · simp [updV, e, h, show ¬ j < i + 1 by omega]
section VGM
variable {p : Program} {l : Launch} {e : Env} {R : Room} {s : State} {m : MethodId} {args : Array Value} {below : List Frame} {meth : Method} {c : Code} {H : Heap} {locs : List Loc} {cells slots : Nat} {Q : State → Prop}
variable {cc : ByteArray} {pc : Nat} {ls : Array Slot} {rest : List Value} {D : va_G} {cl : List vw_C} {A : Nat → Prop} {a : Nat} {tys : List (ClassId × FieldType)} {ws : va_W} {H0 : Heap}
theorem va_mna {X : va_W} {L : List Nat} {f : Nat → va_E} {cc : ByteArray} (hexec : p.tables.exec = Jvm.exec) (hb : c.code = cc) {own : String} {index : Nat} {ty : FieldType} {cy : ClassId} (hown : s.vm.findClass own = some m.cls) (hclink : (Cond.classLink own index ("[" ++ (FieldType.array ty).toString)).before args s = true) (hover : (Cond.arrayOver (.array ty)).before args s = true) (harr : (Cond.arrayClass ty).before args s = true) (hcy : s.vm.findClass (FieldType.array ty).toString = some cy)
    (hK : va_K D cl tys s) (hP : va_P D cl (X ++ va_pl L f) H) (hD : va_D A (X ++ va_pl L f)) (hS : va_S A H0 H locs) (hA : ∀ q, H0.size ≤ q → A q) {n k : Int32} {N' K' : Nat} {z : vp_A} (hn : ¬ n < 0) (hk : ¬ k < 0) (hN : n.toNatClampNeg = N') (hM : k.toNatClampNeg = K')
    (hb1 : N' * 4 ≤ 536870912) (hb2 : K' * componentBytes ty ≤ 536870912) (hb3 : K' ≤ 536870912) (hdf : fits ty (defaultValue ty) = true) (hdd : (defaultValue ty).isDefault = true) (hcells : cells + (1 + N') ≤ R.cells) (hslots : slots + (N' + N' * K') ≤ R.slots) (hz : ∀ c : ClassId, Jvm.Free.Multi.innerC c K' (defaultValue ty) = vp_cell c z) (hdg : decode cc pc = .ok (.multianewarray index 2, 4))
    (kk : ∀ (q : Nat) (r : Nat → Nat) (cA : ClassId) (H1 : Heap), (∀ i j : Nat, i < N' → j < N' → r i = r j → i = j) → (∀ i : Nat, i < N' → r i ∉ L) → va_K D cl (tys ++ [(cA, .array ty)]) s →
      va_P D cl ((X ++ [(q, .inl (cA, N', .inr (.inr (.inr (.inr (fun i => if i < N' then some (r i) else none))))))]) ++ va_pl (L ++ (List.range N').map r) (vr_up f ((List.range N').map r) (.inl (cy, z)))) H1 → va_D A ((X ++ [(q, .inl (cA, N', .inr (.inr (.inr (.inr (fun i => if i < N' then some (r i) else none))))))]) ++ va_pl (L ++ (List.range N').map r) (vr_up f ((List.range N').map r) (.inl (cy, z)))) → va_S A H0 H1 locs →
      W p l e R s m args below meth c H1 locs (cells + 1 + N') (slots + N' + N' * K') Q (F0 m (pc + 4) ls (.ref q :: rest))) : W p l e R s m args below meth c H locs cells slots Q (F0 m pc ls (.int k :: .int n :: rest)) := by
  subst hN
  subst hM
  intro T hT Xs
  obtain ⟨vm₁, cA, comp, -, fA, fC, hO, -, X', step⟩ := Xs.multianewarray2F hexec hown hclink hover harr (g := F0 m pc ls (.int k :: .int n :: rest)) rfl (by rw [hb]; exact hdg) rfl hn hk hb1 hb2 hb3 hdf hdd hcells hslots
  have ec : some cy = some comp := hcy.symm.trans fC
  cases ec
  generalize hF : Jvm.Free.Multi.fill (T.setVm vm₁) cA cy n.toNatClampNeg k.toNatClampNeg (defaultValue ty) n.toNatClampNeg = F at X' step
  have hTh : (T.setVm vm₁).heap = H := hT
  obtain ⟨f1, f2, -, -⟩ := Jvm.Free.Multi.fill_facts (T.setVm vm₁) cA cy n.toNatClampNeg k.toNatClampNeg (defaultValue ty) n.toNatClampNeg
  rw [hF, hTh] at f1 f2
  have hold : ∀ x : Nat, x < H.size → F.heap[x]? = H[x]? := fun x hx => by
    have := Jvm.Free.Multi.fill_old (T.setVm vm₁) cA cy n.toNatClampNeg k.toNatClampNeg (defaultValue ty) (a := x) (by rw [hTh]; exact hx) n.toNatClampNeg
    rw [hF, hTh] at this
    exact this
  have hrow : ∀ j : Nat, j < n.toNatClampNeg → F.heap[H.size + 1 + j]? = some (vp_cell cy z) := fun j hj => by
    have := Jvm.Free.Multi.fill_inner (T.setVm vm₁) cA cy n.toNatClampNeg k.toNatClampNeg (defaultValue ty) n.toNatClampNeg j hj
    rw [hF, hTh, hz] at this
    exact this
  have hout : Jvm.Free.Multi.outerC cA n.toNatClampNeg H.size n.toNatClampNeg = vp_cell cA (n.toNatClampNeg, .inr (.inr (.inr (.inr (fun i => if i < n.toNatClampNeg then some (H.size + 1 + i) else none))))) := by
    rw [vp_cell_q]
    exact vr_outer cA n.toNatClampNeg H.size n.toNatClampNeg
  rw [hout] at f2
  have hlt : ∀ a, a ∈ L → a < H.size := fun a ha => by
    obtain ⟨k9, hk9⟩ := va_pl_get (X := X) (f := f) ha
    exact (hP k9 _ hk9).lt
  have hnl : ∀ i : Nat, i < n.toNatClampNeg → H.size + 1 + i ∉ L := fun i _ h => by
    have := hlt _ h
    omega
  have hnm : ∀ a, a ∈ (List.range n.toNatClampNeg).map (fun i => H.size + 1 + i) → a ∉ L := fun a ha h => by
    obtain ⟨i, -, rfl⟩ := List.mem_map.mp ha
    have := hlt _ h
    omega
  have hP0 : va_P D cl (X ++ va_pl L f) F.heap := hP.kept (fun k9 x hx => hold x.1 ((hP k9 x hx).lt))
  have hP1 : va_P D cl ((X ++ va_pl L f) ++ [(H.size, .inl (cA, n.toNatClampNeg, .inr (.inr (.inr (.inr (fun i => if i < n.toNatClampNeg then some (H.size + 1 + i) else none))))))]) F.heap := hP0.app (fun k9 x hx => by
    have h0 : k9 < 1 := (List.getElem?_eq_some_iff.mp hx).1
    rw [show k9 = 0 by omega] at hx
    cases hx
    exact f2)
  have hP2 : va_P D cl (((X ++ va_pl L f) ++ [(H.size, .inl (cA, n.toNatClampNeg, .inr (.inr (.inr (.inr (fun i => if i < n.toNatClampNeg then some (H.size + 1 + i) else none))))))]) ++ ((List.range n.toNatClampNeg).map (fun i => H.size + 1 + i)).map (fun a => (a, .inl (cy, z)))) F.heap := hP1.app (fun k9 x hx => by
    obtain ⟨a, ha, rfl⟩ := List.mem_map.mp (List.mem_of_getElem? hx)
    obtain ⟨i, hi, rfl⟩ := List.mem_map.mp ha
    exact hrow i (List.mem_range.mp hi))
  have hD2 : va_D A (((X ++ va_pl L f) ++ [(H.size, .inl (cA, n.toNatClampNeg, .inr (.inr (.inr (.inr (fun i => if i < n.toNatClampNeg then some (H.size + 1 + i) else none))))))]) ++ ((List.range n.toNatClampNeg).map (fun i => H.size + 1 + i)).map (fun a => (a, .inl (cy, z)))) := by
    have hD1 := hD.push (e := .inl (cA, n.toNatClampNeg, .inr (.inr (.inr (.inr (fun i => if i < n.toNatClampNeg then some (H.size + 1 + i) else none)))))) hP rfl (hA _ hS.1)
    generalize hW1 : (X ++ va_pl L f) ++ [(H.size, .inl (cA, n.toNatClampNeg, .inr (.inr (.inr (.inr (fun i => if i < n.toNatClampNeg then some (H.size + 1 + i) else none))))))] = W1 at hD1 hP1 ⊢
    have hle : ∀ (k9 : Nat) (x : Nat × va_E), W1[k9]? = some x → x.1 ≤ H.size := fun k9 x hx => by
      rw [← hW1] at hx
      by_cases hl : k9 < (X ++ va_pl L f).length
      · rw [List.getElem?_append_left hl] at hx
        exact Nat.le_of_lt ((hP k9 x hx).lt)
      · rw [List.getElem?_append_right (by omega)] at hx
        have h0 : k9 - (X ++ va_pl L f).length < 1 := (List.getElem?_eq_some_iff.mp hx).1
        rw [show k9 - (X ++ va_pl L f).length = 0 by omega] at hx
        cases hx
        exact Nat.le_refl _
    have hr : ∀ (k9 : Nat) (x : Nat × va_E), (((List.range n.toNatClampNeg).map (fun i => H.size + 1 + i)).map (fun a => ((a, .inl (cy, z)) : Nat × va_E)))[k9]? = some x → x.1 = H.size + 1 + k9 := fun k9 x hx => by
      rw [List.getElem?_map, List.getElem?_map] at hx
      by_cases h9 : k9 < n.toNatClampNeg
      · rw [List.getElem?_range h9] at hx
        cases hx
        rfl
      · have hn0 : (List.range n.toNatClampNeg)[k9]? = none := List.getElem?_eq_none (by rw [List.length_range]; omega)
        rw [hn0] at hx
        cases hx
    refine ⟨fun i j x y hi hj hxy => ?_, fun k9 x hx => ?_⟩
    · by_cases h1 : i < W1.length <;> by_cases h2 : j < W1.length
      · rw [List.getElem?_append_left h1] at hi
        rw [List.getElem?_append_left h2] at hj
        exact hD1.1 i j x y hi hj hxy
      · rw [List.getElem?_append_left h1] at hi
        rw [List.getElem?_append_right (by omega)] at hj
        have := hle _ _ hi
        have := hr _ _ hj
        omega
      · rw [List.getElem?_append_right (by omega)] at hi
        rw [List.getElem?_append_left h2] at hj
        have := hle _ _ hj
        have := hr _ _ hi
        omega
      · rw [List.getElem?_append_right (by omega)] at hi hj
        have := hr _ _ hi
        have := hr _ _ hj
        omega
    · by_cases h1 : k9 < W1.length
      · rw [List.getElem?_append_left h1] at hx
        exact hD1.2 k9 x hx
      · rw [List.getElem?_append_right (by omega)] at hx
        have := hr _ _ hx
        exact hA _ (by have := hS.1; omega)
  have hAr : ArrOfT s cA (.array ty) := fun N9 z9 => by
    obtain ⟨-, k9, hk9, cm9, hkk9⟩ := (hO 0 0 0).1
    exact ⟨(fun q hq => by cases hq), k9, hk9, cm9, hkk9⟩
  have hK2 : va_K D cl (tys ++ [(cA, .array ty)]) s := ⟨hK.1, fun k9 x hx => by
    by_cases hl : k9 < tys.length
    · rw [List.getElem?_append_left hl] at hx
      exact hK.2 k9 x hx
    · rw [List.getElem?_append_right (by omega)] at hx
      have h0 : k9 - tys.length < 1 := (List.getElem?_eq_some_iff.mp hx).1
      rw [show k9 - tys.length = 0 by omega] at hx
      cases hx
      exact ⟨hAr, fA⟩⟩
  obtain ⟨t, a1, b1⟩ := kk H.size (fun i => H.size + 1 + i) cA F.heap (fun i j _ _ h => by have h9 : H.size + 1 + i = H.size + 1 + j := h; omega) hnl hK2 (by rw [← vr_rows hnm]; exact vr_lay hP2) (by rw [← vr_rows hnm]; exact vr_layD hD2) ⟨by rw [f1]; have := hS.1; omega, fun x h1 h2 => (hold x (Nat.lt_of_lt_of_le h1 hS.1)).trans (hS.2.1 x h1 h2), hS.2.2⟩ F rfl X'
  refine ⟨t, step t ?_, b1⟩
  have e : T.heap.size = H.size := by rw [hT]
  rw [e]
  exact a1
end VGM
/-! ===== END ===== -/
/-! constructors: a world that grows behind any other cells ws -/
def AOA (U : State) : Prop := (Cond.arrayOver (.array .int)).before #[] U = true
theorem AOA.moved {u U : State} (hvm : u.vm.Alike U.vm) (h : AOA u) : AOA U := by
  unfold AOA Cond.before Cond.holds at h ⊢
  simp only [Cond.value, beq_iff_eq] at h ⊢
  cases hc : u.vm.findClass (FieldType.array FieldType.int).toString with
  | none => rw [hc] at h; cases h
  | some comp =>
    rw [hc, Option.bind_some, Option.bind_eq_some_iff] at h
    obtain ⟨c, hi, h⟩ := h
    rw [Option.map_eq_some_iff] at h
    obtain ⟨k, hk, hb⟩ := h
    obtain ⟨k', hk', he⟩ := hvm.2.2 _ _ hk
    have hi' : (U.vm.classes.findIdx? fun (x : Class) => match x.kind with | .array component _ => component == comp | _ => false) = some c := by
      have e1 := va_idx_bare U.vm comp
      have e2 := va_idx_bare u.vm comp
      have hb : U.vm.bare = u.vm.bare := by first | exact hvm.bare_eq.symm | exact hvm.bare_eq
      rw [hb] at e1
      exact (e1.symm.trans e2).trans hi
    have f1 : U.vm.findClass (FieldType.array FieldType.int).toString = some comp := by rw [hvm.findClass]; exact hc
    have f2 : U.vm.findClass ("[" ++ (FieldType.array FieldType.int).toString) = u.vm.findClass ("[" ++ (FieldType.array FieldType.int).toString) := hvm.findClass ..
    rw [f1, Option.bind_some]
    refine Option.bind_eq_some_iff.mpr ⟨c, hi', ?_⟩
    rw [hk', Option.map_some]
    have hkk : k'.kind = k.kind := by rw [he]
    rw [hkk, f2]
    exact congrArg some hb
theorem kat (ws l : va_W) (p : Nat) : (ws ++ l)[ws.length + p]? = l[p]? := by
  rw [List.getElem?_append_right (by omega), Nat.add_sub_cancel_left]
theorem kset (ws l : va_W) (p : Nat) (x : Nat × va_E) : (ws ++ l).set (ws.length + p) x = ws ++ l.set p x := by
  induction ws with
  | nil => simp
  | cons a t ih =>
    show (a :: (t ++ l)).set (t.length + 1 + p) x = a :: (t ++ l.set p x)
    rw [show t.length + 1 + p = (t.length + p) + 1 by omega, List.set_cons_succ, ih]
/-- what a constructor finds -/
def KU (D : va_G) (cs sd : Nat → Nat) (ws : va_W) (sz : Nat) (U : State) : Prop :=
  U.heap.size = sz ∧ va_P D clss ws U.heap ∧ va_K D clss (tys cs) U ∧ va_D (fun _ => True) ws ∧ (∀ w ∈ TNW, va_Nw w U) ∧ STAT sd (va_A ws sz) U U.heap ∧ AOA U
def KQ (D : va_G) (A : Nat → Prop) (F : (Nat → Nat) → va_W) : Array Value → State → Outcome → State → Prop :=
  fun _ st oc t => oc = .returned none ∧ (∃ q : Nat → Nat, va_P D clss (F q) t.heap ∧ va_D A (F q)) ∧ va_F A st t
/-- a constructor's contract: behind any cells ws the new object h (last, with e0) and what it makes become F -/
def CK (l : Launch) (y : MethodName) (bytes : ByteArray) (maxL fr lo mc ms : Nat) (av : List Value) (e0 : va_E) (F : (Nat → Nat) → Nat → (Nat → Nat) → va_W) : Prop :=
  ∀ (D : va_G) (cs sd : Nat → Nat) (sz : Nat) (ws : va_W) (h : Nat), Met l y (.code y bytes maxL none :: TBL) { frames := fr, cells := mc, slots := ms, locals := lo } (va_Pc (.ref h :: av) (KU D cs sd (ws ++ [(h, e0)]) sz)) (KQ D (va_A (ws ++ [(h, e0)]) sz) (fun q => ws ++ F cs h q)) mc ms (va_A (ws ++ [(h, e0)]) sz)
def KC (p : Program) (s : State) (m : MethodId) (args : Array Value) (meth : Method) (c : Code) (cc : ByteArray) (nL : Nat) (own : String) (R : Room) (fr lo cel slo : Nat) (D : va_G) (cs sd : Nat → Nat) (A : Nat → Prop) : Prop :=
  p.tables.exec = Jvm.exec ∧ c.code = cc ∧ c.maxLocals = nL ∧ s.vm.findClass own = some m.cls ∧ (∀ w ∈ TBL, w.before args s = true) ∧ (∀ w ∈ TNW, va_Nw w s) ∧
  va_K D clss (tys cs) s ∧ meth.locks = false ∧ AOA s ∧ (∀ q : Nat, s.heap.size ≤ q → A q) ∧ STAT sd A s s.heap ∧ fr ≤ R.frames ∧ lo ≤ R.locals ∧ cel ≤ R.cells ∧ slo ≤ R.slots
def CWI (own : String) (index : Nat) (y : MethodName) (bytes : ByteArray) (maxL n : Nat) : Prop := MEW y bytes maxL none n ∧ Cond.methodLink own index y ∈ TBL ∧ Cond.instanceMethod y ∈ TBL ∧ y.name = "<init>"
section UK
variable {p : Program} {l : Launch} {e : Env} {R : Room} {s : State} {m : MethodId} {args : Array Value} {below : List Frame} {meth : Method} {c : Code} {H : Heap} {locs : List Loc} {cells slots : Nat} {Q : State → Prop}
variable {cc : ByteArray} {nL fr lo cel slo pc : Nat} {own : String} {ls : Array Slot} {rest : List Value} {D : va_G} {cs sd : Nat → Nat} {A : Nat → Prop} {ws : va_W}
theorem KC.uc {z : MS} {ad : Nat → Nat} (X : KC p s m args meth c cc nL own R fr lo cel slo D cs sd A) (hi : INJ ad) (hA : ∀ k : Nat, k < 86 → A (ad k)) : UC p s m args meth c cc nL own R fr lo D ad cs sd A :=
  ⟨X.1, X.2.1, X.2.2.1, X.2.2.2.1, X.2.2.2.2.1, X.2.2.2.2.2.1, X.2.2.2.2.2.2.1, X.2.2.2.2.2.2.2.1, hi, hA, X.2.2.2.2.2.2.2.2.2.1, X.2.2.2.2.2.2.2.2.2.2.1, X.2.2.2.2.2.2.2.2.2.2.2.1, X.2.2.2.2.2.2.2.2.2.2.2.2.1, Nat.zero_le _, Nat.zero_le _⟩
theorem k_start {l : Launch} {y : MethodName} {bytes : ByteArray} {maxL fr lo mc ms : Nat} {av : List Value} {e0 : va_E} {F : (Nat → Nat) → Nat → (Nat → Nat) → va_W} (own : String) (hown : y.cls = own) (hini : y.name = "<init>") (hy : plainName y.cls = true)
    (hn : ∀ h, (lg_sl (.ref h :: av)).length ≤ maxL)
    (body : ∀ (p : Program) (e : Env) (s : State) (m : MethodId) (args : Array Value) (below : List Frame) (meth : Method) (c : Code) (R : Room) (D : va_G) (cs sd : Nat → Nat) (A : Nat → Prop) (Q : State → Prop) (ls : Array Slot) (ws : va_W) (h : Nat),
      KC p s m args meth c bytes maxL own R fr lo mc ms D cs sd A → meth.name = "<init>" → va_P D clss (ws ++ [(h, e0)]) s.heap → va_D A (ws ++ [(h, e0)]) → va_S A s.heap s.heap [] → lv_has ls maxL (lv_args 0 (.ref h :: av)) →
      (∀ (H : Heap) (locs : List Loc) (cells slots pc : Nat) (ls : Array Slot) (q : Nat → Nat), va_P D clss (ws ++ F cs h q) H → va_D A (ws ++ F cs h q) → va_S A s.heap H locs → cells ≤ mc → slots ≤ ms → decode bytes pc = .ok (.return_, 1) → W p l e R s m args below meth c H locs cells slots Q (F0 m pc ls [])) →
      W p l e R s m args below meth c s.heap [] 0 0 Q (F0 m 0 ls [])) : CK l y bytes maxL fr lo mc ms av e0 F := by
  intro D cs sd sz ws h
  refine Met.ofW (cc := bytes) (maxL := maxL) (ret := none) hy rfl ?_
  intro p e s m args below meth c s₁ B hml hv
  obtain ⟨rfl, hsz, hP, hK, hD, hN, hT, hO⟩ := hv
  subst hsz
  have hts := atoms_spec (ws := .code y bytes maxL none :: TBL) B.pre
  have hown : s.vm.findClass own = some m.cls := by rw [← hown]; exact findClass_of_methodNamed B.named
  have hin : meth.name = "<init>" := (name_of_methodNamed B.named B.method).1.trans hini
  have hl := lv_entry (.ref h :: av) (n := maxL) (hn h)
  rw [lg_entry_eq]
  generalize (lg_sl (.ref h :: av) ++ List.replicate (maxL - (lg_sl (.ref h :: av)).length) Slot.unset).toArray = ls at hl ⊢
  have hr := B.returns
  have hlk := B.notSynchronized
  refine body p e s m _ below meth c _ D cs sd (va_A (ws ++ [(h, e0)]) s.heap.size) _ ls ws h ⟨B.exec, B.bytes, hml, hown, fun w hw => hts w (List.mem_cons_of_mem _ hw), hN, hK, B.notSynchronized, hO, fun q hq => Or.inr hq, hT, Nat.le_refl _, Nat.le_refl _, Nat.le_refl _, Nat.le_refl _⟩ hin hP hD.self va_S.rf hl ?_
  intro H locs cells slots pc ls q hP1 hD1 hS1 hc hs hd
  refine W.widen (k := mc) (n := ms) hc hs ?_
  exact W.vret B.exec B.bytes hr (fun t ht _ => ⟨rfl, ⟨q, by rw [ht]; exact hP1, hD1⟩, hS1.F ht⟩) hS1.2.2 hd hlk
theorem k_pre (X : KC p s m args meth c cc nL own R fr lo cel slo D cs sd A) (hP : va_P D clss ws H) (hD : va_D A ws) (hS : va_S A s.heap H locs) {U : State} (hU : U.heap = H) (hW : s.WarmedH U.vm) : KU D cs sd ws H.size U := by
  refine ⟨by rw [hU], by rw [hU]; exact hP, va_K.moved hW.alike X.2.2.2.2.2.2.1, hD.weaken (fun _ _ _ _ => trivial), nw_warm hW X.2.2.2.2.2.1, ?_, AOA.moved hW.alike X.2.2.2.2.2.2.2.2.1⟩
  rw [hU]
  refine ((X.2.2.2.2.2.2.2.2.2.2.1.kept hS.2.1).narrow ?_).warm hW
  intro q hq
  rcases hq with ⟨k, e, hk⟩ | hq
  · exact hD.2 k _ hk
  · exact X.2.2.2.2.2.2.2.2.2.1 q (Nat.le_trans hS.1 hq)
theorem k_A (X : KC p s m args meth c cc nL own R fr lo cel slo D cs sd A) (hD : va_D A ws) (hS : va_S A s.heap H locs) : ∀ q, va_A ws H.size q → A q := by
  intro q hq
  rcases hq with ⟨k, e, hk⟩ | hq
  · exact hD.2 k _ hk
  · exact X.2.2.2.2.2.2.2.2.2.1 q (Nat.le_trans hS.1 hq)
theorem k_blind {avs : List Value} {sz : Nat} : FrameBlind (va_Pc avs (KU D cs sd ws sz)) := fun a U g mk q => by
  obtain ⟨q0, q1, qP, qK, qD, qN, qT, qO⟩ := q
  exact ⟨q0, q1, qP, va_K.moved (u := U) (U := U.calling g mk a) (Vm.Alike.refl U.vm) qK, qD, nw_same (s := U) (U := U.calling g mk a) rfl qN, STAT.same (u := U) (U := U.calling g mk a) rfl qT, AOA.moved (u := U) (U := U.calling g mk a) (Vm.Alike.refl U.vm) qO⟩
theorem k_back {v0 : Option Value} {mc ms : Nat} {st0 : List Value} {B : State → Prop} (X : KC p s m args meth c cc nL own R fr lo cel slo D cs sd A) (hD : va_D A ws) (hS : va_S A s.heap H locs)
    (hr : va_Run p l e R s m args below meth c H locs cells slots mc ms (F0 m pc ls st0) rest (fun st oc t => oc = .returned v0 ∧ B t ∧ va_F (va_A ws H.size) st t) (va_A ws H.size))
    (k : ∀ (t : State) (locs : List Loc), B t → va_S A s.heap t.heap locs → W p l e R s m args below meth c t.heap locs (cells + mc) (slots + ms) Q (F0 m (pc + 3) ls (v0.toList ++ rest))) : W p l e R s m args below meth c H locs cells slots Q (F0 m pc ls st0) := by
  intro T hT X1
  obtain ⟨v, st₀, t, T', L, h0, X', hL, e1, e2, ⟨hv, hp, hz, hk⟩, st⟩ := hr T hT X1
  cases hv
  rw [h0] at hz hk
  have hA := k_A X hD hS
  obtain ⟨t2, a1, b1⟩ := k t (locs ++ L) hp
    ⟨Nat.le_trans hS.1 hz, fun q h1 h2 => by rw [hk q (Nat.lt_of_lt_of_le h1 hS.1) (fun z => h2 (hA q z))]; exact hS.2.1 q h1 h2, fun q hq => by
      rcases List.mem_append.mp hq with h | h
      · exact hS.2.2 q h
      · exact hA _ (hL q h)⟩ T' e1 X'
  exact ⟨t2, st t2 a1, b1⟩
theorem k_callI {y : MethodName} {bytes : ByteArray} {maxL n fr1 lo1 mc ms index h : Nat} {av : List Value} {e0 : va_E} {F : (Nat → Nat) → Nat → (Nat → Nat) → va_W} {st : List Value} {lv : List (Nat × Value)} {l0 l' : va_W} (l1 : (Nat → Nat) → va_W) (X : KC p s m args meth c cc nL own R fr lo cel slo D cs sd A) (hP : va_P D clss (ws ++ l0) H) (hD : va_D A (ws ++ l0)) (hz0 : l0 = l' ++ [(h, e0)]) (hS : va_S A s.heap H locs) (hl : lv_has ls nL lv)
    (d : decode cc pc = .ok (.invokespecial index, 3)) (hC : CK l y bytes maxL fr1 lo1 mc ms av e0 F) (hM : CWI own index y bytes maxL n) (hn : av.length = n) (hst : st = av.reverse ++ .ref h :: rest) (hW : Nat.ble (rest.map fun v => v.category).sum 8 = true) (hR : Nat.ble (fr1 + 1) fr = true ∧ Nat.ble (8 + (maxL + 11) + lo1) lo = true) (hc : Nat.ble (cells + mc) cel = true) (hs : Nat.ble (slots + ms) slo = true) (hz : ∀ q, l' ++ F cs h q = l1 q)
    (k : ∀ (H : Heap) (locs : List Loc) (q : Nat → Nat), va_P D clss (ws ++ l1 q) H → va_D A (ws ++ l1 q) → va_S A s.heap H locs → W p l e R s m args below meth c H locs (cells + mc) (slots + ms) Q (F0 m (pc + 3) ls rest)) : W p l e R s m args below meth c H locs cells slots Q (F0 m pc ls st) := by
  subst hst
  subst hz0
  obtain ⟨hM, hw, hi, hin⟩ := hM
  have hP' : va_P D clss ((ws ++ l') ++ [(h, e0)]) H := by rw [List.append_assoc]; exact hP
  have hD' : va_D A ((ws ++ l') ++ [(h, e0)]) := by rw [List.append_assoc]; exact hD
  refine k_back (v0 := none) (B := fun t => ∃ q : Nat → Nat, va_P D clss ((ws ++ l') ++ F cs h q) t.heap ∧ va_D (va_A ((ws ++ l') ++ [(h, e0)]) H.size) ((ws ++ l') ++ F cs h q)) X hD' hS (va_runI (Ts := TBL) (own := own) (nL := nL) (ws := .code y bytes maxL none :: TBL) (rm := { frames := fr1, cells := mc, slots := ms, locals := lo1 }) ⟨X.1, X.2.1, X.2.2.1, X.2.2.2.1, X.2.2.2.2.1⟩ (hC D cs sd H.size (ws ++ l') h)
    ⟨⟨rfl, rfl, Nat.le_trans (Nat.le_of_ble_eq_true hR.1) X.2.2.2.2.2.2.2.2.2.2.2.1, Nat.le_trans (Nat.le_of_ble_eq_true hR.2) X.2.2.2.2.2.2.2.2.2.2.2.2.1, pay_in X.2.2.2.2.1 (tb_good (tb_cons hM.1)), List.mem_cons_self, X.2.2.2.2.1 _ hM.1, X.2.2.2.2.1 _ hM.2.1, ⟨hM.2.2.1, hM.2.2.2.1⟩, fun sig h => ?_, X.2.2.2.2.1 _ hw⟩, hin, X.2.2.2.2.1 _ hi⟩
    ⟨k_blind, fun U hU hW => ⟨rfl, k_pre X hP' hD' hS hU hW⟩⟩ rfl hn hl.1 rfl (lv_room (Nat.le_of_ble_eq_true hW)) d ⟨Nat.le_trans (Nat.le_of_ble_eq_true hc) X.2.2.2.2.2.2.2.2.2.2.2.2.2.1, Nat.le_trans (Nat.le_of_ble_eq_true hs) X.2.2.2.2.2.2.2.2.2.2.2.2.2.2⟩) ?_
  · have h2 := hM.2.2.2.2
    rw [h] at h2
    exact (Option.some.inj h2).symm
  · intro t locs1 hB hS1
    obtain ⟨q, q1, q2⟩ := hB
    have q3 := q2.weaken (fun _ _ _ h9 => k_A X hD' hS _ h9)
    rw [List.append_assoc, hz] at q1 q3
    exact k t.heap locs1 q q1 q3 hS1
theorem k_objInit {idx a : Nat} {lv : List (Nat × Value)} (X : KC p s m args meth c cc nL own R fr lo cel slo D cs sd A) (hl : lv_has ls nL lv) (d : decode cc pc = .ok (.invokespecial idx, 3)) (hw : Cond.methodLink own idx Lib.objectInit ∈ TBL) (h1 : Cond.instanceMethod Lib.objectInit ∈ TBL) (h2 : Cond.code Lib.objectInit ⟨#[0xb1]⟩ 1 none ∈ TBL) (hR : Nat.ble 1 fr = true ∧ Nat.ble 12 lo = true)
    (k : W p l e R s m args below meth c H locs cells slots Q (F0 m (pc + 3) ls [])) : W p l e R s m args below meth c H locs cells slots Q (F0 m pc ls [.ref a]) :=
  W.objInit X.1 X.2.1 X.2.2.2.1 (X.2.2.2.2.1 _ hw) (X.2.2.2.2.1 _ h1) (X.2.2.2.2.1 _ h2) rfl (hl.1.trans X.2.2.1.symm) rfl d (Nat.le_trans (Nat.le_of_ble_eq_true hR.1) X.2.2.2.2.2.2.2.2.2.2.2.1) (Nat.le_trans (Nat.le_of_ble_eq_true hR.2) X.2.2.2.2.2.2.2.2.2.2.2.2.1) k
theorem k_put {a : Nat} (ci j0 : Nat) {C ref : String} {T : u_T} {N index : Nat} {fs : List Value} {v : Value} {l0 l1 : va_W} (X : KC p s m args meth c cc nL own R fr lo cel slo D cs sd A) (hP : va_P D clss (ws ++ l0) H) (hD : va_D A (ws ++ l0)) (hS : va_S A s.heap H locs) (he : l0[j0]? = some (a, .inr (ci, fs))) (hc : clss[ci]? = some (C, T, N)) (hin : ∀ w ∈ u_ws C T N, w ∈ TBL) (ty0 : Nat → FieldType) (hty : ∀ k, k < N → parseFieldDescriptor (T k).2.2.1 = some (ty0 k)) (hnm : ∀ a, a < N → ∀ b, b < N → a ≠ b → (T a).2.1 ≠ (T b).2.1)
    (j : Nat) (hj : Nat.ble (j + 1) N = true) (hw : Cond.fieldLink own index ref (T j).2.1 (T j).2.2.1 ∈ TBL) (hr : (T j).1 = ref) (hfin : (T j).2.2.2 = false) {ty : FieldType} (ht : parseFieldDescriptor (T j).2.2.1 = some ty) (hn : narrow ty v = v) (hfit : fits ty v = true) (hl : Nat.ble (j + 1) fs.length = true) (hz : l0.set j0 (a, .inr (ci, fs.set j v)) = l1) (d : decode cc pc = .ok (.putfield index, 3))
    (k : ∀ (H : Heap) (locs : List Loc), va_P D clss (ws ++ l1) H → va_D A (ws ++ l1) → va_S A s.heap H locs → W p l e R s m args below meth c H locs cells slots Q (F0 m (pc + 3) ls rest)) : W p l e R s m args below meth c H locs cells slots Q (F0 m pc ls (v :: .ref a :: rest)) :=
  va_put X.1 X.2.1 X.2.2.2.2.1 hin ty0 hty hnm X.2.2.2.1 X.2.2.2.2.2.2.1 hP hD hS (ws.length + j0) ((kat ws l0 j0).trans he) hc j (Nat.le_of_ble_eq_true hj) (X.2.2.2.2.1 _ hw) (fun _ h => hr ▸ h) hfin ht hn hfit (Nat.le_of_ble_eq_true hl) d (fun H1 locs1 q1 q2 q3 => by
    rw [kset, hz] at q1 q2
    exact k H1 locs1 q1 q2 q3)
theorem k_putF {a : Nat} (ci j0 : Nat) {C ref : String} {T : u_T} {N index : Nat} {fs : List Value} {v : Value} {l0 l1 : va_W} (X : KC p s m args meth c cc nL own R fr lo cel slo D cs sd A) (hini : meth.name = "<init>") (hP : va_P D clss (ws ++ l0) H) (hD : va_D A (ws ++ l0)) (hS : va_S A s.heap H locs) (he : l0[j0]? = some (a, .inr (ci, fs))) (hc : clss[ci]? = some (C, T, N)) (hin : ∀ w ∈ u_ws C T N, w ∈ TBL) (ty0 : Nat → FieldType) (hty : ∀ k, k < N → parseFieldDescriptor (T k).2.2.1 = some (ty0 k)) (hnm : ∀ a, a < N → ∀ b, b < N → a ≠ b → (T a).2.1 ≠ (T b).2.1)
    (j : Nat) (hj : Nat.ble (j + 1) N = true) (hw : Cond.fieldLink own index ref (T j).2.1 (T j).2.2.1 ∈ TBL) (hr : (T j).1 = ref) (hfin : (T j).2.2.2 = true) (hdc : (T j).1 = own) {ty : FieldType} (ht : parseFieldDescriptor (T j).2.2.1 = some ty) (hn : narrow ty v = v) (hfit : fits ty v = true) (hl : Nat.ble (j + 1) fs.length = true) (hz : l0.set j0 (a, .inr (ci, fs.set j v)) = l1) (d : decode cc pc = .ok (.putfield index, 3))
    (k : ∀ (H : Heap) (locs : List Loc), va_P D clss (ws ++ l1) H → va_D A (ws ++ l1) → va_S A s.heap H locs → W p l e R s m args below meth c H locs cells slots Q (F0 m (pc + 3) ls rest)) : W p l e R s m args below meth c H locs cells slots Q (F0 m pc ls (v :: .ref a :: rest)) :=
  va_putF X.1 X.2.1 X.2.2.2.2.1 hin ty0 hty hnm X.2.2.2.1 X.2.2.2.2.2.2.1 hP hD hS (ws.length + j0) ((kat ws l0 j0).trans he) hc j (Nat.le_of_ble_eq_true hj) (X.2.2.2.2.1 _ hw) (fun _ h => hr ▸ h) hfin hini hdc ht hn hfit (Nat.le_of_ble_eq_true hl) d (fun H1 locs1 q1 q2 q3 => by
    rw [kset, hz] at q1 q2
    exact k H1 locs1 q1 q2 q3)
theorem k_get {a : Nat} (ci j0 : Nat) {C ref : String} {T : u_T} {N index : Nat} {fs : List Value} {v : Value} {l0 : va_W} (X : KC p s m args meth c cc nL own R fr lo cel slo D cs sd A) (hP : va_P D clss (ws ++ l0) H) (he : l0[j0]? = some (a, .inr (ci, fs))) (hc : clss[ci]? = some (C, T, N)) (hin : ∀ w ∈ u_ws C T N, w ∈ TBL) (j : Nat) (hj : Nat.ble (j + 1) N = true) (hw : Cond.fieldLink own index ref (T j).2.1 (T j).2.2.1 ∈ TBL) (hr : (T j).1 = ref) (hv : fs[j]? = some v) (d : decode cc pc = .ok (.getfield index, 3))
    (k : W p l e R s m args below meth c H locs cells slots Q (F0 m (pc + 3) ls (v :: rest))) : W p l e R s m args below meth c H locs cells slots Q (F0 m pc ls (.ref a :: rest)) :=
  va_get X.1 X.2.1 X.2.2.2.2.1 hin X.2.2.2.1 X.2.2.2.2.2.2.1 hP (ws.length + j0) ((kat ws l0 j0).trans he) hc j (Nat.le_of_ble_eq_true hj) (X.2.2.2.2.1 _ hw) (fun _ h => hr ▸ h) hv d k
theorem k_iast {a N j0 : Nat} {f : Nat → Int32} {i v : Int32} {l0 l1 : va_W} {w : Nat} (X : KC p s m args meth c cc nL own R fr lo cel slo D cs sd A) (hP : va_P D clss (ws ++ l0) H) (hD : va_D A (ws ++ l0)) (hS : va_S A s.heap H locs) (he : l0[j0]? = some (a, .inl (cs 0, N, .inl f))) (hw : i.toNatClampNeg = w) (hz : l0.set j0 (a, .inl (cs 0, N, .inl (upd f w v))) = l1) (hin : ¬ (i < 0 ∨ N ≤ i.toNatClampNeg)) (d : decode cc pc = .ok (.iastore, 1))
    (k : ∀ (H : Heap) (locs : List Loc), va_P D clss (ws ++ l1) H → va_D A (ws ++ l1) → va_S A s.heap H locs → W p l e R s m args below meth c H locs cells slots Q (F0 m (pc + 1) ls rest)) : W p l e R s m args below meth c H locs cells slots Q (F0 m pc ls (.int v :: .int i :: .ref a :: rest)) := by
  subst hw
  exact va_iast X.1 X.2.1 X.2.2.2.2.2.2.1 hP hD hS (ws.length + j0) 0 ((kat ws l0 j0).trans he) rfl hin d (fun H1 locs1 q1 q2 q3 => by
    rw [kset, hz] at q1 q2
    exact k H1 locs1 q1 q2 q3)
theorem k_newI {n : Int32} {N : Nat} {l0 : va_W} (l1 : Nat → va_W) (X : KC p s m args meth c cc nL own R fr lo cel slo D cs sd A) (hP : va_P D clss (ws ++ l0) H) (hD : va_D A (ws ++ l0)) (hS : va_S A s.heap H locs) (d : decode cc pc = .ok (.newarray .int, 2)) (hw : Cond.arrayClass .int ∈ TBL) (hn : ¬ n < 0) (hN : n.toNatClampNeg = N) (hb : Nat.ble (N * 4) 536870912 = true) (hc : Nat.ble (cells + 1) cel = true) (hs : Nat.ble (slots + N) slo = true) (hz : ∀ q, l0 ++ [(q, .inl (cs 0, N, .inl (fun _ => 0)))] = l1 q)
    (k : ∀ (q : Nat) (H : Heap), va_P D clss (ws ++ l1 q) H → va_D A (ws ++ l1 q) → va_S A s.heap H locs → W p l e R s m args below meth c H locs (cells + 1) (slots + N) Q (F0 m (pc + 2) ls (.ref q :: rest))) : W p l e R s m args below meth c H locs cells slots Q (F0 m pc ls (.int n :: rest)) := by
  refine va_newa (atype := .int) (ty := .int) (a0 := (N, .inl (fun _ => 0))) X.1 X.2.1 (X.2.2.2.2.1 _ hw) rfl X.2.2.2.2.2.2.1 hP hD hS X.2.2.2.2.2.2.2.2.2.1 (fun _ => rfl) hn hN (Nat.le_of_ble_eq_true hb) (Nat.le_trans (Nat.le_of_ble_eq_true hc) X.2.2.2.2.2.2.2.2.2.2.2.2.2.1) (Nat.le_trans (Nat.le_of_ble_eq_true hs) X.2.2.2.2.2.2.2.2.2.2.2.2.2.2) d ?_
  intro q cA H1 hK q1 q2 q3
  have e1 : s.vm.findClass ("[" ++ FieldType.int.toString) = some cA := (hK.2 3 _ rfl).2
  have e2 : s.vm.findClass ("[" ++ FieldType.int.toString) = some (cs 0) := (X.2.2.2.2.2.2.1.2 0 _ rfl).2
  obtain rfl : cs 0 = cA := Option.some.inj (e2.symm.trans e1)
  rw [List.append_assoc, hz] at q1 q2
  exact k q H1 q1 q2 q3
theorem k_newJ {n : Int32} {N : Nat} {l0 : va_W} (l1 : Nat → va_W) (X : KC p s m args meth c cc nL own R fr lo cel slo D cs sd A) (hP : va_P D clss (ws ++ l0) H) (hD : va_D A (ws ++ l0)) (hS : va_S A s.heap H locs) (d : decode cc pc = .ok (.newarray .long, 2)) (hw : Cond.arrayClass .long ∈ TBL) (hn : ¬ n < 0) (hN : n.toNatClampNeg = N) (hb : Nat.ble (N * 8) 536870912 = true) (hc : Nat.ble (cells + 1) cel = true) (hs : Nat.ble (slots + N) slo = true) (hz : ∀ q, l0 ++ [(q, .inl (cs 1, N, .inr (.inl (fun _ => 0))))] = l1 q)
    (k : ∀ (q : Nat) (H : Heap), va_P D clss (ws ++ l1 q) H → va_D A (ws ++ l1 q) → va_S A s.heap H locs → W p l e R s m args below meth c H locs (cells + 1) (slots + N) Q (F0 m (pc + 2) ls (.ref q :: rest))) : W p l e R s m args below meth c H locs cells slots Q (F0 m pc ls (.int n :: rest)) := by
  refine va_newa (atype := .long) (ty := .long) (a0 := (N, .inr (.inl (fun _ => 0)))) X.1 X.2.1 (X.2.2.2.2.1 _ hw) rfl X.2.2.2.2.2.2.1 hP hD hS X.2.2.2.2.2.2.2.2.2.1 (fun _ => rfl) hn hN (Nat.le_of_ble_eq_true hb) (Nat.le_trans (Nat.le_of_ble_eq_true hc) X.2.2.2.2.2.2.2.2.2.2.2.2.2.1) (Nat.le_trans (Nat.le_of_ble_eq_true hs) X.2.2.2.2.2.2.2.2.2.2.2.2.2.2) d ?_
  intro q cA H1 hK q1 q2 q3
  have e1 : s.vm.findClass ("[" ++ FieldType.long.toString) = some cA := (hK.2 3 _ rfl).2
  have e2 : s.vm.findClass ("[" ++ FieldType.long.toString) = some (cs 1) := (X.2.2.2.2.2.2.1.2 1 _ rfl).2
  obtain rfl : cs 1 = cA := Option.some.inj (e2.symm.trans e1)
  rw [List.append_assoc, hz] at q1 q2
  exact k q H1 q1 q2 q3
theorem k_mna {x y : Int32} {index N K : Nat} {l0 : va_W} (l1 : Nat → (Nat → Nat) → va_W) (X : KC p s m args meth c cc nL own R fr lo cel slo D cs sd A) (hP : va_P D clss (ws ++ l0) H) (hD : va_D A (ws ++ l0)) (hS : va_S A s.heap H locs) (d : decode cc pc = .ok (.multianewarray index 2, 4)) (hw : Cond.classLink own index "[[I" ∈ TBL) (hw1 : Cond.arrayClass .int ∈ TBL) (hx : ¬ x < 0) (hN : x.toNatClampNeg = N) (hy : ¬ y < 0) (hK : y.toNatClampNeg = K) (hb : Nat.ble (N * 4) 536870912 = true) (hb2 : Nat.ble (K * 4) 536870912 = true) (hb3 : Nat.ble K 536870912 = true) (hc : Nat.ble (cells + (1 + N)) cel = true) (hs : Nat.ble (slots + (N + N * K)) slo = true) (hz : ∀ (q : Nat) (r : Nat → Nat), l0 ++ ((q, .inl (cs 2, N, .inr (.inr (.inr (.inr (fun i => if i < N then some (r i) else none)))))) :: (List.range N).map (fun i => (r i, .inl (cs 0, K, .inl (fun _ => 0))))) = l1 q r)
    (k : ∀ (q : Nat) (r : Nat → Nat) (H : Heap), va_P D clss (ws ++ l1 q r) H → va_D A (ws ++ l1 q r) → va_S A s.heap H locs → W p l e R s m args below meth c H locs (cells + 1 + N) (slots + N + N * K) Q (F0 m (pc + 4) ls (.ref q :: rest))) : W p l e R s m args below meth c H locs cells slots Q (F0 m pc ls (.int y :: .int x :: rest)) := by
  have e2 : s.vm.findClass (FieldType.array FieldType.int).toString = some (cs 0) := (X.2.2.2.2.2.2.1.2 0 _ rfl).2
  have hP0 : va_P D clss ((ws ++ l0) ++ va_pl [] (fun _ => .inr (0, []))) H := by
    show va_P D clss ((ws ++ l0) ++ []) H
    rw [List.append_nil]; exact hP
  have hD0 : va_D A ((ws ++ l0) ++ va_pl [] (fun _ => .inr (0, []))) := by
    show va_D A ((ws ++ l0) ++ [])
    rw [List.append_nil]; exact hD
  refine va_mna (ty := .int) (z := (K, .inl (fun _ => 0))) X.1 X.2.1 X.2.2.2.1 (X.2.2.2.2.1 _ hw) X.2.2.2.2.2.2.2.2.1 (X.2.2.2.2.1 _ hw1) e2 X.2.2.2.2.2.2.1 hP0 hD0 hS X.2.2.2.2.2.2.2.2.2.1 hx hy hN hK (Nat.le_of_ble_eq_true hb) (Nat.le_of_ble_eq_true hb2) (Nat.le_of_ble_eq_true hb3) rfl rfl (Nat.le_trans (Nat.le_of_ble_eq_true hc) X.2.2.2.2.2.2.2.2.2.2.2.2.2.1) (Nat.le_trans (Nat.le_of_ble_eq_true hs) X.2.2.2.2.2.2.2.2.2.2.2.2.2.2) (fun c => (arrV_new c K (.int 0)).trans rfl) d ?_
  intro q r cA H1 _ _ hK q1 q2 q3
  have e1 : s.vm.findClass ("[" ++ (FieldType.array FieldType.int).toString) = some cA := (hK.2 3 _ rfl).2
  have e3 : s.vm.findClass ("[" ++ (FieldType.array FieldType.int).toString) = some (cs 2) := (X.2.2.2.2.2.2.1.2 2 _ rfl).2
  obtain rfl : cs 2 = cA := Option.some.inj (e3.symm.trans e1)
  have e4 : va_pl ([] ++ (List.range N).map r) (vr_up (fun _ => (.inr (0, []) : va_E)) ((List.range N).map r) (.inl (cs 0, (K, .inl (fun _ => 0))))) = (List.range N).map (fun i => (r i, .inl (cs 0, K, .inl (fun _ => 0)))) := by
    unfold va_pl
    rw [List.nil_append, List.map_map]
    refine List.map_congr_left (fun i hi => ?_)
    show (r i, vr_up _ _ _ (r i)) = _
    rw [vr_up_in (List.mem_map.mpr ⟨i, hi, rfl⟩)]
  rw [e4, List.append_assoc, List.append_assoc] at q1 q2
  exact k q r H1 (hz q r ▸ q1) (hz q r ▸ q2) q3
theorem k_new {C : String} {T : u_T} {N ci index : Nat} {fs : List Value} {l0 : va_W} (l1 : Nat → va_W) (X : KC p s m args meth c cc nL own R fr lo cel slo D cs sd A) (hP : va_P D clss (ws ++ l0) H) (hD : va_D A (ws ++ l0)) (hS : va_S A s.heap H locs) (d : decode cc pc = .ok (.new index, 3)) (hc : clss[ci]? = some (C, T, N)) (hin : ∀ w ∈ u_ws C T N, w ∈ TBL) (ty : Nat → FieldType) (hty : ∀ k, k < N → parseFieldDescriptor (T k).2.2.1 = some (ty k)) (hw : Cond.classLink own index C ∈ TBL) (h1 : Cond.instantiable C N ∈ TBL) (h2 : Cond.initialized C ∈ TBL) (hfs : ∀ j, j < N → defaultValue (ty j) = vp_V fs j) (hc1 : Nat.ble (cells + 1) cel = true) (hs : Nat.ble (slots + N) slo = true) (hz : ∀ q, l0 ++ [(q, .inr (ci, fs))] = l1 q)
    (k : ∀ (q : Nat) (H : Heap), va_P D clss (ws ++ l1 q) H → va_D A (ws ++ l1 q) → va_S A s.heap H locs → W p l e R s m args below meth c H locs (cells + 1) (slots + N) Q (F0 m (pc + 3) ls (.ref q :: rest))) : W p l e R s m args below meth c H locs cells slots Q (F0 m pc ls rest) := by
  refine va_new X.1 X.2.1 X.2.2.2.2.1 hin ty hty X.2.2.2.1 (X.2.2.2.2.1 _ hw) (X.2.2.2.2.1 _ h1) (X.2.2.2.2.1 _ h2) X.2.2.2.2.2.2.1 hP hD hS X.2.2.2.2.2.2.2.2.2.1 hc hfs (Nat.le_trans (Nat.le_of_ble_eq_true hc1) X.2.2.2.2.2.2.2.2.2.2.2.2.2.1) (Nat.le_trans (Nat.le_of_ble_eq_true hs) X.2.2.2.2.2.2.2.2.2.2.2.2.2.2) d ?_
  intro q H1 q1 q2 q3
  rw [List.append_assoc, hz] at q1 q2
  exact k q H1 q1 q2 q3
theorem k_cop {a n0 : Nat} {f : Nat → Int32} {index n1 j0 : Nat} {g : Nat → Int32} {b0 : Nat} {n : Int32} {N : Nat} {l0 l1 : va_W} {lv : List (Nat × Value)} (X : KC p s m args meth c cc nL own R fr lo cel slo D cs sd A) (hP : va_P D clss (ws ++ l0) H) (hD : va_D A (ws ++ l0)) (hS : va_S A s.heap H locs) (hl : lv_has ls nL lv) (d : decode cc pc = .ok (.invokestatic index, 3))
    (hw : Cond.methodLink own index arraycopyName ∈ TBL) (w1 : Cond.native arraycopyName ∈ TBL) (w2 : Cond.static arraycopyName ∈ TBL) (w3 : Cond.initialized "java/lang/System" ∈ TBL)
    (hX : va_T .int b0 n0 (fun j => .int (f j)) A s s.heap) (ha1 : l0[j0]? = some (a, .inl (cs 0, n1, .inl g))) (h3 : ¬ n < 0) (hN : n.toNatClampNeg = N) (h4 : Nat.ble N n0 = true) (h5 : Nat.ble N n1 = true) (hz : l0.set j0 (a, .inl (cs 0, n1, .inl (va_cpy f g 0 0 N))) = l1) (hW : Nat.ble (rest.map fun v => v.category).sum 8 = true) (hR : Nat.ble 1 fr = true ∧ Nat.ble 26 lo = true)
    (kk : ∀ (H : Heap) (locs : List Loc), va_P D clss (ws ++ l1) H → va_D A (ws ++ l1) → va_S A s.heap H locs → W p l e R s m args below meth c H locs cells slots Q (F0 m (pc + 3) ls rest)) : W p l e R s m args below meth c H locs cells slots Q (F0 m pc ls (.int n :: .int 0 :: .ref a :: .int 0 :: .ref b0 :: rest)) := by
  subst hN
  have h4 := Nat.le_of_ble_eq_true h4
  have h5 := Nat.le_of_ble_eq_true h5
  have hW := Nat.le_of_ble_eq_true hW
  have hlo := Nat.le_trans (Nat.le_of_ble_eq_true hR.2) X.2.2.2.2.2.2.2.2.2.2.2.2.1
  have h9 : nativeFrameWords "java/lang/System" "arraycopy" 5 = 7 := rfl
  have ha1 := (kat ws l0 j0).trans ha1
  have nn : ∀ z : Int32, ¬ z < 0 → z.toInt = (z.toNatClampNeg : Int) := by
    intro z hz
    have hz0 : (0 : Int) ≤ z.toInt := by
      have := Int32.not_lt.mp hz
      simpa using Int32.le_iff_toInt_le.mp this
    show z.toInt = ((z.toInt.toNat : Nat) : Int)
    omega
  intro T hT XX
  obtain ⟨scr, hs1, hs2, hs3, hs4, -, hs5, hs7⟩ := hX
  have hc0 : H[b0]? = some scr := by rw [hS.2.1 b0 (Array.getElem?_eq_some_iff.mp hs1).1 hs7]; exact hs1
  have hc1 : H[a]? = some (vp_cell (cs 0) (n1, .inl g)) := hP _ _ ha1
  obtain ⟨hs6, k0, hk0, cm0, hkk0⟩ := hs2
  obtain ⟨-, k1, hk1, cm1, hkk1⟩ := (X.2.2.2.2.2.2.1.2 0 _ rfl).1 n1 (fun j => .int (g j))
  obtain ⟨vm', X', step⟩ := XX.arraycopy X.1 X.2.2.2.1 (X.2.2.2.2.1 _ hw) (X.2.2.2.2.1 _ w1) (X.2.2.2.2.1 _ w2) (X.2.2.2.2.1 _ w3) (src := b0) (dst := a) (cs := scr) (cd := vp_cell (cs 0) (n1, .inl g)) (srcPos := 0) (destPos := 0) (n := n) (by rw [hT]; exact hc0) (by rw [hT]; exact hc1)
    hs6 (fun _ h => by cases h) hs3 (fun h => by cases h) hk0 hk1 hkk0 hkk1 (by simp [refKind]) (by decide) (by decide) h3
    (by rw [nn n h3]; show ¬ (0 : Int) + _ > _; omega)
    (by rw [nn n h3]; show ¬ (0 : Int) + _ > ((arrV (cs 0) n1 (fun j => .int (g j))).slots.size : Int); rw [arrV_size]; omega)
    (fun vm₁ _ i hi => by
      have e : scr.slots.getD ((0 : Int32).toNatClampNeg + i) .null = .int (f ((0 : Int32).toNatClampNeg + i)) := by
        rw [Array.getD_eq_getD_getElem?, hs5 _ (by show 0 + i < n0; omega)]
        rfl
      refine ⟨?_, ?_⟩
      · rw [e]
        rfl
      · rw [e]
        exact trivial)
    (g := F0 m pc ls (.int n :: .int 0 :: .ref a :: .int 0 :: .ref b0 :: rest)) rfl (hl.1.trans X.2.2.1.symm) (rest := rest) rfl (by rw [X.2.1]; exact d) (Nat.le_trans (Nat.le_of_ble_eq_true hR.1) X.2.2.2.2.2.2.2.2.2.2.2.1) (by show 2 * 0 + _ + _ ≤ _; omega)
  have e1 : copied scr (vp_cell (cs 0) (n1, .inl g)) 0 0 n = vp_cell (cs 0) (n1, .inl (va_cpy f g 0 0 n.toNatClampNeg)) := va_copiedX (fun z => .int z) scr (cs 0) f g hs5 (by show 0 + _ ≤ n0; omega)
  rw [e1] at X' step
  have hl : a < H.size := (Array.getElem?_eq_some_iff.mp hc1).1
  have hheap : ((T.setVm vm').setCell a (vp_cell (cs 0) (n1, .inl (va_cpy f g 0 0 n.toNatClampNeg)))).heap = H.setIfInBounds a (vp_cell (cs 0) (n1, .inl (va_cpy f g 0 0 n.toNatClampNeg))) := by rw [← hT]; rfl
  have oq : ∀ q : Nat, q ≠ a → (H.setIfInBounds a (vp_cell (cs 0) (n1, .inl (va_cpy f g 0 0 n.toNatClampNeg))))[q]? = H[q]? := fun q hq => by simp [Array.getElem?_setIfInBounds, Ne.symm hq]
  have hP2 := hP.set hD ha1 (e := .inl (cs 0, n1, .inl (va_cpy f g 0 0 n.toNatClampNeg))) (show (H.setIfInBounds a _)[a]? = some _ by simp [Array.getElem?_setIfInBounds, hl]) oq
  have hD2 := hD.set (e := .inl (cs 0, n1, .inl (va_cpy f g 0 0 n.toNatClampNeg))) ha1
  rw [kset, hz] at hP2 hD2
  obtain ⟨t, a1, b1⟩ := kk _ _ hP2 hD2 ⟨by simp; exact hS.1, fun q g1 g2 => by
      rw [oq q (fun e => g2 (by rw [e]; exact hD.2 _ _ ha1))]
      exact hS.2.1 q g1 g2, fun q hq => by
      rcases List.mem_append.mp hq with h | h
      · exact hS.2.2 q h
      · obtain ⟨z, -, hz⟩ := List.mem_map.mp h
        rw [← hz]
        exact hD.2 _ _ ha1⟩ _ hheap X'
  exact ⟨t, step t a1, b1⟩
end UK
def CKF (l : Launch) : Prop := ∀ (D : va_G) (cs sd : Nat → Nat) (sz : Nat) (ws : va_W) (i a N : Nat) (f : Nat → Int32) (v : Int32), N < 2 ^ 31 → ws[i]? = some (a, .inl (cs 0, N, .inl f)) →
  Met l yJ7_fill_53178 (.code yJ7_fill_53178 cJ7_fill_53178 4 none :: TBL) { frames := 0, cells := 0, slots := 0, locals := 0 } (va_Pc [.ref a, .int v] (KU D cs sd ws sz)) (fun _ st oc t => oc = .returned none ∧ va_P D clss (ws.set i (a, .inl (cs 0, N, .inl (fun j => if j < N then v else f j)))) t.heap ∧ va_F (va_A ws sz) st t) 0 0 (va_A ws sz)
def fI' (f : Nat → Int32) (j : Nat) (v : Int32) : Nat → Int32 := fun x => if x < j then v else f x
theorem fI'_s (f : Nat → Int32) (j : Nat) (v : Int32) : upd (fI' f j v) j v = fI' f (j + 1) v := by
  funext x
  unfold upd fI'
  by_cases h1 : x = j
  · rw [if_pos h1, if_pos (by omega)]
  · rw [if_neg h1]
    by_cases h2 : x < j
    · rw [if_pos h2, if_pos (by omega)]
    · rw [if_neg h2, if_neg (by omega)]
theorem fI'_0 (f : Nat → Int32) (v : Int32) : fI' f 0 v = f := by
  funext x
  unfold fI'
  rw [if_neg (by omega)]
set_option maxRecDepth 4000 in
theorem c_fillG (l : Launch) : CKF l := by
  intro D cs sd sz ws i a N f v hN hi
  refine Met.ofW (cc := cJ7_fill_53178) (maxL := 4) (ret := none) (by decide) rfl ?_
  intro p e s m args below meth c s₁ B hml hv
  obtain ⟨rfl, hsz, hP, hK, hD, hNw, hT, hO⟩ := hv
  subst hsz
  have hx := B.exec
  have hb := B.bytes
  have hr := B.returns
  have hlk := B.notSynchronized
  have hl := lv_entry [.ref a, .int v] (n := 4) (Nat.le_of_ble_eq_true rfl)
  rw [lg_entry_eq]
  generalize (lg_sl [.ref a, .int v] ++ List.replicate (4 - (lg_sl [.ref a, .int v]).length) Slot.unset).toArray = ls at hl ⊢
  have hl : lv_has ls 4 [(0, .ref a), (1, .int v)] := hl
  have hD := hD.self (sz := s.heap.size)
  generalize hAe : va_A ws s.heap.size = A at hD ⊢
  have hS : va_S A s.heap s.heap [] := va_S.rf
  have hself : ∀ (l : va_W) (x : Nat × va_E), l[i]? = some x → l.set i x = l := fun l x h => by
    refine List.ext_getElem? (fun n => ?_)
    rw [List.getElem?_set]
    by_cases h1 : i = n
    · subst h1
      rw [if_pos rfl]
      have := (List.getElem?_eq_some_iff.mp h).1
      rw [if_pos this, h]
    · rw [if_neg h1]
  have hP : va_P D clss (ws.set i (a, .inl (cs 0, N, .inl (fI' f 0 v)))) s.heap := by rw [fI'_0, hself _ _ hi]; exact hP
  have hD : va_D A (ws.set i (a, .inl (cs 0, N, .inl (fI' f 0 v)))) := by rw [fI'_0, hself _ _ hi]; exact hD
  have hat : ∀ e, (ws.set i (a, e))[i]? = some (a, e) := fun e => by
    rw [List.getElem?_set, if_pos rfl, if_pos (List.getElem?_eq_some_iff.mp hi).1]
  refine lv_iconst (v := 0) hx hb dJ7_fill_53178_0 rfl ?_
  refine lv_istore_n hx hb dJ7_fill_53178_1 rfl hl (by decide) (lv' := [(2, .int 0), (0, .ref a), (1, .int v)]) rfl (fun ls hl => ?_)
  refine lv_aload_n hx hb dJ7_fill_53178_2 rfl (lv_at hl 1 rfl) ?_
  refine va_alen (v := nI N) hx hb hK hP i 0 (hat _) rfl rfl dJ7_fill_53178_3 ?_
  refine lv_istore_n hx hb dJ7_fill_53178_4 rfl hl (by decide) (lv' := [(3, .int (nI N)), (2, .int (nI 0)), (0, .ref a), (1, .int v)]) rfl (fun ls hl => ?_)
  have L : ∀ (d j : Nat) (H : Heap) (locs : List Loc) (ls : Array Slot), j + d = N → lv_has ls 4 [(0, .ref a), (1, .int v), (2, .int (nI j)), (3, .int (nI N))] → va_P D clss (ws.set i (a, .inl (cs 0, N, .inl (fI' f j v)))) H → va_D A (ws.set i (a, .inl (cs 0, N, .inl (fI' f j v)))) → va_S A s.heap H locs →
      W p l e (headSpec (.code yJ7_fill_53178 cJ7_fill_53178 4 none :: TBL) { frames := 0, cells := 0, slots := 0, locals := 0 }).room s m #[Value.ref a, Value.int v] below meth c H locs 0 0 (MQ below (fun _ st oc t => oc = .returned none ∧ va_P D clss (ws.set i (a, .inl (cs 0, N, .inl (fun j => if j < N then v else f j)))) t.heap ∧ va_F A st t) #[Value.ref a, Value.int v] s 0 0 A) (F0 m 5 ls []) := by
    intro d
    induction d with
    | zero =>
      intro j H locs ls hj hl hP hD hS
      have hj : j = N := hj
      subst hj
      refine lv_iload_n hx hb dJ7_fill_53178_5 rfl (lv_at hl 2 rfl) ?_
      refine lv_iload_n hx hb dJ7_fill_53178_6 rfl (lv_at hl 3 rfl) ?_
      refine lv_icmp_ge (tgt := 20) hx hb dJ7_fill_53178_7 rfl (fun hc => ?_) (fun hc => absurd (Int32.le_refl _) hc)
      exact W.vret hx hb hr (fun t ht _ => ⟨rfl, by rw [ht]; exact hP, hS.F ht⟩) hS.2.2 dJ7_fill_53178_20 hlk
    | succ d ih =>
      intro j H locs ls hj hl hP hD hS
      have hjN : j < N := by omega
      refine lv_iload_n hx hb dJ7_fill_53178_5 rfl (lv_at hl 2 rfl) ?_
      refine lv_iload_n hx hb dJ7_fill_53178_6 rfl (lv_at hl 3 rfl) ?_
      refine lv_icmp_ge (tgt := 20) hx hb dJ7_fill_53178_7 rfl (fun hc => absurd hc (nI_ge hjN hN)) (fun hc => ?_)
      refine lv_aload_n hx hb dJ7_fill_53178_10 rfl (lv_at hl 0 rfl) ?_
      refine lv_iload_n hx hb dJ7_fill_53178_11 rfl (lv_at hl 2 rfl) ?_
      refine lv_iload_n hx hb dJ7_fill_53178_12 rfl (lv_at hl 1 rfl) ?_
      refine va_iast hx hb hK hP hD hS i 0 (hat _) rfl (nI_in hjN hN) dJ7_fill_53178_13 (fun H locs hP hD hS => ?_)
      rw [List.set_set, nI_clamp (by omega), fI'_s] at hP hD
      refine lv_iinc hx hb dJ7_fill_53178_14 hl (k := 2) rfl (nI_succ j).symm (by decide) (lv' := [(2, .int (nI (j + 1))), (0, .ref a), (1, .int v), (3, .int (nI N))]) rfl (fun ls hl => ?_)
      refine lv_goto (tgt := 5) hx hb dJ7_fill_53178_17 rfl ?_
      exact ih (j + 1) H locs ls (by omega) (lv_sub hl [1, 2, 0, 3] rfl) hP hD hS
  exact L N 0 _ _ _ (by omega) (lv_sub hl [2, 3, 1, 0] rfl) hP hD hS
section UK2
variable {p : Program} {l : Launch} {e : Env} {R : Room} {s : State} {m : MethodId} {args : Array Value} {below : List Frame} {meth : Method} {c : Code} {H : Heap} {locs : List Loc} {cells slots : Nat} {Q : State → Prop}
variable {cc : ByteArray} {nL fr lo cel slo pc : Nat} {own : String} {ls : Array Slot} {rest : List Value} {D : va_G} {cs sd : Nat → Nat} {A : Nat → Prop} {ws : va_W}
theorem k_fill {a N j0 index : Nat} {f : Nat → Int32} {v : Int32} {l0 l1 : va_W} {lv : List (Nat × Value)} (X : KC p s m args meth c cc nL own R fr lo cel slo D cs sd A) (hP : va_P D clss (ws ++ l0) H) (hD : va_D A (ws ++ l0)) (hS : va_S A s.heap H locs) (hl : lv_has ls nL lv) (d : decode cc pc = .ok (.invokestatic index, 3)) (hM : CWS own index yJ7_fill_53178 cJ7_fill_53178 4 none 2)
    (he : l0[j0]? = some (a, .inl (cs 0, N, .inl f))) (hN : N < 2 ^ 31) (hz : l0.set j0 (a, .inl (cs 0, N, .inl (fun j => if j < N then v else f j))) = l1) (hW : Nat.ble (rest.map fun v => v.category).sum 8 = true) (hR : Nat.ble 1 fr = true ∧ Nat.ble 23 lo = true) (hc : Nat.ble cells cel = true) (hs : Nat.ble slots slo = true)
    (k : ∀ (H : Heap) (locs : List Loc), va_P D clss (ws ++ l1) H → va_D A (ws ++ l1) → va_S A s.heap H locs → W p l e R s m args below meth c H locs cells slots Q (F0 m (pc + 3) ls rest)) : W p l e R s m args below meth c H locs cells slots Q (F0 m pc ls (.int v :: .ref a :: rest)) := by
  obtain ⟨hM, hw, hi⟩ := hM
  have he' := (kat ws l0 j0).trans he
  refine k_back (v0 := none) (mc := 0) (ms := 0) (B := fun t => va_P D clss ((ws ++ l0).set (ws.length + j0) (a, .inl (cs 0, N, .inl (fun j => if j < N then v else f j)))) t.heap) X hD hS (va_runS (As := [.ref a, .int v]) (Ts := TBL) (own := own) (nL := nL) (ws := .code yJ7_fill_53178 cJ7_fill_53178 4 none :: TBL) (rm := { frames := 0, cells := 0, slots := 0, locals := 0 }) ⟨X.1, X.2.1, X.2.2.1, X.2.2.2.1, X.2.2.2.2.1⟩ (c_fillG l D cs sd H.size (ws ++ l0) (ws.length + j0) a N f v hN he')
    ⟨⟨rfl, rfl, Nat.le_trans (Nat.le_of_ble_eq_true hR.1) X.2.2.2.2.2.2.2.2.2.2.2.1, Nat.le_trans (Nat.le_of_ble_eq_true hR.2) X.2.2.2.2.2.2.2.2.2.2.2.2.1, pay_in X.2.2.2.2.1 (tb_good (tb_cons hM.1)), List.mem_cons_self, X.2.2.2.2.1 _ hM.1, X.2.2.2.2.1 _ hM.2.1, ⟨hM.2.2.1, hM.2.2.2.1⟩, fun sig h => ?_, X.2.2.2.2.1 _ hw⟩, X.2.2.2.2.1 _ hi⟩
    ⟨k_blind, fun U hU hW => ⟨rfl, k_pre X hP hD hS hU hW⟩⟩ rfl rfl hl.1 rfl (lv_room (Nat.le_of_ble_eq_true hW)) d ⟨Nat.le_trans (Nat.le_of_ble_eq_true hc) X.2.2.2.2.2.2.2.2.2.2.2.2.2.1, Nat.le_trans (Nat.le_of_ble_eq_true hs) X.2.2.2.2.2.2.2.2.2.2.2.2.2.2⟩) ?_
  · have h2 := hM.2.2.2.2
    rw [h] at h2
    exact (Option.some.inj h2).symm
  · intro t locs1 hB hS1
    have hD2 := hD.set (e := .inl (cs 0, N, .inl (fun j => if j < N then v else f j))) he'
    rw [kset, hz] at hB hD2
    exact k t.heap locs1 hB hD2 hS1
end UK2
