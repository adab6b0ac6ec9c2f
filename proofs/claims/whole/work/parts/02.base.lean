/-! BASE: one state for a world of fixed cells; contracts whose end is a function of their start; rows over them. -/
abbrev S4 : Type := (Nat → Int32) × (Nat → Int64) × (Nat → Nat → Int32) × (Nat → Nat → Int64)
abbrev K3 : Type := ClassId × ClassId × ClassId
def s4_i (u : S4) (k : Nat) : Int32 := u.1 k
def s4_l (u : S4) (k : Nat) : Int64 := u.2.1 k
def s4_a (u : S4) (k : Nat) : Nat → Int32 := u.2.2.1 k
def s4_b (u : S4) (k : Nat) : Nat → Int64 := u.2.2.2 k
def s4_si (u : S4) (k : Nat) (v : Int32) : S4 := (va_up u.1 k v, u.2)
def s4_sl (u : S4) (k : Nat) (v : Int64) : S4 := (u.1, va_up u.2.1 k v, u.2.2)
def s4_sa (u : S4) (k : Nat) (f : Nat → Int32) : S4 := (u.1, u.2.1, va_up u.2.2.1 k f, u.2.2.2)
def s4_sb (u : S4) (k : Nat) (f : Nat → Int64) : S4 := (u.1, u.2.1, u.2.2.1, va_up u.2.2.2 k f)
def s4_ra (u : S4) (k : Nat) (i : Int32) : Int32 := s4_a u k i.toNatClampNeg
def s4_rb (u : S4) (k : Nat) (i : Int32) : Int64 := s4_b u k i.toNatClampNeg
def s4_wa (u : S4) (k : Nat) (i : Int32) (v : Int32) : S4 := s4_sa u k (upd (s4_a u k) i.toNatClampNeg v)
def s4_wz (u : S4) (k : Nat) (i : Int32) (v : Int32) : S4 := s4_sa u k (upd (s4_a u k) i.toNatClampNeg (vp_nar .boolean v))
def s4_wb (u : S4) (k : Nat) (i : Int32) (v : Int64) : S4 := s4_sb u k (vp_updL (s4_b u k) i.toNatClampNeg v)
def vz (x : Int32) : Prop := narrow .boolean (.int x) = .int x
abbrev ty3 (k : K3) : List (ClassId × FieldType) := [(k.1, .int), (k.2.1, .long), (k.2.2, .boolean)]
/-- words of the nest: carried beside the tables' words -/
def nw_ok (w : Cond) : Bool := match w with
  | .fieldLinkNest .. => true
  | .methodLinkNest .. => true
  | _ => false
def nw_all (NW : List Cond) (U : State) : Prop := ∀ w ∈ NW, va_Nw w U
theorem nw_warm {NW : List Cond} (hN : NW.all nw_ok = true) {s U : State} (hW : s.WarmedH U.vm) (h : nw_all NW s) : nw_all NW U := by
  intro w hw
  have h1 := h w hw
  have h2 := List.all_eq_true.mp hN w hw
  cases w <;> first | (simp [nw_ok] at h2; done) | exact va_Nw.warmF hW h1 | exact va_Nw.warmM hW h1
theorem nw_same {NW : List Cond} (hN : NW.all nw_ok = true) {u U : State} (hv : u.vm = U.vm) (h : nw_all NW u) : nw_all NW U := by
  intro w hw
  have h1 := h w hw
  have h2 := List.all_eq_true.mp hN w hw
  cases w <;> first | (simp [nw_ok] at h2; done) | exact va_Nw.same rfl hv h1
def wB (D : va_G) (cl : List vw_C) (tys : List (ClassId × FieldType)) (NW : List Cond) (ws : va_W) (sz : Nat) (U : State) : Prop := U.heap.size = sz ∧ va_P D cl ws U.heap ∧ va_K D cl tys U ∧ va_D (fun _ => True) ws ∧ nw_all NW U
def wE (D : va_G) (cl : List vw_C) (C : S4 → va_W) (A : Nat → Prop) (u : S4) (t : State) : Prop := va_P D cl (C u) t.heap ∧ va_D A (C u)
def wd (D : va_G) (cl : List vw_C) (C : S4 → va_W) (A : Nat → Prop) (H0 : Heap) (u : S4) (H : Heap) (locs : List Loc) : Prop := va_P D cl (C u) H ∧ va_D A (C u) ∧ va_S A H0 H locs
def MI (l : Launch) (D : va_G) (cl : List vw_C) (tys : List (ClassId × FieldType)) (NW : List Cond) (C : S4 → va_W) (y : MethodName) (ws : List Cond) (rm : Room) (av : List Value) (u : S4) (P : Int32 × S4) : Prop :=
  ∀ sz, Met l y ws rm (va_Pc av (wB D cl tys NW (C u) sz)) (va_Qi (fun (x : Int32) (z : S4) => (x, z) = P) (wE D cl C (va_A (C u) sz)) (va_A (C u) sz)) 0 0 (va_A (C u) sz)
def ML (l : Launch) (D : va_G) (cl : List vw_C) (tys : List (ClassId × FieldType)) (NW : List Cond) (C : S4 → va_W) (y : MethodName) (ws : List Cond) (rm : Room) (av : List Value) (u : S4) (P : Int64 × S4) : Prop :=
  ∀ sz, Met l y ws rm (va_Pc av (wB D cl tys NW (C u) sz)) (va_Ql (fun (x : Int64) (z : S4) => (x, z) = P) (wE D cl C (va_A (C u) sz)) (va_A (C u) sz)) 0 0 (va_A (C u) sz)
def MV (l : Launch) (D : va_G) (cl : List vw_C) (tys : List (ClassId × FieldType)) (NW : List Cond) (C : S4 → va_W) (y : MethodName) (ws : List Cond) (rm : Room) (av : List Value) (u : S4) (P : S4) : Prop :=
  ∀ sz, Met l y ws rm (va_Pc av (wB D cl tys NW (C u) sz)) (va_Qv (fun (z : S4) => z = P) (wE D cl C (va_A (C u) sz)) (va_A (C u) sz)) 0 0 (va_A (C u) sz)
abbrev QI (below : List Frame) (D : va_G) (cl : List vw_C) (C : S4 → va_W) (A : Nat → Prop) (av : Array Value) (s : State) (P : Int32 × S4) : State → Prop := MQ below (va_Qi (fun (x : Int32) (z : S4) => (x, z) = P) (wE D cl C A) A) av s 0 0 A
abbrev QL (below : List Frame) (D : va_G) (cl : List vw_C) (C : S4 → va_W) (A : Nat → Prop) (av : Array Value) (s : State) (P : Int64 × S4) : State → Prop := MQ below (va_Ql (fun (x : Int64) (z : S4) => (x, z) = P) (wE D cl C A) A) av s 0 0 A
abbrev QV (below : List Frame) (D : va_G) (cl : List vw_C) (C : S4 → va_W) (A : Nat → Prop) (av : Array Value) (s : State) (P : S4) : State → Prop := MQ below (va_Qv (fun (z : S4) => z = P) (wE D cl C A) A) av s 0 0 A
def Fx (p : Program) (s : State) (m : MethodId) (meth : Method) (c : Code) (av : Array Value) (cc : ByteArray) (maxL : Nat) (ret : Option FieldType) (own : String) (ws : List Cond) (D : va_G) (cl : List vw_C) (tys : List (ClassId × FieldType)) (NW : List Cond) (A : Nat → Prop) : Prop :=
  p.tables.exec = Jvm.exec ∧ c.code = cc ∧ meth.sig.returnType = ret ∧ c.maxLocals = maxL ∧ s.vm.findClass own = some m.cls ∧ (∀ w ∈ ws, w.before av s = true) ∧ va_K D cl tys s ∧ nw_all NW s ∧ meth.locks = false ∧ ∀ q : Nat, s.heap.size ≤ q → A q
theorem fb_wB {D : va_G} {cl : List vw_C} {tys : List (ClassId × FieldType)} {NW : List Cond} (hN : NW.all nw_ok = true) {av : List Value} {ws : va_W} {sz : Nat} : FrameBlind (va_Pc av (wB D cl tys NW ws sz)) := fun a U g mk q => by
  obtain ⟨q0, q1, qP, qK, qD, qN⟩ := q
  exact ⟨q0, q1, qP, va_K.moved (u := U) (U := U.calling g mk a) (Vm.Alike.refl U.vm) qK, qD, nw_same hN (u := U) (U := U.calling g mk a) rfl qN⟩
section MK
variable {l : Launch} {D : va_G} {cl : List vw_C} {tys : List (ClassId × FieldType)} {NW : List Cond} {C : S4 → va_W} {y : MethodName} {ws ws' : List Cond} {rm : Room} {av : List Value} {u : S4} {cc : ByteArray} {maxL : Nat} {ret : Option FieldType}
theorem mkI {P : Int32 × S4} (hy : plainName y.cls = true) (hw : ws = Cond.code y cc maxL ret :: ws') (hlen : (lg_sl av).length ≤ maxL)
    (body : ∀ (p : Program) (e : Env) (s : State) (m : MethodId) (below : List Frame) (meth : Method) (c : Code) (A : Nat → Prop) (ls : Array Slot), Fx p s m meth c av.toArray cc maxL ret y.cls ws D cl tys NW A → wd D cl C A s.heap u s.heap [] → lv_has ls maxL (lv_args 0 av) → W p l e rm s m av.toArray below meth c s.heap [] 0 0 (QI below D cl C A av.toArray s P) (F0 m 0 ls [])) : MI l D cl tys NW C y ws rm av u P := by
  intro sz
  refine Met.ofW (cc := cc) (maxL := maxL) (ret := ret) hy hw ?_
  intro p e s m args below meth c s₁ B hml hv
  obtain ⟨rfl, hsz, hP, hK, hD0, hN⟩ := hv
  have hts := atoms_spec (ws := ws) B.pre
  have hown : s.vm.findClass y.cls = some m.cls := findClass_of_methodNamed B.named
  subst hsz
  have hD := hD0.self (sz := s.heap.size)
  have hl := lv_entry av (n := maxL) hlen
  rw [lg_entry_eq]
  exact body p e s m below meth c (va_A (C u) s.heap.size) _ ⟨B.exec, B.bytes, B.returns, hml, hown, hts, hK, hN, B.notSynchronized, fun q h => Or.inr h⟩ ⟨hP, hD, va_S.rf⟩ hl
theorem mkL {P : Int64 × S4} (hy : plainName y.cls = true) (hw : ws = Cond.code y cc maxL ret :: ws') (hlen : (lg_sl av).length ≤ maxL)
    (body : ∀ (p : Program) (e : Env) (s : State) (m : MethodId) (below : List Frame) (meth : Method) (c : Code) (A : Nat → Prop) (ls : Array Slot), Fx p s m meth c av.toArray cc maxL ret y.cls ws D cl tys NW A → wd D cl C A s.heap u s.heap [] → lv_has ls maxL (lv_args 0 av) → W p l e rm s m av.toArray below meth c s.heap [] 0 0 (QL below D cl C A av.toArray s P) (F0 m 0 ls [])) : ML l D cl tys NW C y ws rm av u P := by
  intro sz
  refine Met.ofW (cc := cc) (maxL := maxL) (ret := ret) hy hw ?_
  intro p e s m args below meth c s₁ B hml hv
  obtain ⟨rfl, hsz, hP, hK, hD0, hN⟩ := hv
  have hts := atoms_spec (ws := ws) B.pre
  have hown : s.vm.findClass y.cls = some m.cls := findClass_of_methodNamed B.named
  subst hsz
  have hD := hD0.self (sz := s.heap.size)
  have hl := lv_entry av (n := maxL) hlen
  rw [lg_entry_eq]
  exact body p e s m below meth c (va_A (C u) s.heap.size) _ ⟨B.exec, B.bytes, B.returns, hml, hown, hts, hK, hN, B.notSynchronized, fun q h => Or.inr h⟩ ⟨hP, hD, va_S.rf⟩ hl
theorem mkV {P : S4} (hy : plainName y.cls = true) (hw : ws = Cond.code y cc maxL ret :: ws') (hlen : (lg_sl av).length ≤ maxL)
    (body : ∀ (p : Program) (e : Env) (s : State) (m : MethodId) (below : List Frame) (meth : Method) (c : Code) (A : Nat → Prop) (ls : Array Slot), Fx p s m meth c av.toArray cc maxL ret y.cls ws D cl tys NW A → wd D cl C A s.heap u s.heap [] → lv_has ls maxL (lv_args 0 av) → W p l e rm s m av.toArray below meth c s.heap [] 0 0 (QV below D cl C A av.toArray s P) (F0 m 0 ls [])) : MV l D cl tys NW C y ws rm av u P := by
  intro sz
  refine Met.ofW (cc := cc) (maxL := maxL) (ret := ret) hy hw ?_
  intro p e s m args below meth c s₁ B hml hv
  obtain ⟨rfl, hsz, hP, hK, hD0, hN⟩ := hv
  have hts := atoms_spec (ws := ws) B.pre
  have hown : s.vm.findClass y.cls = some m.cls := findClass_of_methodNamed B.named
  subst hsz
  have hD := hD0.self (sz := s.heap.size)
  have hl := lv_entry av (n := maxL) hlen
  rw [lg_entry_eq]
  exact body p e s m below meth c (va_A (C u) s.heap.size) _ ⟨B.exec, B.bytes, B.returns, hml, hown, hts, hK, hN, B.notSynchronized, fun q h => Or.inr h⟩ ⟨hP, hD, va_S.rf⟩ hl
end MK
section RW
variable {p : Program} {l : Launch} {e : Env} {R : Room} {s : State} {m : MethodId} {args : Array Value} {below : List Frame} {meth : Method} {c : Code} {H : Heap} {locs : List Loc} {cells slots : Nat} {Q : State → Prop}
variable {cc : ByteArray} {pc : Nat} {ls : Array Slot} {rest : List Value} {D : va_G} {cl : List vw_C} {tys : List (ClassId × FieldType)} {NW : List Cond} {C : S4 → va_W} {A : Nat → Prop} {u : S4}
theorem ret_i (hx : p.tables.exec = Jvm.exec) (hb : c.code = cc) (hr : meth.sig.returnType = some .int) (hlocks : meth.locks = false) {v : Int32} {P : Int32 × S4} (hw : wd D cl C A s.heap u H locs) (hd : decode cc pc = .ok (.ireturn, 1)) (hP : (v, u) = P) : W p l e R s m args below meth c H locs 0 0 (QI below D cl C A args s P) (F0 m pc ls [.int v]) :=
  W.iret (v := v) hx hb hr (fun t ht _ => ⟨⟨v, u, rfl, hP, by rw [ht]; exact hw.1, hw.2.1⟩, hw.2.2.F ht⟩) hw.2.2.2.2 hd hlocks
theorem ret_z (hx : p.tables.exec = Jvm.exec) (hb : c.code = cc) (hr : meth.sig.returnType = some .boolean) (hlocks : meth.locks = false) {v : Int32} {P : Int32 × S4} (hw : wd D cl C A s.heap u H locs) (hn : narrow .boolean (.int v) = .int v) (hd : decode cc pc = .ok (.ireturn, 1)) (hP : (v, u) = P) : W p l e R s m args below meth c H locs 0 0 (QI below D cl C A args s P) (F0 m pc ls [.int v]) :=
  W.zret (v := v) hx hb hr hn (fun t ht _ => ⟨⟨v, u, rfl, hP, by rw [ht]; exact hw.1, hw.2.1⟩, hw.2.2.F ht⟩) hw.2.2.2.2 hd hlocks
theorem ret_l (hx : p.tables.exec = Jvm.exec) (hb : c.code = cc) (hr : meth.sig.returnType = some .long) (hlocks : meth.locks = false) {v : Int64} {P : Int64 × S4} (hw : wd D cl C A s.heap u H locs) (hd : decode cc pc = .ok (.lreturn, 1)) (hP : (v, u) = P) : W p l e R s m args below meth c H locs 0 0 (QL below D cl C A args s P) (F0 m pc ls [.long v]) :=
  W.lret (v := v) hx hb hr (fun t ht _ => ⟨⟨v, u, rfl, hP, by rw [ht]; exact hw.1, hw.2.1⟩, hw.2.2.F ht⟩) hw.2.2.2.2 hd hlocks
theorem ret_v (hx : p.tables.exec = Jvm.exec) (hb : c.code = cc) (hr : meth.sig.returnType = none) (hlocks : meth.locks = false) {P : S4} (hw : wd D cl C A s.heap u H locs) (hd : decode cc pc = .ok (.return_, 1)) (hP : u = P) : W p l e R s m args below meth c H locs 0 0 (QV below D cl C A args s P) (F0 m pc ls []) :=
  W.vret hx hb hr (fun t ht _ => ⟨⟨u, rfl, hP, by rw [ht]; exact hw.1, hw.2.1⟩, hw.2.2.F ht⟩) hw.2.2.2.2 hd hlocks
theorem y_iald (hx : p.tables.exec = Jvm.exec) (hb : c.code = cc) (hK : va_K D cl tys s) {H0 : Heap} (hw : wd D cl C A H0 u H locs) (k : Nat) {q0 t0 b n : Nat} {cA : ClassId} (ha : (C u)[q0]? = some (b, .inl (cA, n, .inl (s4_a u k)))) (ht : tys[t0]? = some (cA, .int)) {i : Int32} (hin : vp_in i n) (hd : decode cc pc = .ok (.iaload, 1))
    (kk : W p l e R s m args below meth c H locs cells slots Q (F0 m (pc + 1) ls (.int (s4_ra u k i) :: rest))) : W p l e R s m args below meth c H locs cells slots Q (F0 m pc ls (.int i :: .ref b :: rest)) := va_iald hx hb hK hw.1 q0 t0 ha ht hin hd kk
theorem y_zald (hx : p.tables.exec = Jvm.exec) (hb : c.code = cc) (hK : va_K D cl tys s) {H0 : Heap} (hw : wd D cl C A H0 u H locs) (k : Nat) {q0 t0 b n : Nat} {cA : ClassId} (ha : (C u)[q0]? = some (b, .inl (cA, n, .inl (s4_a u k)))) (ht : tys[t0]? = some (cA, .boolean)) {i : Int32} (hin : vp_in i n) (hd : decode cc pc = .ok (.baload, 1))
    (kk : W p l e R s m args below meth c H locs cells slots Q (F0 m (pc + 1) ls (.int (s4_ra u k i) :: rest))) : W p l e R s m args below meth c H locs cells slots Q (F0 m pc ls (.int i :: .ref b :: rest)) := va_zald hx hb hK hw.1 q0 t0 ha ht hin hd kk
theorem y_lald (hx : p.tables.exec = Jvm.exec) (hb : c.code = cc) (hK : va_K D cl tys s) {H0 : Heap} (hw : wd D cl C A H0 u H locs) (k : Nat) {q0 t0 b n : Nat} {cA : ClassId} (ha : (C u)[q0]? = some (b, .inl (cA, n, .inr (.inl (s4_b u k))))) (ht : tys[t0]? = some (cA, .long)) {i : Int32} (hin : vp_in i n) (hd : decode cc pc = .ok (.laload, 1))
    (kk : W p l e R s m args below meth c H locs cells slots Q (F0 m (pc + 1) ls (.long (s4_rb u k i) :: rest))) : W p l e R s m args below meth c H locs cells slots Q (F0 m pc ls (.int i :: .ref b :: rest)) := va_lald hx hb hK hw.1 q0 t0 ha ht hin hd kk
theorem y_iast (hx : p.tables.exec = Jvm.exec) (hb : c.code = cc) (hK : va_K D cl tys s) {H0 : Heap} (hw : wd D cl C A H0 u H locs) (k : Nat) {q0 t0 b n : Nat} {cA : ClassId} (ha : (C u)[q0]? = some (b, .inl (cA, n, .inl (s4_a u k)))) (hset : ∀ f, (C u).set q0 (b, .inl (cA, n, .inl f)) = C (s4_sa u k f)) (ht : tys[t0]? = some (cA, .int)) {i x : Int32} (hin : vp_in i n) (hd : decode cc pc = .ok (.iastore, 1))
    (kk : ∀ (H1 : Heap) (locs1 : List Loc), wd D cl C A H0 (s4_wa u k i x) H1 locs1 → W p l e R s m args below meth c H1 locs1 cells slots Q (F0 m (pc + 1) ls rest)) : W p l e R s m args below meth c H locs cells slots Q (F0 m pc ls (.int x :: .int i :: .ref b :: rest)) :=
  va_iast hx hb hK hw.1 hw.2.1 hw.2.2 q0 t0 ha ht hin hd (fun H1 locs1 h1 h2 h3 => kk H1 locs1 ⟨by rw [hset] at h1; exact h1, by rw [hset] at h2; exact h2, h3⟩)
theorem y_zast (hx : p.tables.exec = Jvm.exec) (hb : c.code = cc) (hK : va_K D cl tys s) {H0 : Heap} (hw : wd D cl C A H0 u H locs) (k : Nat) {q0 t0 b n : Nat} {cA : ClassId} (ha : (C u)[q0]? = some (b, .inl (cA, n, .inl (s4_a u k)))) (hset : ∀ f, (C u).set q0 (b, .inl (cA, n, .inl f)) = C (s4_sa u k f)) (ht : tys[t0]? = some (cA, .boolean)) {i x : Int32} (hin : vp_in i n) (hd : decode cc pc = .ok (.bastore, 1))
    (kk : ∀ (H1 : Heap) (locs1 : List Loc), wd D cl C A H0 (s4_wz u k i x) H1 locs1 → W p l e R s m args below meth c H1 locs1 cells slots Q (F0 m (pc + 1) ls rest)) : W p l e R s m args below meth c H locs cells slots Q (F0 m pc ls (.int x :: .int i :: .ref b :: rest)) :=
  va_zast hx hb hK hw.1 hw.2.1 hw.2.2 q0 t0 ha ht hin hd (fun H1 locs1 h1 h2 h3 => kk H1 locs1 ⟨by rw [hset] at h1; exact h1, by rw [hset] at h2; exact h2, h3⟩)
theorem y_last (hx : p.tables.exec = Jvm.exec) (hb : c.code = cc) (hK : va_K D cl tys s) {H0 : Heap} (hw : wd D cl C A H0 u H locs) (k : Nat) {q0 t0 b n : Nat} {cA : ClassId} (ha : (C u)[q0]? = some (b, .inl (cA, n, .inr (.inl (s4_b u k))))) (hset : ∀ f, (C u).set q0 (b, .inl (cA, n, .inr (.inl f))) = C (s4_sb u k f)) (ht : tys[t0]? = some (cA, .long)) {i : Int32} {x : Int64} (hin : vp_in i n) (hd : decode cc pc = .ok (.lastore, 1))
    (kk : ∀ (H1 : Heap) (locs1 : List Loc), wd D cl C A H0 (s4_wb u k i x) H1 locs1 → W p l e R s m args below meth c H1 locs1 cells slots Q (F0 m (pc + 1) ls rest)) : W p l e R s m args below meth c H locs cells slots Q (F0 m pc ls (.long x :: .int i :: .ref b :: rest)) :=
  va_last hx hb hK hw.1 hw.2.1 hw.2.2 q0 t0 ha ht hin hd (fun H1 locs1 h1 h2 h3 => kk H1 locs1 ⟨by rw [hset] at h1; exact h1, by rw [hset] at h2; exact h2, h3⟩)
theorem y_puti (hx : p.tables.exec = Jvm.exec) (hb : c.code = cc) {own ref Cn : String} {T : u_T} {N ci index : Nat} {Ts : List Cond} (hts : ∀ w ∈ Ts, w.before args s = true) (hin : ∀ w ∈ u_ws Cn T N, w ∈ Ts) (ty0 : Nat → FieldType) (hty : ∀ k, k < N → parseFieldDescriptor (T k).2.2.1 = some (ty0 k)) (hnm : ∀ a, a < N → ∀ b, b < N → a ≠ b → (T a).2.1 ≠ (T b).2.1) (hown : s.vm.findClass own = some m.cls) (hK : va_K D cl tys s) {H0 : Heap} (hw : wd D cl C A H0 u H locs) (j : Nat) {q0 b : Nat} {fs : List Value} (he : (C u)[q0]? = some (b, .inr (ci, fs))) (hc : cl[ci]? = some (Cn, T, N)) (k : Nat) (hk : k < N) (hlink : (Cond.fieldLink own index ref (T k).2.1 (T k).2.2.1).before args s = true) (hsame : ∀ x, s.fieldFound? (T k).1 (T k).2.1 (T k).2.2.1 = some x → s.fieldFound? ref (T k).2.1 (T k).2.2.1 = some x) (hfin : (T k).2.2.2 = false) (hd0 : parseFieldDescriptor (T k).2.2.1 = some .int) (hl : k < fs.length) {x : Int32} (hset : (C u).set q0 (b, .inr (ci, fs.set k (.int x))) = C (s4_si u j x)) (hd : decode cc pc = .ok (.putfield index, 3))
    (kk : ∀ (H1 : Heap) (locs1 : List Loc), wd D cl C A H0 (s4_si u j x) H1 locs1 → W p l e R s m args below meth c H1 locs1 cells slots Q (F0 m (pc + 3) ls rest)) : W p l e R s m args below meth c H locs cells slots Q (F0 m pc ls (.int x :: .ref b :: rest)) :=
  va_put hx hb hts hin ty0 hty hnm hown hK hw.1 hw.2.1 hw.2.2 q0 he hc k hk hlink hsame hfin hd0 rfl rfl hl hd (fun H1 locs1 h1 h2 h3 => kk H1 locs1 ⟨by rw [hset] at h1; exact h1, by rw [hset] at h2; exact h2, h3⟩)
theorem y_putl (hx : p.tables.exec = Jvm.exec) (hb : c.code = cc) {own ref Cn : String} {T : u_T} {N ci index : Nat} {Ts : List Cond} (hts : ∀ w ∈ Ts, w.before args s = true) (hin : ∀ w ∈ u_ws Cn T N, w ∈ Ts) (ty0 : Nat → FieldType) (hty : ∀ k, k < N → parseFieldDescriptor (T k).2.2.1 = some (ty0 k)) (hnm : ∀ a, a < N → ∀ b, b < N → a ≠ b → (T a).2.1 ≠ (T b).2.1) (hown : s.vm.findClass own = some m.cls) (hK : va_K D cl tys s) {H0 : Heap} (hw : wd D cl C A H0 u H locs) (j : Nat) {q0 b : Nat} {fs : List Value} (he : (C u)[q0]? = some (b, .inr (ci, fs))) (hc : cl[ci]? = some (Cn, T, N)) (k : Nat) (hk : k < N) (hlink : (Cond.fieldLink own index ref (T k).2.1 (T k).2.2.1).before args s = true) (hsame : ∀ x, s.fieldFound? (T k).1 (T k).2.1 (T k).2.2.1 = some x → s.fieldFound? ref (T k).2.1 (T k).2.2.1 = some x) (hfin : (T k).2.2.2 = false) (hd0 : parseFieldDescriptor (T k).2.2.1 = some .long) (hl : k < fs.length) {x : Int64} (hset : (C u).set q0 (b, .inr (ci, fs.set k (.long x))) = C (s4_sl u j x)) (hd : decode cc pc = .ok (.putfield index, 3))
    (kk : ∀ (H1 : Heap) (locs1 : List Loc), wd D cl C A H0 (s4_sl u j x) H1 locs1 → W p l e R s m args below meth c H1 locs1 cells slots Q (F0 m (pc + 3) ls rest)) : W p l e R s m args below meth c H locs cells slots Q (F0 m pc ls (.long x :: .ref b :: rest)) :=
  va_put hx hb hts hin ty0 hty hnm hown hK hw.1 hw.2.1 hw.2.2 q0 he hc k hk hlink hsame hfin hd0 rfl rfl hl hd (fun H1 locs1 h1 h2 h3 => kk H1 locs1 ⟨by rw [hset] at h1; exact h1, by rw [hset] at h2; exact h2, h3⟩)
theorem y_newa (hx : p.tables.exec = Jvm.exec) (hb : c.code = cc) {atype : ArrayType} (harr : (Cond.arrayClass (newarray.typeOf atype)).before args s = true) {ty : FieldType} (hty : newarray.typeOf atype = ty) (hK : va_K D cl tys s) {t0 : Nat} {cA0 : ClassId} (ht : tys[t0]? = some (cA0, ty)) {wl : va_W} {H0 : Heap} (hP : va_P D cl wl H) (hD : va_D A wl) (hS : va_S A H0 H locs) (hA : ∀ q : Nat, H0.size ≤ q → A q) {n : Int32} {N' : Nat} {a0 : vp_A} (ha : ∀ cA : ClassId, vp_cell cA a0 = arrV cA N' (fun _ => defaultValue ty)) (hn : ¬ n < 0) (hN : n.toNatClampNeg = N') (hbytes : N' * componentBytes ty ≤ 536870912) (hcells : cells + 1 ≤ R.cells) (hslots : slots + N' ≤ R.slots) (hdg : decode cc pc = .ok (.newarray atype, 2))
    (kk : ∀ (q : Nat) (H1 : Heap), va_P D cl (wl ++ [(q, .inl (cA0, a0))]) H1 → va_D A (wl ++ [(q, .inl (cA0, a0))]) → va_S A H0 H1 locs → W p l e R s m args below meth c H1 locs (cells + 1) (slots + N') Q (F0 m (pc + 2) ls (.ref q :: rest))) : W p l e R s m args below meth c H locs cells slots Q (F0 m pc ls (.int n :: rest)) := by
  refine va_newa hx hb harr hty hK hP hD hS hA ha hn hN hbytes hcells hslots hdg (fun q cA H1 hK1 hP1 hD1 hS1 => ?_)
  have e : cA = cA0 := by
    have h1 := (hK1.2 tys.length (cA, ty) (by rw [List.getElem?_append_right (Nat.le_refl _)]; simp)).2
    have h2 := (hK.2 t0 _ ht).2
    subst hty
    have g1 : s.vm.findClass ("[" ++ (newarray.typeOf atype).toString) = some cA := by cases atype <;> exact h1
    have g2 : s.vm.findClass ("[" ++ (newarray.typeOf atype).toString) = some cA0 := by cases atype <;> exact h2
    exact Option.some.inj (g1.symm.trans g2)
  subst e
  exact kk q H1 hP1 hD1 hS1
theorem wd_free {H0 : Heap} (hw : wd D cl C A H0 u H locs) (hA : ∀ q : Nat, H0.size ≤ q → A q) : ∀ q, va_A (C u) H.size q → A q := fun q h => by
  rcases h with ⟨k, e, h⟩ | h
  · exact hw.2.1.2 k (q, e) h
  · exact hA q (Nat.le_trans hw.2.2.1 h)
variable {y : MethodName} {bytes : ByteArray} {maxL nL n index : Nat} {ret : Option FieldType} {ws Ts : List Cond} {rm : Room} {own Cn host : String} {b : Addr} {As st : List Value}
theorem call_pre {av : List Value} {sz : Nat} (hNW : NW.all nw_ok = true) (hK : va_K D cl tys s) (hN : nw_all NW s) {H0 : Heap} (hw : wd D cl C A H0 u H locs) (hsz : H.size = sz) : ∀ U : State, U.heap = H → s.WarmedH U.vm → va_Pc av (wB D cl tys NW (C u) sz) av.toArray U := fun U hU hW =>
  ⟨rfl, by rw [hU]; exact hsz, by rw [hU]; exact hw.1, va_K.moved hW.alike hK, hw.2.1.weaken (fun _ _ _ _ => trivial), nw_warm hNW hW hN⟩
/-- an instance method of int or boolean -/
theorem call_vi (S : CallFix p m c cc nL s args Ts own) (hNW : NW.all nw_ok = true) (hK : va_K D cl tys s) (hN : nw_all NW s) (hA : ∀ q : Nat, s.heap.size ≤ q → A q) {P : Int32 × S4} (hM : MI l D cl tys NW C y ws rm (.ref b :: As) u P) (cw : CallW R s args own Cn index y bytes maxL ret ws rm 0 0 n) {q0 ci : Nat} {fs : List Value} {qq : vw_C} (hc : cl[ci]? = some qq) (he : (C u)[q0]? = some (b, .inr (ci, fs))) (hCn : qq.1 = Cn) (hw : wd D cl C A s.heap u H locs) (hn : As.length = n) (hsz : ls.size = nL) (hst : st = As.reverse ++ .ref b :: rest) (hroom : (rest.map fun v => v.category).sum ≤ 8) (hdg : decode cc pc = .ok (.invokevirtual index, 3)) (hf : cells + 0 ≤ R.cells ∧ slots + 0 ≤ R.slots)
    (kk : ∀ (H1 : Heap) (locs1 : List Loc), wd D cl C A s.heap P.2 H1 locs1 → W p l e R s m args below meth c H1 locs1 cells slots Q (F0 m (pc + 3) ls (.int P.1 :: rest))) : W p l e R s m args below meth c H locs cells slots Q (F0 m pc ls st) := by
  subst hCn
  have hFc := wd_free hw hA
  refine va_calli (va_runV S (hM H.size) cw ⟨fb_wB hNW, va_recv hK hw.1 hc he, call_pre hNW hK hN hw rfl⟩ rfl hn hsz hst (lv_room hroom) hdg hf) hw.2.2 (fun q _ h => hFc q h) hFc (fun r z t H1 locs1 ht hvm hP hB hz1 hk1 hS1 => ?_)
  obtain ⟨hP1, hD1⟩ := hB
  rw [ht] at hP1
  have hP : (r, z) = P := hP
  subst hP
  exact kk H1 locs1 ⟨hP1, hD1.weaken (fun _ q _ h => hFc q.1 h), hS1⟩
theorem call_vl (S : CallFix p m c cc nL s args Ts own) (hNW : NW.all nw_ok = true) (hK : va_K D cl tys s) (hN : nw_all NW s) (hA : ∀ q : Nat, s.heap.size ≤ q → A q) {P : Int64 × S4} (hM : ML l D cl tys NW C y ws rm (.ref b :: As) u P) (cw : CallW R s args own Cn index y bytes maxL ret ws rm 0 0 n) {q0 ci : Nat} {fs : List Value} {qq : vw_C} (hc : cl[ci]? = some qq) (he : (C u)[q0]? = some (b, .inr (ci, fs))) (hCn : qq.1 = Cn) (hw : wd D cl C A s.heap u H locs) (hn : As.length = n) (hsz : ls.size = nL) (hst : st = As.reverse ++ .ref b :: rest) (hroom : (rest.map fun v => v.category).sum ≤ 8) (hdg : decode cc pc = .ok (.invokevirtual index, 3)) (hf : cells + 0 ≤ R.cells ∧ slots + 0 ≤ R.slots)
    (kk : ∀ (H1 : Heap) (locs1 : List Loc), wd D cl C A s.heap P.2 H1 locs1 → W p l e R s m args below meth c H1 locs1 cells slots Q (F0 m (pc + 3) ls (.long P.1 :: rest))) : W p l e R s m args below meth c H locs cells slots Q (F0 m pc ls st) := by
  subst hCn
  have hFc := wd_free hw hA
  refine va_calll (va_runV S (hM H.size) cw ⟨fb_wB hNW, va_recv hK hw.1 hc he, call_pre hNW hK hN hw rfl⟩ rfl hn hsz hst (lv_room hroom) hdg hf) hw.2.2 (fun q _ h => hFc q h) hFc (fun r z t H1 locs1 ht hvm hP hB hz1 hk1 hS1 => ?_)
  obtain ⟨hP1, hD1⟩ := hB
  rw [ht] at hP1
  have hP : (r, z) = P := hP
  subst hP
  exact kk H1 locs1 ⟨hP1, hD1.weaken (fun _ q _ h => hFc q.1 h), hS1⟩
theorem call_vv (S : CallFix p m c cc nL s args Ts own) (hNW : NW.all nw_ok = true) (hK : va_K D cl tys s) (hN : nw_all NW s) (hA : ∀ q : Nat, s.heap.size ≤ q → A q) {P : S4} (hM : MV l D cl tys NW C y ws rm (.ref b :: As) u P) (cw : CallW R s args own Cn index y bytes maxL ret ws rm 0 0 n) {q0 ci : Nat} {fs : List Value} {qq : vw_C} (hc : cl[ci]? = some qq) (he : (C u)[q0]? = some (b, .inr (ci, fs))) (hCn : qq.1 = Cn) (hw : wd D cl C A s.heap u H locs) (hn : As.length = n) (hsz : ls.size = nL) (hst : st = As.reverse ++ .ref b :: rest) (hroom : (rest.map fun v => v.category).sum ≤ 8) (hdg : decode cc pc = .ok (.invokevirtual index, 3)) (hf : cells + 0 ≤ R.cells ∧ slots + 0 ≤ R.slots)
    (kk : ∀ (H1 : Heap) (locs1 : List Loc), wd D cl C A s.heap P H1 locs1 → W p l e R s m args below meth c H1 locs1 cells slots Q (F0 m (pc + 3) ls rest)) : W p l e R s m args below meth c H locs cells slots Q (F0 m pc ls st) := by
  subst hCn
  have hFc := wd_free hw hA
  refine va_callv (va_runV S (hM H.size) cw ⟨fb_wB hNW, va_recv hK hw.1 hc he, call_pre hNW hK hN hw rfl⟩ rfl hn hsz hst (lv_room hroom) hdg hf) hw.2.2 (fun q _ h => hFc q h) hFc (fun z t H1 locs1 ht hvm hP hB hz1 hk1 hS1 => ?_)
  obtain ⟨hP1, hD1⟩ := hB
  rw [ht] at hP1
  have hP : z = P := hP
  subst hP
  exact kk H1 locs1 ⟨hP1, hD1.weaken (fun _ q _ h => hFc q.1 h), hS1⟩
/-- a static method of the class's own -/
theorem call_si (S : CallFix p m c cc nL s args Ts own) (hNW : NW.all nw_ok = true) (hK : va_K D cl tys s) (hN : nw_all NW s) (hA : ∀ q : Nat, s.heap.size ≤ q → A q) {P : Int32 × S4} (hM : MI l D cl tys NW C y ws rm As u P) (cw : CallB R s args own index y bytes maxL ret ws rm 0 0 n ∧ (Cond.static y).before args s = true) (hw : wd D cl C A s.heap u H locs) (hn : As.length = n) (hsz : ls.size = nL) (hst : st = As.reverse ++ rest) (hroom : (rest.map fun v => v.category).sum ≤ 8) (hdg : decode cc pc = .ok (.invokestatic index, 3)) (hf : cells + 0 ≤ R.cells ∧ slots + 0 ≤ R.slots)
    (kk : ∀ (H1 : Heap) (locs1 : List Loc), wd D cl C A s.heap P.2 H1 locs1 → W p l e R s m args below meth c H1 locs1 cells slots Q (F0 m (pc + 3) ls (.int P.1 :: rest))) : W p l e R s m args below meth c H locs cells slots Q (F0 m pc ls st) := by
  have hFc := wd_free hw hA
  refine va_calli (va_runS S (hM H.size) cw ⟨fb_wB hNW, call_pre hNW hK hN hw rfl⟩ rfl hn hsz hst (lv_room hroom) hdg hf) hw.2.2 (fun q _ h => hFc q h) hFc (fun r z t H1 locs1 ht hvm hP hB hz1 hk1 hS1 => ?_)
  obtain ⟨hP1, hD1⟩ := hB
  rw [ht] at hP1
  have hP : (r, z) = P := hP
  subst hP
  exact kk H1 locs1 ⟨hP1, hD1.weaken (fun _ q _ h => hFc q.1 h), hS1⟩
theorem call_sl (S : CallFix p m c cc nL s args Ts own) (hNW : NW.all nw_ok = true) (hK : va_K D cl tys s) (hN : nw_all NW s) (hA : ∀ q : Nat, s.heap.size ≤ q → A q) {P : Int64 × S4} (hM : ML l D cl tys NW C y ws rm As u P) (cw : CallB R s args own index y bytes maxL ret ws rm 0 0 n ∧ (Cond.static y).before args s = true) (hw : wd D cl C A s.heap u H locs) (hn : As.length = n) (hsz : ls.size = nL) (hst : st = As.reverse ++ rest) (hroom : (rest.map fun v => v.category).sum ≤ 8) (hdg : decode cc pc = .ok (.invokestatic index, 3)) (hf : cells + 0 ≤ R.cells ∧ slots + 0 ≤ R.slots)
    (kk : ∀ (H1 : Heap) (locs1 : List Loc), wd D cl C A s.heap P.2 H1 locs1 → W p l e R s m args below meth c H1 locs1 cells slots Q (F0 m (pc + 3) ls (.long P.1 :: rest))) : W p l e R s m args below meth c H locs cells slots Q (F0 m pc ls st) := by
  have hFc := wd_free hw hA
  refine va_calll (va_runS S (hM H.size) cw ⟨fb_wB hNW, call_pre hNW hK hN hw rfl⟩ rfl hn hsz hst (lv_room hroom) hdg hf) hw.2.2 (fun q _ h => hFc q h) hFc (fun r z t H1 locs1 ht hvm hP hB hz1 hk1 hS1 => ?_)
  obtain ⟨hP1, hD1⟩ := hB
  rw [ht] at hP1
  have hP : (r, z) = P := hP
  subst hP
  exact kk H1 locs1 ⟨hP1, hD1.weaken (fun _ q _ h => hFc q.1 h), hS1⟩
/-- a private static method of a nest mate -/
theorem call_ni (S : CallFix p m c cc nL s args Ts own) (hNW : NW.all nw_ok = true) (hK : va_K D cl tys s) (hN : nw_all NW s) (hA : ∀ q : Nat, s.heap.size ≤ q → A q) {P : Int32 × S4} (hM : MI l D cl tys NW C y ws rm As u P) (cw : va_CN R s args own index y host bytes maxL ret ws rm 0 0 n ∧ (Cond.static y).before args s = true ∧ True) (hw : wd D cl C A s.heap u H locs) (hn : As.length = n) (hsz : ls.size = nL) (hst : st = As.reverse ++ rest) (hroom : (rest.map fun v => v.category).sum ≤ 8) (hdg : decode cc pc = .ok (.invokestatic index, 3)) (hf : cells + 0 ≤ R.cells ∧ slots + 0 ≤ R.slots)
    (kk : ∀ (H1 : Heap) (locs1 : List Loc), wd D cl C A s.heap P.2 H1 locs1 → W p l e R s m args below meth c H1 locs1 cells slots Q (F0 m (pc + 3) ls (.int P.1 :: rest))) : W p l e R s m args below meth c H locs cells slots Q (F0 m pc ls st) := by
  have hFc := wd_free hw hA
  refine va_calli (va_runSN S (hM H.size) cw ⟨fb_wB hNW, call_pre hNW hK hN hw rfl⟩ rfl hn hsz hst (lv_room hroom) hdg hf) hw.2.2 (fun q _ h => hFc q h) hFc (fun r z t H1 locs1 ht hvm hP hB hz1 hk1 hS1 => ?_)
  obtain ⟨hP1, hD1⟩ := hB
  rw [ht] at hP1
  have hP : (r, z) = P := hP
  subst hP
  exact kk H1 locs1 ⟨hP1, hD1.weaken (fun _ q _ h => hFc q.1 h), hS1⟩
theorem call_vir (S : CallFix p m c cc nL s args Ts own) (hNW : NW.all nw_ok = true) (hK : va_K D cl tys s) (hN : nw_all NW s) (hA : ∀ q : Nat, s.heap.size ≤ q → A q) {x : Int32} (hM : MI l D cl tys NW C y ws rm (.ref b :: As) u (x, u)) (cw : CallW R s args own Cn index y bytes maxL ret ws rm 0 0 n) {q0 ci : Nat} {fs : List Value} {qq : vw_C} (hc : cl[ci]? = some qq) (he : (C u)[q0]? = some (b, .inr (ci, fs))) (hCn : qq.1 = Cn) (hw : wd D cl C A s.heap u H locs) (hn : As.length = n) (hsz : ls.size = nL) (hst : st = As.reverse ++ .ref b :: rest) (hroom : (rest.map fun v => v.category).sum ≤ 8) (hdg : decode cc pc = .ok (.invokevirtual index, 3)) (hf : cells + 0 ≤ R.cells ∧ slots + 0 ≤ R.slots)
    (kk : ∀ (H1 : Heap) (locs1 : List Loc), wd D cl C A s.heap u H1 locs1 → W p l e R s m args below meth c H1 locs1 cells slots Q (F0 m (pc + 3) ls (.int x :: rest))) : W p l e R s m args below meth c H locs cells slots Q (F0 m pc ls st) := call_vi (P := (x, u)) S hNW hK hN hA hM cw hc he hCn hw hn hsz hst hroom hdg hf kk
theorem call_vlr (S : CallFix p m c cc nL s args Ts own) (hNW : NW.all nw_ok = true) (hK : va_K D cl tys s) (hN : nw_all NW s) (hA : ∀ q : Nat, s.heap.size ≤ q → A q) {x : Int64} (hM : ML l D cl tys NW C y ws rm (.ref b :: As) u (x, u)) (cw : CallW R s args own Cn index y bytes maxL ret ws rm 0 0 n) {q0 ci : Nat} {fs : List Value} {qq : vw_C} (hc : cl[ci]? = some qq) (he : (C u)[q0]? = some (b, .inr (ci, fs))) (hCn : qq.1 = Cn) (hw : wd D cl C A s.heap u H locs) (hn : As.length = n) (hsz : ls.size = nL) (hst : st = As.reverse ++ .ref b :: rest) (hroom : (rest.map fun v => v.category).sum ≤ 8) (hdg : decode cc pc = .ok (.invokevirtual index, 3)) (hf : cells + 0 ≤ R.cells ∧ slots + 0 ≤ R.slots)
    (kk : ∀ (H1 : Heap) (locs1 : List Loc), wd D cl C A s.heap u H1 locs1 → W p l e R s m args below meth c H1 locs1 cells slots Q (F0 m (pc + 3) ls (.long x :: rest))) : W p l e R s m args below meth c H locs cells slots Q (F0 m pc ls st) := call_vl (P := (x, u)) S hNW hK hN hA hM cw hc he hCn hw hn hsz hst hroom hdg hf kk
theorem call_sir (S : CallFix p m c cc nL s args Ts own) (hNW : NW.all nw_ok = true) (hK : va_K D cl tys s) (hN : nw_all NW s) (hA : ∀ q : Nat, s.heap.size ≤ q → A q) {x : Int32} (hM : MI l D cl tys NW C y ws rm As u (x, u)) (cw : CallB R s args own index y bytes maxL ret ws rm 0 0 n ∧ (Cond.static y).before args s = true) (hw : wd D cl C A s.heap u H locs) (hn : As.length = n) (hsz : ls.size = nL) (hst : st = As.reverse ++ rest) (hroom : (rest.map fun v => v.category).sum ≤ 8) (hdg : decode cc pc = .ok (.invokestatic index, 3)) (hf : cells + 0 ≤ R.cells ∧ slots + 0 ≤ R.slots)
    (kk : ∀ (H1 : Heap) (locs1 : List Loc), wd D cl C A s.heap u H1 locs1 → W p l e R s m args below meth c H1 locs1 cells slots Q (F0 m (pc + 3) ls (.int x :: rest))) : W p l e R s m args below meth c H locs cells slots Q (F0 m pc ls st) := call_si (P := (x, u)) S hNW hK hN hA hM cw hw hn hsz hst hroom hdg hf kk
theorem call_slr (S : CallFix p m c cc nL s args Ts own) (hNW : NW.all nw_ok = true) (hK : va_K D cl tys s) (hN : nw_all NW s) (hA : ∀ q : Nat, s.heap.size ≤ q → A q) {x : Int64} (hM : ML l D cl tys NW C y ws rm As u (x, u)) (cw : CallB R s args own index y bytes maxL ret ws rm 0 0 n ∧ (Cond.static y).before args s = true) (hw : wd D cl C A s.heap u H locs) (hn : As.length = n) (hsz : ls.size = nL) (hst : st = As.reverse ++ rest) (hroom : (rest.map fun v => v.category).sum ≤ 8) (hdg : decode cc pc = .ok (.invokestatic index, 3)) (hf : cells + 0 ≤ R.cells ∧ slots + 0 ≤ R.slots)
    (kk : ∀ (H1 : Heap) (locs1 : List Loc), wd D cl C A s.heap u H1 locs1 → W p l e R s m args below meth c H1 locs1 cells slots Q (F0 m (pc + 3) ls (.long x :: rest))) : W p l e R s m args below meth c H locs cells slots Q (F0 m pc ls st) := call_sl (P := (x, u)) S hNW hK hN hA hM cw hw hn hsz hst hroom hdg hf kk
theorem call_nir (S : CallFix p m c cc nL s args Ts own) (hNW : NW.all nw_ok = true) (hK : va_K D cl tys s) (hN : nw_all NW s) (hA : ∀ q : Nat, s.heap.size ≤ q → A q) {x : Int32} (hM : MI l D cl tys NW C y ws rm As u (x, u)) (cw : va_CN R s args own index y host bytes maxL ret ws rm 0 0 n ∧ (Cond.static y).before args s = true ∧ True) (hw : wd D cl C A s.heap u H locs) (hn : As.length = n) (hsz : ls.size = nL) (hst : st = As.reverse ++ rest) (hroom : (rest.map fun v => v.category).sum ≤ 8) (hdg : decode cc pc = .ok (.invokestatic index, 3)) (hf : cells + 0 ≤ R.cells ∧ slots + 0 ≤ R.slots)
    (kk : ∀ (H1 : Heap) (locs1 : List Loc), wd D cl C A s.heap u H1 locs1 → W p l e R s m args below meth c H1 locs1 cells slots Q (F0 m (pc + 3) ls (.int x :: rest))) : W p l e R s m args below meth c H locs cells slots Q (F0 m pc ls st) := call_ni (P := (x, u)) S hNW hK hN hA hM cw hw hn hsz hst hroom hdg hf kk
end RW
/-! two worlds side by side: the law's -/
theorem vD_l {A : Nat → Prop} {w1 w2 : va_W} (h : va_D A (w1 ++ w2)) : va_D A w1 := by
  have key : ∀ (k : Nat) (q : Nat × va_E), w1[k]? = some q → (w1 ++ w2)[k]? = some q := fun k q hk => by
    rw [List.getElem?_append_left (List.getElem?_eq_some_iff.mp hk).1]; exact hk
  exact ⟨fun i j p q hi hj e => h.1 i j p q (key i p hi) (key j q hj) e, fun k q hk => h.2 k q (key k q hk)⟩
theorem vD_r {A : Nat → Prop} {w1 w2 : va_W} (h : va_D A (w1 ++ w2)) : va_D A w2 := by
  have key : ∀ (k : Nat) (q : Nat × va_E), w2[k]? = some q → (w1 ++ w2)[w1.length + k]? = some q := fun k q hk => by
    rw [List.getElem?_append_right (Nat.le_add_right _ _), Nat.add_sub_cancel_left]; exact hk
  exact ⟨fun i j p q hi hj e => by have := h.1 _ _ p q (key i p hi) (key j q hj) e; omega, fun k q hk => h.2 _ q (key k q hk)⟩
theorem vD_ne {A : Nat → Prop} {w1 w2 : va_W} (h : va_D A (w1 ++ w2)) {i j : Nat} {p q : Nat × va_E} (hi : w1[i]? = some p) (hj : w2[j]? = some q) : p.1 ≠ q.1 := fun e => by
  have l1 := (List.getElem?_eq_some_iff.mp hi).1
  have := h.1 i (w1.length + j) p q (by rw [List.getElem?_append_left l1]; exact hi) (by rw [List.getElem?_append_right (Nat.le_add_right _ _), Nat.add_sub_cancel_left]; exact hj) e
  omega
def wd2 (D : va_G) (cl : List vw_C) (C1 C2 : S4 → va_W) (A : Nat → Prop) (H0 : Heap) (u v : S4) (H : Heap) (locs : List Loc) : Prop := va_P D cl (C1 u) H ∧ va_P D cl (C2 v) H ∧ va_D A (C1 u ++ C2 v) ∧ va_S A H0 H locs
section LW
variable {p : Program} {l : Launch} {e : Env} {R : Room} {s : State} {m : MethodId} {args : Array Value} {below : List Frame} {meth : Method} {c : Code} {H : Heap} {locs : List Loc} {cells slots : Nat} {Q : State → Prop}
variable {cc : ByteArray} {pc : Nat} {ls : Array Slot} {rest : List Value} {D : va_G} {cl : List vw_C} {tys : List (ClassId × FieldType)} {NW : List Cond} {C1 C2 : S4 → va_W} {A : Nat → Prop} {u v : S4}
variable {y : MethodName} {bytes : ByteArray} {maxL nL n index : Nat} {ret : Option FieldType} {ws Ts : List Cond} {rm : Room} {own Cn : String} {b : Addr} {As st : List Value}
theorem wd2_after1 {H0 H1 : Heap} {locs1 : List Loc} {u1 : S4} (hA : ∀ q : Nat, H0.size ≤ q → A q) (hw : wd2 D cl C1 C2 A H0 u v H locs) (hP1 : va_P D cl (C1 u1) H1) (hD1 : va_D (va_A (C1 u) H.size) (C1 u1)) (hk : ∀ q : Nat, q < H.size → ¬ va_A (C1 u) H.size q → H1[q]? = H[q]?) (hS1 : va_S A H0 H1 locs1) : wd2 D cl C1 C2 A H0 u1 v H1 locs1 := by
  obtain ⟨hPa, hPb, hD, hS⟩ := hw
  have hFc : ∀ q, va_A (C1 u) H.size q → A q := fun q h => by
    rcases h with ⟨k, e, h⟩ | h
    · exact (vD_l hD).2 k (q, e) h
    · exact hA q (Nat.le_trans hS.1 h)
  have out : ∀ (k : Nat) (q : Nat × va_E), (C2 v)[k]? = some q → q.1 < H.size ∧ ¬ va_A (C1 u) H.size q.1 := fun k q hq => by
    have hl := (hPb k q hq).lt
    refine ⟨hl, fun h => ?_⟩
    rcases h with ⟨k2, e, h⟩ | h
    · exact vD_ne hD h hq rfl
    · omega
  refine ⟨hP1, fun k q hq => (hPb k q hq).kept (hk q.1 (out k q hq).1 (out k q hq).2), va_D.app (hD1.weaken (fun _ q _ h => hFc q.1 h)) (vD_r hD) (fun i j x z hx hz e => ?_), hS1⟩
  exact (out j z hz).2 (by rw [← e]; exact hD1.2 i x hx)
theorem wd2_after2 {H0 H1 : Heap} {locs1 : List Loc} {v1 : S4} (hA : ∀ q : Nat, H0.size ≤ q → A q) (hw : wd2 D cl C1 C2 A H0 u v H locs) (hP1 : va_P D cl (C2 v1) H1) (hD1 : va_D (va_A (C2 v) H.size) (C2 v1)) (hk : ∀ q : Nat, q < H.size → ¬ va_A (C2 v) H.size q → H1[q]? = H[q]?) (hS1 : va_S A H0 H1 locs1) : wd2 D cl C1 C2 A H0 u v1 H1 locs1 := by
  obtain ⟨hPa, hPb, hD, hS⟩ := hw
  have hFc : ∀ q, va_A (C2 v) H.size q → A q := fun q h => by
    rcases h with ⟨k, e, h⟩ | h
    · exact (vD_r hD).2 k (q, e) h
    · exact hA q (Nat.le_trans hS.1 h)
  have out : ∀ (k : Nat) (q : Nat × va_E), (C1 u)[k]? = some q → q.1 < H.size ∧ ¬ va_A (C2 v) H.size q.1 := fun k q hq => by
    have hl := (hPa k q hq).lt
    refine ⟨hl, fun h => ?_⟩
    rcases h with ⟨k2, e, h⟩ | h
    · exact vD_ne hD hq h rfl
    · omega
  refine ⟨fun k q hq => (hPa k q hq).kept (hk q.1 (out k q hq).1 (out k q hq).2), hP1, va_D.app (vD_l hD) (hD1.weaken (fun _ q _ h => hFc q.1 h)) (fun i j x z hx hz e => ?_), hS1⟩
  exact (out i x hx).2 (by rw [e]; exact hD1.2 j z hz)
theorem wd2_free1 {H0 : Heap} (hw : wd2 D cl C1 C2 A H0 u v H locs) (hA : ∀ q : Nat, H0.size ≤ q → A q) : ∀ q, va_A (C1 u) H.size q → A q := fun q h => by
  rcases h with ⟨k, e, h⟩ | h
  · exact (vD_l hw.2.2.1).2 k (q, e) h
  · exact hA q (Nat.le_trans hw.2.2.2.1 h)
theorem wd2_free2 {H0 : Heap} (hw : wd2 D cl C1 C2 A H0 u v H locs) (hA : ∀ q : Nat, H0.size ≤ q → A q) : ∀ q, va_A (C2 v) H.size q → A q := fun q h => by
  rcases h with ⟨k, e, h⟩ | h
  · exact (vD_r hw.2.2.1).2 k (q, e) h
  · exact hA q (Nat.le_trans hw.2.2.2.1 h)
theorem law1_i (S : CallFix p m c cc nL s args Ts own) (hNW : NW.all nw_ok = true) (hK : va_K D cl tys s) (hN : nw_all NW s) (hA : ∀ q : Nat, s.heap.size ≤ q → A q) {P : Int32 × S4} (hM : MI l D cl tys NW C1 y ws rm (.ref b :: As) u P) (cw : CallW R s args own Cn index y bytes maxL ret ws rm 0 0 n) {q0 ci : Nat} {fs : List Value} {qq : vw_C} (hc : cl[ci]? = some qq) (he : (C1 u)[q0]? = some (b, .inr (ci, fs))) (hCn : qq.1 = Cn) (hw : wd2 D cl C1 C2 A s.heap u v H locs) (hn : As.length = n) (hsz : ls.size = nL) (hst : st = As.reverse ++ .ref b :: rest) (hroom : (rest.map fun v => v.category).sum ≤ 8) (hdg : decode cc pc = .ok (.invokevirtual index, 3)) (hf : cells + 0 ≤ R.cells ∧ slots + 0 ≤ R.slots)
    (kk : ∀ (H1 : Heap) (locs1 : List Loc), wd2 D cl C1 C2 A s.heap P.2 v H1 locs1 → W p l e R s m args below meth c H1 locs1 cells slots Q (F0 m (pc + 3) ls (.int P.1 :: rest))) : W p l e R s m args below meth c H locs cells slots Q (F0 m pc ls st) := by
  subst hCn
  have hFc := wd2_free1 hw hA
  refine va_calli (va_runV S (hM H.size) cw ⟨fb_wB hNW, va_recv hK hw.1 hc he, fun U hU hW => ⟨rfl, by rw [hU], by rw [hU]; exact hw.1, va_K.moved hW.alike hK, (vD_l hw.2.2.1).weaken (fun _ _ _ _ => trivial), nw_warm hNW hW hN⟩⟩ rfl hn hsz hst (lv_room hroom) hdg hf) hw.2.2.2 (fun q _ h => hFc q h) hFc (fun r z t H1 locs1 ht hvm hP hB hz1 hk1 hS1 => ?_)
  obtain ⟨hP1, hD1⟩ := hB
  rw [ht] at hP1
  have hP : (r, z) = P := hP
  subst hP
  exact kk H1 locs1 (wd2_after1 hA hw hP1 hD1 hk1 hS1)
theorem law1_l (S : CallFix p m c cc nL s args Ts own) (hNW : NW.all nw_ok = true) (hK : va_K D cl tys s) (hN : nw_all NW s) (hA : ∀ q : Nat, s.heap.size ≤ q → A q) {P : Int64 × S4} (hM : ML l D cl tys NW C1 y ws rm (.ref b :: As) u P) (cw : CallW R s args own Cn index y bytes maxL ret ws rm 0 0 n) {q0 ci : Nat} {fs : List Value} {qq : vw_C} (hc : cl[ci]? = some qq) (he : (C1 u)[q0]? = some (b, .inr (ci, fs))) (hCn : qq.1 = Cn) (hw : wd2 D cl C1 C2 A s.heap u v H locs) (hn : As.length = n) (hsz : ls.size = nL) (hst : st = As.reverse ++ .ref b :: rest) (hroom : (rest.map fun v => v.category).sum ≤ 8) (hdg : decode cc pc = .ok (.invokevirtual index, 3)) (hf : cells + 0 ≤ R.cells ∧ slots + 0 ≤ R.slots)
    (kk : ∀ (H1 : Heap) (locs1 : List Loc), wd2 D cl C1 C2 A s.heap P.2 v H1 locs1 → W p l e R s m args below meth c H1 locs1 cells slots Q (F0 m (pc + 3) ls (.long P.1 :: rest))) : W p l e R s m args below meth c H locs cells slots Q (F0 m pc ls st) := by
  subst hCn
  have hFc := wd2_free1 hw hA
  refine va_calll (va_runV S (hM H.size) cw ⟨fb_wB hNW, va_recv hK hw.1 hc he, fun U hU hW => ⟨rfl, by rw [hU], by rw [hU]; exact hw.1, va_K.moved hW.alike hK, (vD_l hw.2.2.1).weaken (fun _ _ _ _ => trivial), nw_warm hNW hW hN⟩⟩ rfl hn hsz hst (lv_room hroom) hdg hf) hw.2.2.2 (fun q _ h => hFc q h) hFc (fun r z t H1 locs1 ht hvm hP hB hz1 hk1 hS1 => ?_)
  obtain ⟨hP1, hD1⟩ := hB
  rw [ht] at hP1
  have hP : (r, z) = P := hP
  subst hP
  exact kk H1 locs1 (wd2_after1 hA hw hP1 hD1 hk1 hS1)
theorem law2_i (S : CallFix p m c cc nL s args Ts own) (hNW : NW.all nw_ok = true) (hK : va_K D cl tys s) (hN : nw_all NW s) (hA : ∀ q : Nat, s.heap.size ≤ q → A q) {P : Int32 × S4} (hM : MI l D cl tys NW C2 y ws rm (.ref b :: As) v P) (cw : CallW R s args own Cn index y bytes maxL ret ws rm 0 0 n) {q0 ci : Nat} {fs : List Value} {qq : vw_C} (hc : cl[ci]? = some qq) (he : (C2 v)[q0]? = some (b, .inr (ci, fs))) (hCn : qq.1 = Cn) (hw : wd2 D cl C1 C2 A s.heap u v H locs) (hn : As.length = n) (hsz : ls.size = nL) (hst : st = As.reverse ++ .ref b :: rest) (hroom : (rest.map fun v => v.category).sum ≤ 8) (hdg : decode cc pc = .ok (.invokevirtual index, 3)) (hf : cells + 0 ≤ R.cells ∧ slots + 0 ≤ R.slots)
    (kk : ∀ (H1 : Heap) (locs1 : List Loc), wd2 D cl C1 C2 A s.heap u P.2 H1 locs1 → W p l e R s m args below meth c H1 locs1 cells slots Q (F0 m (pc + 3) ls (.int P.1 :: rest))) : W p l e R s m args below meth c H locs cells slots Q (F0 m pc ls st) := by
  subst hCn
  have hFc := wd2_free2 hw hA
  refine va_calli (va_runV S (hM H.size) cw ⟨fb_wB hNW, va_recv hK hw.2.1 hc he, fun U hU hW => ⟨rfl, by rw [hU], by rw [hU]; exact hw.2.1, va_K.moved hW.alike hK, (vD_r hw.2.2.1).weaken (fun _ _ _ _ => trivial), nw_warm hNW hW hN⟩⟩ rfl hn hsz hst (lv_room hroom) hdg hf) hw.2.2.2 (fun q _ h => hFc q h) hFc (fun r z t H1 locs1 ht hvm hP hB hz1 hk1 hS1 => ?_)
  obtain ⟨hP1, hD1⟩ := hB
  rw [ht] at hP1
  have hP : (r, z) = P := hP
  subst hP
  exact kk H1 locs1 (wd2_after2 hA hw hP1 hD1 hk1 hS1)
theorem law2_l (S : CallFix p m c cc nL s args Ts own) (hNW : NW.all nw_ok = true) (hK : va_K D cl tys s) (hN : nw_all NW s) (hA : ∀ q : Nat, s.heap.size ≤ q → A q) {P : Int64 × S4} (hM : ML l D cl tys NW C2 y ws rm (.ref b :: As) v P) (cw : CallW R s args own Cn index y bytes maxL ret ws rm 0 0 n) {q0 ci : Nat} {fs : List Value} {qq : vw_C} (hc : cl[ci]? = some qq) (he : (C2 v)[q0]? = some (b, .inr (ci, fs))) (hCn : qq.1 = Cn) (hw : wd2 D cl C1 C2 A s.heap u v H locs) (hn : As.length = n) (hsz : ls.size = nL) (hst : st = As.reverse ++ .ref b :: rest) (hroom : (rest.map fun v => v.category).sum ≤ 8) (hdg : decode cc pc = .ok (.invokevirtual index, 3)) (hf : cells + 0 ≤ R.cells ∧ slots + 0 ≤ R.slots)
    (kk : ∀ (H1 : Heap) (locs1 : List Loc), wd2 D cl C1 C2 A s.heap u P.2 H1 locs1 → W p l e R s m args below meth c H1 locs1 cells slots Q (F0 m (pc + 3) ls (.long P.1 :: rest))) : W p l e R s m args below meth c H locs cells slots Q (F0 m pc ls st) := by
  subst hCn
  have hFc := wd2_free2 hw hA
  refine va_calll (va_runV S (hM H.size) cw ⟨fb_wB hNW, va_recv hK hw.2.1 hc he, fun U hU hW => ⟨rfl, by rw [hU], by rw [hU]; exact hw.2.1, va_K.moved hW.alike hK, (vD_r hw.2.2.1).weaken (fun _ _ _ _ => trivial), nw_warm hNW hW hN⟩⟩ rfl hn hsz hst (lv_room hroom) hdg hf) hw.2.2.2 (fun q _ h => hFc q h) hFc (fun r z t H1 locs1 ht hvm hP hB hz1 hk1 hS1 => ?_)
  obtain ⟨hP1, hD1⟩ := hB
  rw [ht] at hP1
  have hP : (r, z) = P := hP
  subst hP
  exact kk H1 locs1 (wd2_after2 hA hw hP1 hD1 hk1 hS1)
end LW
theorem k3_of {args : Array Value} {s : State} {ty : FieldType} (h : (Cond.arrayClass ty).before args s = true) : ∃ cA : ClassId, ArrOfT s cA ty ∧ s.vm.findClass ("[" ++ ty.toString) = some cA := by
  obtain ⟨cA, k, comp, h1, h2, h3⟩ := Cond.arrayClass_spec h
  exact ⟨cA, fun n z => ⟨fun k h => (by cases h), k, h2, comp, h3⟩, h1⟩
