section MC
variable {p : Program} {l : Launch} {e : Env} {R : Room} {s : State} {m : MethodId} {args : Array Value} {below : List Frame} {meth : Method} {c : Code} {H : Heap} {locs : List Loc} {cells slots : Nat} {Q : State → Prop}
variable {cc : ByteArray} {pc nL : Nat} {own : String} {ls : Array Slot} {rest : List Value} {D : va_G} {B n : Nat} {K : Nat → ClassId} {g g' : m_G}
theorem m_putI (E : m_V p m c cc nL s args own D K) (S : m_S D B K n g s.heap H locs) {a ci k index N : Nat} {C ref nm ds : String} {T : u_T} {x : Int32} (F : m_Fd ci k C ref nm ds T N false .int) (hlink : Cond.fieldLink own index ref nm ds ∈ m_TB ∨ ∃ host, Cond.fieldLinkNest own index ref nm ds host ∈ m_NW)
    (hp : m_pI g a ci k x = some g') (hdg : decode cc pc = .ok (.putfield index, 3))
    (kk : ∀ (H1 : Heap) (locs1 : List Loc), m_S D B K n g' s.heap H1 locs1 → W p l e R s m args below meth c H1 locs1 cells slots Q (F0 m (pc + 3) ls rest)) : W p l e R s m args below meth c H locs cells slots Q (F0 m pc ls (.int x :: .ref (B + a) :: rest)) := m_put E S F hlink (v := .int x) hp rfl rfl rfl hdg kk
theorem m_putL (E : m_V p m c cc nL s args own D K) (S : m_S D B K n g s.heap H locs) {a ci k index N : Nat} {C ref nm ds : String} {T : u_T} {x : Int64} (F : m_Fd ci k C ref nm ds T N false .long) (hlink : Cond.fieldLink own index ref nm ds ∈ m_TB ∨ ∃ host, Cond.fieldLinkNest own index ref nm ds host ∈ m_NW)
    (hp : m_pL g a ci k x = some g') (hdg : decode cc pc = .ok (.putfield index, 3))
    (kk : ∀ (H1 : Heap) (locs1 : List Loc), m_S D B K n g' s.heap H1 locs1 → W p l e R s m args below meth c H1 locs1 cells slots Q (F0 m (pc + 3) ls rest)) : W p l e R s m args below meth c H locs cells slots Q (F0 m pc ls (.long x :: .ref (B + a) :: rest)) := m_put E S F hlink (v := .long x) hp rfl rfl rfl hdg kk
theorem m_putZ (E : m_V p m c cc nL s args own D K) (S : m_S D B K n g s.heap H locs) {a ci k index N : Nat} {C ref nm ds : String} {T : u_T} {x : Int32} (F : m_Fd ci k C ref nm ds T N false .boolean) (hlink : Cond.fieldLink own index ref nm ds ∈ m_TB ∨ ∃ host, Cond.fieldLinkNest own index ref nm ds host ∈ m_NW)
    (hp : m_pZ g a ci k x = some g') (hdg : decode cc pc = .ok (.putfield index, 3))
    (kk : ∀ (H1 : Heap) (locs1 : List Loc), m_S D B K n g' s.heap H1 locs1 → W p l e R s m args below meth c H1 locs1 cells slots Q (F0 m (pc + 3) ls rest)) : W p l e R s m args below meth c H locs cells slots Q (F0 m pc ls (.int x :: .ref (B + a) :: rest)) := by
  unfold m_pZ at hp
  split at hp
  · rename_i hz
    exact m_put E S F hlink (v := .int x) hp rfl (m_fitB hz).1 (m_fitB hz).2 hdg kk
  · cases hp
theorem m_putR (E : m_V p m c cc nL s args own D K) (S : m_S D B K n g s.heap H locs) {a ci k index N : Nat} {C ref nm ds cn : String} {T : u_T} {x : Option Nat} (F : m_Fd ci k C ref nm ds T N false (.object cn)) (hlink : Cond.fieldLink own index ref nm ds ∈ m_TB ∨ ∃ host, Cond.fieldLinkNest own index ref nm ds host ∈ m_NW)
    (hp : m_pR g a ci k x = some g') (hdg : decode cc pc = .ok (.putfield index, 3))
    (kk : ∀ (H1 : Heap) (locs1 : List Loc), m_S D B K n g' s.heap H1 locs1 → W p l e R s m args below meth c H1 locs1 cells slots Q (F0 m (pc + 3) ls rest)) : W p l e R s m args below meth c H locs cells slots Q (F0 m pc ls (m_r B x :: .ref (B + a) :: rest)) := m_put E S F hlink (v := m_rv x) hp (m_v_rv B x) (by cases x <;> rfl) (by cases x <;> rfl) hdg kk
theorem m_putFR (E : m_V p m c cc nL s args own D K) (S : m_S D B K n g s.heap H locs) {a ci k index N : Nat} {C nm ds : String} {T : u_T} {x : Option Nat} {ty : FieldType} (F : m_Fd ci k C own nm ds T N true ty) (hty : (∃ cn, ty = .object cn) ∨ ∃ t, ty = .array t) (hin2 : meth.name = "<init>") (hlink : Cond.fieldLink own index own nm ds ∈ m_TB)
    (hp : m_pR g a ci k x = some g') (hdg : decode cc pc = .ok (.putfield index, 3))
    (kk : ∀ (H1 : Heap) (locs1 : List Loc), m_S D B K n g' s.heap H1 locs1 → W p l e R s m args below meth c H1 locs1 cells slots Q (F0 m (pc + 3) ls rest)) : W p l e R s m args below meth c H locs cells slots Q (F0 m pc ls (m_r B x :: .ref (B + a) :: rest)) := by
  rcases hty with ⟨cn, rfl⟩ | ⟨t, rfl⟩
  · exact m_putF E S F hin2 hlink (v := m_rv x) hp (m_v_rv B x) (by cases x <;> rfl) (by cases x <;> rfl) hdg kk
  · exact m_putF E S F hin2 hlink (v := m_rv x) hp (m_v_rv B x) (by cases x <;> rfl) (by cases x <;> rfl) hdg kk
-- arrays
theorem m_iald (E : m_V p m c cc nL s args own D K) (S : m_S D B K n g s.heap H locs) {a t : Nat} {i x : Int32} (ht : m_TY[t]? = some .int) (hv : m_ld g a t i = some x) (hdg : decode cc pc = .ok (.iaload, 1))
    (kk : W p l e R s m args below meth c H locs cells slots Q (F0 m (pc + 1) ls (.int x :: rest))) : W p l e R s m args below meth c H locs cells slots Q (F0 m pc ls (.int i :: .ref (B + a) :: rest)) := by
  obtain ⟨⟨hx, hb, hml, hown, hts⟩, hK⟩ := E
  obtain ⟨len, f, hg, hi, rfl⟩ := m_ld_inv hv
  exact va_iald hx hb hK.1 S.1 a t (m_wsI hg (S.ltA hg)) (m_tys_get ht) (m_in_vp hi) hdg kk
theorem m_cald (E : m_V p m c cc nL s args own D K) (S : m_S D B K n g s.heap H locs) {a t : Nat} {i x : Int32} (ht : m_TY[t]? = some .char) (hv : m_ld g a t i = some x) (hdg : decode cc pc = .ok (.caload, 1))
    (kk : W p l e R s m args below meth c H locs cells slots Q (F0 m (pc + 1) ls (.int x :: rest))) : W p l e R s m args below meth c H locs cells slots Q (F0 m pc ls (.int i :: .ref (B + a) :: rest)) := by
  obtain ⟨⟨hx, hb, hml, hown, hts⟩, hK⟩ := E
  obtain ⟨len, f, hg, hi, rfl⟩ := m_ld_inv hv
  exact va_cald hx hb hK.1 S.1 a t (m_wsI hg (S.ltA hg)) (m_tys_get ht) (m_in_vp hi) hdg kk
theorem m_zald (E : m_V p m c cc nL s args own D K) (S : m_S D B K n g s.heap H locs) {a t : Nat} {i x : Int32} (ht : m_TY[t]? = some .boolean) (hv : m_ld g a t i = some x) (hdg : decode cc pc = .ok (.baload, 1))
    (kk : W p l e R s m args below meth c H locs cells slots Q (F0 m (pc + 1) ls (.int x :: rest))) : W p l e R s m args below meth c H locs cells slots Q (F0 m pc ls (.int i :: .ref (B + a) :: rest)) := by
  obtain ⟨⟨hx, hb, hml, hown, hts⟩, hK⟩ := E
  obtain ⟨len, f, hg, hi, rfl⟩ := m_ld_inv hv
  exact va_zald hx hb hK.1 S.1 a t (m_wsI hg (S.ltA hg)) (m_tys_get ht) (m_in_vp hi) hdg kk
theorem m_lald (E : m_V p m c cc nL s args own D K) (S : m_S D B K n g s.heap H locs) {a t : Nat} {i : Int32} {x : Int64} (ht : m_TY[t]? = some .long) (hv : m_ldL g a t i = some x) (hdg : decode cc pc = .ok (.laload, 1))
    (kk : W p l e R s m args below meth c H locs cells slots Q (F0 m (pc + 1) ls (.long x :: rest))) : W p l e R s m args below meth c H locs cells slots Q (F0 m pc ls (.int i :: .ref (B + a) :: rest)) := by
  obtain ⟨⟨hx, hb, hml, hown, hts⟩, hK⟩ := E
  obtain ⟨len, f, hg, hi, rfl⟩ := m_ldL_inv hv
  exact va_lald hx hb hK.1 S.1 a t (m_wsL hg (S.ltA hg)) (m_tys_get ht) (m_in_vp hi) hdg kk
theorem m_aald (E : m_V p m c cc nL s args own D K) (S : m_S D B K n g s.heap H locs) {a t : Nat} {i : Int32} {x : Option Nat} {cn : String} (ht : m_TY[t]? = some (.object cn)) (hv : m_ldR g a t i = some x) (hdg : decode cc pc = .ok (.aaload, 1))
    (kk : W p l e R s m args below meth c H locs cells slots Q (F0 m (pc + 1) ls (m_r B x :: rest))) : W p l e R s m args below meth c H locs cells slots Q (F0 m pc ls (.int i :: .ref (B + a) :: rest)) := by
  obtain ⟨⟨hx, hb, hml, hown, hts⟩, hK⟩ := E
  obtain ⟨len, f, hg, hi, rfl⟩ := m_ldR_inv hv
  exact va_aldq hx hb hK.1 S.1 a t (m_wsR hg (S.ltA hg)) (m_tys_get ht) (m_in_vp hi) hdg kk
theorem m_iast (E : m_V p m c cc nL s args own D K) (S : m_S D B K n g s.heap H locs) {a t : Nat} {i x : Int32} (ht : m_TY[t]? = some .int) (hv : m_st g a t i x = some g') (hdg : decode cc pc = .ok (.iastore, 1))
    (kk : ∀ (H1 : Heap) (locs1 : List Loc), m_S D B K n g' s.heap H1 locs1 → W p l e R s m args below meth c H1 locs1 cells slots Q (F0 m (pc + 1) ls rest)) : W p l e R s m args below meth c H locs cells slots Q (F0 m pc ls (.int x :: .int i :: .ref (B + a) :: rest)) := by
  obtain ⟨⟨hx, hb, hml, hown, hts⟩, hK⟩ := E
  obtain ⟨len, f, hg, hi, rfl⟩ := m_st_inv hv
  exact va_iast hx hb hK.1 S.1 m_ws_D S.2.1 a t (m_wsI hg (S.ltA hg)) (m_tys_get ht) (m_in_vp hi) hdg (fun H1 locs1 hP _ hS => kk H1 locs1 (S.up (S.ltA hg) hP hS rfl))
theorem m_cast (E : m_V p m c cc nL s args own D K) (S : m_S D B K n g s.heap H locs) {a t : Nat} {i x : Int32} (ht : m_TY[t]? = some .char) (hv : m_st g a t i (vp_nar .char x) = some g') (hdg : decode cc pc = .ok (.castore, 1))
    (kk : ∀ (H1 : Heap) (locs1 : List Loc), m_S D B K n g' s.heap H1 locs1 → W p l e R s m args below meth c H1 locs1 cells slots Q (F0 m (pc + 1) ls rest)) : W p l e R s m args below meth c H locs cells slots Q (F0 m pc ls (.int x :: .int i :: .ref (B + a) :: rest)) := by
  obtain ⟨⟨hx, hb, hml, hown, hts⟩, hK⟩ := E
  obtain ⟨len, f, hg, hi, rfl⟩ := m_st_inv hv
  exact va_cast hx hb hK.1 S.1 m_ws_D S.2.1 a t (m_wsI hg (S.ltA hg)) (m_tys_get ht) (m_in_vp hi) hdg (fun H1 locs1 hP _ hS => kk H1 locs1 (S.up (S.ltA hg) hP hS rfl))
theorem m_zast (E : m_V p m c cc nL s args own D K) (S : m_S D B K n g s.heap H locs) {a t : Nat} {i x : Int32} (ht : m_TY[t]? = some .boolean) (hv : m_st g a t i (vp_nar .boolean x) = some g') (hdg : decode cc pc = .ok (.bastore, 1))
    (kk : ∀ (H1 : Heap) (locs1 : List Loc), m_S D B K n g' s.heap H1 locs1 → W p l e R s m args below meth c H1 locs1 cells slots Q (F0 m (pc + 1) ls rest)) : W p l e R s m args below meth c H locs cells slots Q (F0 m pc ls (.int x :: .int i :: .ref (B + a) :: rest)) := by
  obtain ⟨⟨hx, hb, hml, hown, hts⟩, hK⟩ := E
  obtain ⟨len, f, hg, hi, rfl⟩ := m_st_inv hv
  exact va_zast hx hb hK.1 S.1 m_ws_D S.2.1 a t (m_wsI hg (S.ltA hg)) (m_tys_get ht) (m_in_vp hi) hdg (fun H1 locs1 hP _ hS => kk H1 locs1 (S.up (S.ltA hg) hP hS rfl))
theorem m_last (E : m_V p m c cc nL s args own D K) (S : m_S D B K n g s.heap H locs) {a t : Nat} {i : Int32} {x : Int64} (ht : m_TY[t]? = some .long) (hv : m_stL g a t i x = some g') (hdg : decode cc pc = .ok (.lastore, 1))
    (kk : ∀ (H1 : Heap) (locs1 : List Loc), m_S D B K n g' s.heap H1 locs1 → W p l e R s m args below meth c H1 locs1 cells slots Q (F0 m (pc + 1) ls rest)) : W p l e R s m args below meth c H locs cells slots Q (F0 m pc ls (.long x :: .int i :: .ref (B + a) :: rest)) := by
  obtain ⟨⟨hx, hb, hml, hown, hts⟩, hK⟩ := E
  obtain ⟨len, f, hg, hi, rfl⟩ := m_stL_inv hv
  exact va_last hx hb hK.1 S.1 m_ws_D S.2.1 a t (m_wsL hg (S.ltA hg)) (m_tys_get ht) (m_in_vp hi) hdg (fun H1 locs1 hP _ hS => kk H1 locs1 (S.up (S.ltA hg) hP hS rfl))
theorem m_map_up {B : Nat} {f : Nat → Option Nat} {k v : Nat} : va_up (fun j => (f j).map (fun a => B + a)) k (some (B + v)) = fun j => (va_up f k (some v) j).map (fun a => B + a) := by
  funext j
  unfold va_up
  by_cases h : j = k
  · simp [h]
  · simp [h]
theorem m_aast (E : m_V p m c cc nL s args own D K) (S : m_S D B K n g s.heap H locs) {a t ci v : Nat} {i : Int32} {r : vw_C} (ht : m_TY[t]? = some (.object r.1)) (hc : classes[ci]? = some r) (hv : m_stR g a t ci i v = some g') (hdg : decode cc pc = .ok (.aastore, 1))
    (kk : ∀ (H1 : Heap) (locs1 : List Loc), m_S D B K n g' s.heap H1 locs1 → W p l e R s m args below meth c H1 locs1 cells slots Q (F0 m (pc + 1) ls rest)) : W p l e R s m args below meth c H locs cells slots Q (F0 m pc ls (.ref (B + v) :: .int i :: .ref (B + a) :: rest)) := by
  obtain ⟨⟨hx, hb, hml, hown, hts⟩, hK⟩ := E
  obtain ⟨len, f, hg, hi, hz, rfl⟩ := m_stR_inv hv
  obtain ⟨fs, hfs⟩ := m_is_inv hz
  exact va_astq hx hb hK.1 S.1 m_ws_D S.2.1 a t v ci (m_wsR hg (S.ltA hg)) (m_tys_get ht) (m_wsO hfs (S.ltO hfs (m_cls_lt hc))) hc (m_in_vp hi) hdg (fun H1 locs1 hP _ hS => kk H1 locs1 (S.up (S.ltA hg) hP hS (by rw [m_map_up]; rfl)))
theorem m_alen (E : m_V p m c cc nL s args own D K) (S : m_S D B K n g s.heap H locs) {a : Nat} {x : Int32} (hv : m_len g a = some x) (hdg : decode cc pc = .ok (.arraylength, 1))
    (kk : W p l e R s m args below meth c H locs cells slots Q (F0 m (pc + 1) ls (.int x :: rest))) : W p l e R s m args below meth c H locs cells slots Q (F0 m pc ls (.ref (B + a) :: rest)) := by
  obtain ⟨⟨hx, hb, hml, hown, hts⟩, hK⟩ := E
  unfold m_len at hv
  split at hv
  · rename_i t len f hg
    split at hv
    · rename_i ht
      have ha := S.ltA hg
      have hw := m_ws_get (B := B) (K := K) (g := g) ha
      rw [hg] at hw
      refine va_alen hx hb hK.1 S.1 a t hw (m_tys_get (List.getElem?_eq_getElem ht)) (v := x) ?_ hdg kk
      rw [← Option.some.inj hv]
      obtain f | f | f | f | f := f <;> rfl
    · cases hv
  · cases hv
theorem m_copy (E : m_V p m c cc nL s args own D K) (hsz : ls.size = nL) (S : m_S D B K n g s.heap H locs) {a0 a t index : Nat} {ty : FieldType} {sp dp k : Int32} (ht : m_TY[t]? = some ty) (hprim : refKind ty = false) (hlink : Cond.methodLink own index arraycopyName ∈ m_TB) (hnat : Cond.native arraycopyName ∈ m_TB) (hstat : Cond.static arraycopyName ∈ m_TB) (hini : Cond.initialized "java/lang/System" ∈ m_TB)
    (hframes : 1 ≤ R.frames) (hlocals : (rest.map fun v => v.category).sum + (nativeFrameWords "java/lang/System" "arraycopy" 5 + 11) ≤ R.locals) (hv : m_cpy g a0 a t ty sp dp k = some g') (hdg : decode cc pc = .ok (.invokestatic index, 3))
    (kk : ∀ (H1 : Heap) (locs1 : List Loc), m_S D B K n g' s.heap H1 locs1 → W p l e R s m args below meth c H1 locs1 cells slots Q (F0 m (pc + 3) ls rest)) : W p l e R s m args below meth c H locs cells slots Q (F0 m pc ls (.int k :: .int dp :: .ref (B + a) :: .int sp :: .ref (B + a0) :: rest)) := by
  obtain ⟨⟨hx, hb, hml, hown, hts⟩, hK⟩ := E
  unfold m_cpy at hv
  split at hv
  · rename_i t0 n0 f0 t1 n1 f1 e0 e1
    split at hv
    · rename_i hh
      obtain ⟨rfl, rfl, h1, h2, h3, h4, h5, h6⟩ := hh
      cases hv
      refine va_copyi hx hb (hml.trans hsz.symm) hown (hts _ hlink) (hts _ hnat) (hts _ hstat) (hts _ hini) hK.1 S.1 m_ws_D S.2.1 a0 a t1 t1 (m_wsI e0 (S.ltA e0)) (m_wsI e1 (S.ltA e1)) (m_tys_get ht) (m_tys_get ht) hprim (Int32.not_lt.mpr h1) (Int32.not_lt.mpr h2) (Int32.not_lt.mpr h3) h4 h5 (fun i hi => ?_) hframes hlocals hdg (fun H1 locs1 hP _ hS => kk H1 locs1 (S.up (S.ltA e1) hP hS rfl))
      exact List.all_eq_true.mp h6 i (List.mem_range.mpr hi)
    · cases hv
  · cases hv
-- references in locals; null tests
theorem m_aload_n (E : m_V p m c cc nL s args own D K) {k : Fin 4} {i : Nat} {r : Option Nat} (hdg : decode cc pc = .ok (.aload_n k, 1)) (hi : (k : Nat) = i) (hl : ls[i]? = some (.val (m_r B r)))
    (kk : W p l e R s m args below meth c H locs cells slots Q (F0 m (pc + 1) ls (m_r B r :: rest))) : W p l e R s m args below meth c H locs cells slots Q (F0 m pc ls rest) := by
  obtain ⟨⟨hx, hb, hml, hown, hts⟩, hK⟩ := E
  cases r
  · exact lv_aload_nN hx hb hdg hi hl kk
  · exact lv_aload_n hx hb hdg hi hl kk
theorem m_aload (E : m_V p m c cc nL s args own D K) {i : Nat} {r : Option Nat} (hdg : decode cc pc = .ok (.aload i, 2)) (hl : ls[i]? = some (.val (m_r B r)))
    (kk : W p l e R s m args below meth c H locs cells slots Q (F0 m (pc + 2) ls (m_r B r :: rest))) : W p l e R s m args below meth c H locs cells slots Q (F0 m pc ls rest) := by
  obtain ⟨⟨hx, hb, hml, hown, hts⟩, hK⟩ := E
  cases r
  · exact lv_aloadN hx hb hdg hl kk
  · exact lv_aload hx hb hdg hl kk
theorem m_astore_n (E : m_V p m c cc nL s args own D K) {k : Fin 4} {i : Nat} {r : Option Nat} {lv lv' : List (Nat × Value)} (hdg : decode cc pc = .ok (.astore_n k, 1)) (hi : (k : Nat) = i) (h : lv_has ls nL lv) (hn : i < nL) (hl : (i, m_r B r) :: lv.filter (fun q => !(q.1 == i) && !(q.1 + 1 == i && q.2.category == 2)) = lv')
    (kk : ∀ ls' : Array Slot, lv_has ls' nL lv' → W p l e R s m args below meth c H locs cells slots Q (F0 m (pc + 1) ls' rest)) : W p l e R s m args below meth c H locs cells slots Q (F0 m pc ls (m_r B r :: rest)) := by
  obtain ⟨⟨hx, hb, hml, hown, hts⟩, hK⟩ := E
  cases r
  · exact lv_astore_nN hx hb hdg hi h hn hl kk
  · exact lv_astore_n hx hb hdg hi h hn hl kk
theorem m_astore (E : m_V p m c cc nL s args own D K) {i : Nat} {r : Option Nat} {lv lv' : List (Nat × Value)} (hdg : decode cc pc = .ok (.astore i, 2)) (h : lv_has ls nL lv) (hn : i < nL) (hl : (i, m_r B r) :: lv.filter (fun q => !(q.1 == i) && !(q.1 + 1 == i && q.2.category == 2)) = lv')
    (kk : ∀ ls' : Array Slot, lv_has ls' nL lv' → W p l e R s m args below meth c H locs cells slots Q (F0 m (pc + 2) ls' rest)) : W p l e R s m args below meth c H locs cells slots Q (F0 m pc ls (m_r B r :: rest)) := by
  obtain ⟨⟨hx, hb, hml, hown, hts⟩, hK⟩ := E
  cases r
  · exact lv_astoreN hx hb hdg h hn hl kk
  · exact lv_astore hx hb hdg h hn hl kk
theorem m_ifnull (E : m_V p m c cc nL s args own D K) {r : Option Nat} {off : Int} {tgt : Nat} (hdg : decode cc pc = .ok (.ifnull off, 3)) (ht : (pc : Int) + off = (tgt : Int))
    (kt : r = none → W p l e R s m args below meth c H locs cells slots Q (F0 m tgt ls rest)) (kf : ∀ a, r = some a → W p l e R s m args below meth c H locs cells slots Q (F0 m (pc + 3) ls rest)) : W p l e R s m args below meth c H locs cells slots Q (F0 m pc ls (m_r B r :: rest)) := by
  obtain ⟨⟨hx, hb, hml, hown, hts⟩, hK⟩ := E
  cases r
  · exact lv_ifnullN hx hb hdg ht (kt rfl)
  · exact lv_ifnull hx hb hdg (kf _ rfl)
theorem m_ifnonnull (E : m_V p m c cc nL s args own D K) {r : Option Nat} {off : Int} {tgt : Nat} (hdg : decode cc pc = .ok (.ifnonnull off, 3)) (ht : (pc : Int) + off = (tgt : Int))
    (kt : ∀ a, r = some a → W p l e R s m args below meth c H locs cells slots Q (F0 m tgt ls rest)) (kf : r = none → W p l e R s m args below meth c H locs cells slots Q (F0 m (pc + 3) ls rest)) : W p l e R s m args below meth c H locs cells slots Q (F0 m pc ls (m_r B r :: rest)) := by
  obtain ⟨⟨hx, hb, hml, hown, hts⟩, hK⟩ := E
  cases r
  · exact lv_ifnonnullN hx hb hdg (kf rfl)
  · exact lv_ifnonnull hx hb hdg ht (kt _ rfl)
end MC
section MD
variable {p : Program} {l : Launch} {e : Env} {R : Room} {s : State} {m : MethodId} {args : Array Value} {below : List Frame} {meth : Method} {c : Code} {H : Heap} {locs : List Loc} {cells slots : Nat} {Q : State → Prop}
variable {cc : ByteArray} {pc nL : Nat} {own : String} {ls : Array Slot} {rest rest' : List Value} {D : va_G} {B n : Nat} {K : Nat → ClassId} {g : m_G}
-- the ends of a method
theorem m_end (S : m_S D B K n g s.heap H locs) (hz : s.heap.size + cells = B + n) {v : Option Value}
    (kk : (∀ t : State, t.heap = H → s.WarmedH t.vm → m_Q D B K v n g args s (.returned v) t) → (∀ q ∈ locs, B ≤ q.base) → W p l e R s m args below meth c H locs cells slots Q (F0 m pc ls rest)) : W p l e R s m args below meth c H locs cells slots Q (F0 m pc ls rest) := by
  refine m_size (fun h => kk (fun t ht _ => ⟨rfl, ?_, by rw [ht]; exact S.1, S.2.1.F ht, S.2.2.1⟩) S.2.1.2.2)
  have := S.size
  rw [ht]
  omega
theorem m_iret (E : m_V p m c cc nL s args own D K) (S : m_S D B K n g s.heap H locs) (hz : s.heap.size + cells = B + n) (hr : meth.sig.returnType = some .int) (hlocks : meth.locks = false) {v : Int32} (hdg : decode cc pc = .ok (.ireturn, 1)) :
    W p l e R s m args below meth c H locs cells slots (MQ below (m_Q D B K (some (.int v)) n g) args s cells slots (fun q => B ≤ q)) (F0 m pc ls [.int v]) := by
  obtain ⟨⟨hx, hb, hml, hown, hts⟩, hK⟩ := E
  exact m_end S hz (fun hq hf => W.iret hx hb hr hq hf hdg hlocks)
theorem m_zret (E : m_V p m c cc nL s args own D K) (S : m_S D B K n g s.heap H locs) (hz : s.heap.size + cells = B + n) (hr : meth.sig.returnType = some .boolean) (hlocks : meth.locks = false) {v : Int32} (hv : v = 0 ∨ v = 1) (hdg : decode cc pc = .ok (.ireturn, 1)) :
    W p l e R s m args below meth c H locs cells slots (MQ below (m_Q D B K (some (.int v)) n g) args s cells slots (fun q => B ≤ q)) (F0 m pc ls [.int v]) := by
  obtain ⟨⟨hx, hb, hml, hown, hts⟩, hK⟩ := E
  exact m_end S hz (fun hq hf => W.zret hx hb hr (m_fitB hv).1 hq hf hdg hlocks)
theorem m_lret (E : m_V p m c cc nL s args own D K) (S : m_S D B K n g s.heap H locs) (hz : s.heap.size + cells = B + n) (hr : meth.sig.returnType = some .long) (hlocks : meth.locks = false) {v : Int64} (hdg : decode cc pc = .ok (.lreturn, 1)) :
    W p l e R s m args below meth c H locs cells slots (MQ below (m_Q D B K (some (.long v)) n g) args s cells slots (fun q => B ≤ q)) (F0 m pc ls [.long v]) := by
  obtain ⟨⟨hx, hb, hml, hown, hts⟩, hK⟩ := E
  exact m_end S hz (fun hq hf => W.lret hx hb hr hq hf hdg hlocks)
theorem m_vret (E : m_V p m c cc nL s args own D K) (S : m_S D B K n g s.heap H locs) (hz : s.heap.size + cells = B + n) (hr : meth.sig.returnType = none) (hlocks : meth.locks = false) (hdg : decode cc pc = .ok (.return_, 1)) :
    W p l e R s m args below meth c H locs cells slots (MQ below (m_Q D B K none n g) args s cells slots (fun q => B ≤ q)) (F0 m pc ls []) := by
  obtain ⟨⟨hx, hb, hml, hown, hts⟩, hK⟩ := E
  exact m_end S hz (fun hq hf => W.vret hx hb hr hq hf hdg hlocks)
theorem m_aret (E : m_V p m c cc nL s args own D K) (S : m_S D B K n g s.heap H locs) (hz : s.heap.size + cells = B + n) {rt : FieldType} (hr : meth.sig.returnType = some rt) (hrt : (∃ n, rt = .object n) ∨ ∃ t, rt = .array t) (hlocks : meth.locks = false) {r : Option Nat} (hdg : decode cc pc = .ok (.areturn, 1)) :
    W p l e R s m args below meth c H locs cells slots (MQ below (m_Q D B K (some (m_r B r)) n g) args s cells slots (fun q => B ≤ q)) (F0 m pc ls [m_r B r]) := by
  obtain ⟨⟨hx, hb, hml, hown, hts⟩, hK⟩ := E
  exact m_end S hz (fun hq hf => W.aret hx hb hr hrt (by cases r <;> first | exact Or.inl rfl | exact Or.inr ⟨_, rfl⟩) hq hf hdg hlocks)
-- calls
theorem m_blind {n : Nat} {g : m_G} {av : List Value} : FrameBlind (m_Pc D B K n g av) := fun a U f mk h =>
  ⟨h.1, h.2.1, h.2.2.1, m_K.same (s := U) (U := U.calling f mk a) rfl h.2.2.2.1, h.2.2.2.2⟩
theorem m_pc (E : m_V p m c cc nL s args own D K) (S : m_S D B K n g s.heap H locs) (hz : s.heap.size + cells = B + n) (hh : H.size ≤ s.heap.size + cells) {av : List Value} : ∀ U : State, U.heap = H → s.WarmedH U.vm → m_Pc D B K n g av av.toArray U := fun U hU hW =>
  ⟨rfl, by have := S.size; rw [hU]; omega, by rw [hU]; exact S.1, E.2.warm hW, S.2.2.1⟩
theorem m_good {y : MethodName} {bytes : ByteArray} {maxL : Nat} {ret : Option FieldType} (hcd : Cond.code y bytes maxL ret ∈ m_TB) : GoodIn m_TB (Cond.code y bytes maxL ret :: m_TB) := fun w hw => by
  have h : w ∈ m_TB := by
    rcases List.mem_cons.mp hw with rfl | h
    · exact hcd
    · exact h
  exact ⟨h, good_of_word (List.all_eq_true.mp m_TB_good w h)⟩
/-- what a call needs of the tables: the callee's code, and the way from here to it -/
theorem m_ran {mc ms : Nat} {n' : Nat} {g' : m_G} {v : Option Value} {a : Array Value} (E : m_V p m c cc nL s args own D K) (S : m_S D B K n g s.heap H locs) (hr : H.size ≤ s.heap.size + cells → va_Run p l e R s m args below meth c H locs cells slots mc ms (F0 m pc ls rest) rest' (m_Q D B K v n' g' a) (fun q => B ≤ q))
    (kk : ∀ (H1 : Heap) (locs1 : List Loc), m_S D B K n' g' s.heap H1 locs1 → W p l e R s m args below meth c H1 locs1 (cells + mc) (slots + ms) Q (F0 m (pc + 3) ls (v.toList ++ rest'))) : W p l e R s m args below meth c H locs cells slots Q (F0 m pc ls rest) := by
  refine m_size (fun hh => ?_)
  intro T hT X
  obtain ⟨v', st₀, t, T', L, h0, X', hL, e1, e2, ⟨hv, hz, hP, hF, hd⟩, st⟩ := hr hh T hT X
  cases hv
  rw [← e1] at hP
  obtain ⟨hz1, hk⟩ := hF
  rw [h0, ← e1] at hz1 hk
  obtain ⟨t2, a1, b1⟩ := kk T'.heap (locs ++ L) ⟨hP, ⟨Nat.le_trans S.2.1.1 hz1, fun q h1 h2 => by
    rw [hk q (Nat.lt_of_lt_of_le h1 S.2.1.1) h2]; exact S.2.1.2.1 q h1 h2, fun q hq => by
      rcases List.mem_append.mp hq with h | h
      · exact S.2.1.2.2 q h
      · exact hL q h⟩, hd, S.2.2.2⟩ T' rfl X'
  exact ⟨t2, st t2 a1, b1⟩
theorem m_callV {y : MethodName} {bytes : ByteArray} {maxL mc ms index nn b ci N n' : Nat} {ret : Option FieldType} {rm : Room} {As : List Value} {v : Option Value} {g' : m_G} {T : u_T} (E : m_V p m c cc nL s args own D K) (S : m_S D B K n g s.heap H locs) (hz : s.heap.size + cells = B + n)
    (hM : Met l y (Cond.code y bytes maxL ret :: m_TB) rm (m_Pc D B K n g (.ref (B + b) :: As)) (m_Q D B K v n' g') mc ms (fun q => B ≤ q)) (hcd : Cond.code y bytes maxL ret ∈ m_TB) (hrc : rm.cells = mc ∧ rm.slots = ms)
    (hl : Cond.methodLink own index y ∈ m_TB ∨ ∃ host, Cond.methodLinkNest own index y host ∈ m_NW) (hi : Cond.instanceMethod y ∈ m_TB) (hs : Cond.selects y.cls y y ∈ m_TB) (hini : Cond.initialized y.cls ∈ m_TB)
    (hd : y.cls ≠ "java/lang/invoke/MethodHandle" ∧ y.cls ≠ "java/lang/invoke/VarHandle" ∧ (parseMethodDescriptor y.desc).map (fun d => d.parameters.length) = some nn) (hR : rm.frames + 1 ≤ R.frames ∧ 8 + (maxL + 11) + rm.locals ≤ R.locals)
    (ho : m_is g b ci = true) (hc : classes[ci]? = some (y.cls, T, N)) (hn : As.length = nn) (hsz : ls.size = nL) (hst : (rest.map fun v => v.category).sum ≤ 8) (hdg : decode cc pc = .ok (.invokevirtual index, 3)) (hf : cells + mc ≤ R.cells ∧ slots + ms ≤ R.slots)
    (kk : ∀ (H1 : Heap) (locs1 : List Loc), m_S D B K n' g' s.heap H1 locs1 → W p l e R s m args below meth c H1 locs1 (cells + mc) (slots + ms) Q (F0 m (pc + 3) ls (v.toList ++ rest))) : W p l e R s m args below meth c H locs cells slots Q (F0 m pc ls (As.reverse ++ .ref (B + b) :: rest)) := by
  have hts := E.1.2.2.2.2
  obtain ⟨fs, hfs⟩ := m_is_inv ho
  refine m_ran (a := (Value.ref (B + b) :: As).toArray) E S (fun hh => ?_) kk
  have hp : PreV s H y.cls (B + b) (m_Pc D B K n g (.ref (B + b) :: As)) As := ⟨m_blind, va_recv E.2.1 S.1 hc (m_wsO hfs (S.ltO hfs (m_cls_lt hc))), m_pc E S hz hh⟩
  rcases hl with hl | ⟨host, hl⟩
  · exact va_runV E.1 hM ⟨callB_of nn hts (m_good hcd) rfl hrc.1 hrc.2 (hts _ hini) (hts _ hl) hd hR, hts _ hi, hts _ hs⟩ hp rfl hn hsz rfl (lv_room hst) hdg hf
  · exact va_runVN E.1 hM ⟨va_cnB nn hts (m_good hcd) rfl hrc.1 hrc.2 (E.2.2.1 _ hl) (hts _ hini) hd hR, hts _ hi, hts _ hs⟩ hp rfl hn hsz rfl (lv_room hst) hdg hf
theorem m_callS {y : MethodName} {bytes : ByteArray} {maxL mc ms index nn n' : Nat} {ret : Option FieldType} {rm : Room} {As : List Value} {v : Option Value} {g' : m_G} (E : m_V p m c cc nL s args own D K) (S : m_S D B K n g s.heap H locs) (hz : s.heap.size + cells = B + n)
    (hM : Met l y (Cond.code y bytes maxL ret :: m_TB) rm (m_Pc D B K n g As) (m_Q D B K v n' g') mc ms (fun q => B ≤ q)) (hcd : Cond.code y bytes maxL ret ∈ m_TB) (hrc : rm.cells = mc ∧ rm.slots = ms)
    (hl : Cond.methodLink own index y ∈ m_TB ∨ ∃ host, Cond.methodLinkNest own index y host ∈ m_NW) (hi : Cond.static y ∈ m_TB) (hini : Cond.initialized y.cls ∈ m_TB)
    (hd : y.cls ≠ "java/lang/invoke/MethodHandle" ∧ y.cls ≠ "java/lang/invoke/VarHandle" ∧ (parseMethodDescriptor y.desc).map (fun d => d.parameters.length) = some nn) (hR : rm.frames + 1 ≤ R.frames ∧ 8 + (maxL + 11) + rm.locals ≤ R.locals)
    (hn : As.length = nn) (hsz : ls.size = nL) (hst : (rest.map fun v => v.category).sum ≤ 8) (hdg : decode cc pc = .ok (.invokestatic index, 3)) (hf : cells + mc ≤ R.cells ∧ slots + ms ≤ R.slots)
    (kk : ∀ (H1 : Heap) (locs1 : List Loc), m_S D B K n' g' s.heap H1 locs1 → W p l e R s m args below meth c H1 locs1 (cells + mc) (slots + ms) Q (F0 m (pc + 3) ls (v.toList ++ rest))) : W p l e R s m args below meth c H locs cells slots Q (F0 m pc ls (As.reverse ++ rest)) := by
  have hts := E.1.2.2.2.2
  refine m_ran (a := As.toArray) E S (fun hh => ?_) kk
  have hp : PreS s H (m_Pc D B K n g As) As := ⟨m_blind, m_pc E S hz hh⟩
  rcases hl with hl | ⟨host, hl⟩
  · exact va_runS E.1 hM ⟨callB_of nn hts (m_good hcd) rfl hrc.1 hrc.2 (hts _ hini) (hts _ hl) hd hR, hts _ hi⟩ hp rfl hn hsz rfl (lv_room hst) hdg hf
  · exact va_runSN E.1 hM ⟨va_cnB nn hts (m_good hcd) rfl hrc.1 hrc.2 (E.2.2.1 _ hl) (hts _ hini) hd hR, hts _ hi, trivial⟩ hp rfl hn hsz rfl (lv_room hst) hdg hf
theorem m_callI {y : MethodName} {bytes : ByteArray} {maxL mc ms index nn b n' : Nat} {rm : Room} {As : List Value} {g' : m_G} {v : Option Value} (E : m_V p m c cc nL s args own D K) (S : m_S D B K n g s.heap H locs) (hz : s.heap.size + cells = B + n)
    (hM : Met l y (Cond.code y bytes maxL none :: m_TB) rm (m_Pc D B K n g (.ref (B + b) :: As)) (m_Q D B K v n' g') mc ms (fun q => B ≤ q)) (hcd : Cond.code y bytes maxL none ∈ m_TB) (hrc : rm.cells = mc ∧ rm.slots = ms)
    (hl : Cond.methodLink own index y ∈ m_TB ∨ ∃ host, Cond.methodLinkNest own index y host ∈ m_NW) (hi : Cond.instanceMethod y ∈ m_TB) (hini : Cond.initialized y.cls ∈ m_TB) (hy1 : y.name = "<init>")
    (hd : y.cls ≠ "java/lang/invoke/MethodHandle" ∧ y.cls ≠ "java/lang/invoke/VarHandle" ∧ (parseMethodDescriptor y.desc).map (fun d => d.parameters.length) = some nn) (hR : rm.frames + 1 ≤ R.frames ∧ 8 + (maxL + 11) + rm.locals ≤ R.locals)
    (hn : As.length = nn) (hsz : ls.size = nL) (hst : (rest.map fun v => v.category).sum ≤ 8) (hdg : decode cc pc = .ok (.invokespecial index, 3)) (hf : cells + mc ≤ R.cells ∧ slots + ms ≤ R.slots)
    (kk : ∀ (H1 : Heap) (locs1 : List Loc), m_S D B K n' g' s.heap H1 locs1 → W p l e R s m args below meth c H1 locs1 (cells + mc) (slots + ms) Q (F0 m (pc + 3) ls (v.toList ++ rest))) : W p l e R s m args below meth c H locs cells slots Q (F0 m pc ls (As.reverse ++ .ref (B + b) :: rest)) := by
  have hts := E.1.2.2.2.2
  refine m_ran (a := (Value.ref (B + b) :: As).toArray) E S (fun hh => ?_) kk
  have hp : PreS s H (m_Pc D B K n g (.ref (B + b) :: As)) (.ref (B + b) :: As) := ⟨m_blind, m_pc E S hz hh⟩
  rcases hl with hl | ⟨host, hl⟩
  · exact va_runI E.1 hM ⟨callB_of nn hts (m_good hcd) rfl hrc.1 hrc.2 (hts _ hini) (hts _ hl) hd hR, hy1, hts _ hi⟩ hp rfl hn hsz rfl (lv_room hst) hdg hf
  · exact va_runIN E.1 hM ⟨va_cnB nn hts (m_good hcd) rfl hrc.1 hrc.2 (E.2.2.1 _ hl) (hts _ hini) hd hR, hy1, hts _ hi⟩ hp rfl hn hsz rfl (lv_room hst) hdg hf
-- making
theorem m_S.push {H1 : Heap} {x : m_E} {H0 : Heap} (S : m_S D B K n g H0 H locs) (hB : H.size = B + n) (h1 : va_at D classes (B + n, m_c B K x) H1) (z : H1.size = H.size + 1) (o : ∀ q, q < H.size → H1[q]? = H[q]?) : m_S D B K (n + 1) (va_up g n x) H0 H1 locs := by
  refine ⟨?_, ⟨by have := S.2.1.1; omega, fun q h1 h2 => ?_, S.2.1.2.2⟩, fun i hi => ?_, S.2.2.2⟩
  · rw [← m_ws_push]
    refine va_P.app (S.1.kept (fun k q hk => ?_)) (fun k q hk => ?_)
    · exact o _ (S.1 k q hk).lt
    · have hz : k < 1 := (List.getElem?_eq_some_iff.mp hk).1
      rw [show k = 0 by omega] at hk
      cases hk
      exact h1
  · rw [o q (Nat.lt_of_lt_of_le h1 S.2.1.1)]
    exact S.2.1.2.1 q h1 h2
  · rw [va_up, if_neg (by omega)]
    exact S.2.2.1 i (by omega)
theorem m_new {g' : m_G} (E : m_V p m c cc nL s args own D K) (S : m_S D B K n g s.heap H locs) (hz : s.heap.size + cells = B + n) {ci index N : Nat} {C : String} {T : u_T} {fs : List Value} (ty : Nat → FieldType) (hty : ∀ k, k < N → parseFieldDescriptor (T k).2.2.1 = some (ty k)) (hin : ∀ w ∈ u_ws C T N, w ∈ m_TB) (hc : classes[ci]? = some (C, T, N)) (hcl : Cond.classLink own index C ∈ m_TB) (hinst : Cond.instantiable C N ∈ m_TB) (hini : Cond.initialized C ∈ m_TB)
    (hfs : ∀ j, j < N → defaultValue (ty j) = vp_V (fs.map (m_v B)) j) (hcells : cells + 1 ≤ R.cells) (hslots : slots + N ≤ R.slots) (hv : m_nw g n (.inr (ci, fs)) = some g') (hdg : decode cc pc = .ok (.new index, 3))
    (kk : ∀ (H1 : Heap), m_S D B K (n + 1) g' s.heap H1 locs → W p l e R s m args below meth c H1 locs (cells + 1) (slots + N) Q (F0 m (pc + 3) ls (.ref (B + n) :: rest))) : W p l e R s m args below meth c H locs cells slots Q (F0 m pc ls rest) := by
  obtain ⟨⟨hx, hb, hml, hown, hts⟩, hK⟩ := E
  cases hv
  refine m_size (fun hh => ?_)
  have hB : H.size = B + n := by have := S.size; omega
  have hKn := hK.1.1 ci _ hc
  refine W.newcK hx hb hown (hts _ hcl) (hts _ hinst) (hts _ hini) rfl hdg hcells hslots hKn.2.1 hB fun H1 kC hkC e1 z1 o1 => ?_
  exact kk H1 (S.push hB ⟨_, hc, (u_born ty hts hin hKn hkC e1 hty).to hfs⟩ (by rw [hB]; exact z1) (by rw [hB]; exact o1))
theorem m_newa {g' : m_G} (E : m_V p m c cc nL s args own D K) (S : m_S D B K n g s.heap H locs) (hz : s.heap.size + cells = B + n) {atype : ArrayType} {t N : Nat} {k : Int32} {a0 : vp_A} (harr : Cond.arrayClass (newarray.typeOf atype) ∈ m_TB) (ht : m_TY[t]? = some (newarray.typeOf atype))
    (ha : ∀ cA : ClassId, vp_cell cA a0 = arrV cA N (fun _ => defaultValue (newarray.typeOf atype))) (ha2 : m_a B a0 = a0) (hn : ¬ k < 0) (hN : k.toNatClampNeg = N) (hbytes : N * componentBytes (newarray.typeOf atype) ≤ 536870912) (hcells : cells + 1 ≤ R.cells) (hslots : slots + N ≤ R.slots) (hv : m_nw g n (.inl (t, a0)) = some g') (hdg : decode cc pc = .ok (.newarray atype, 2))
    (kk : ∀ (H1 : Heap), m_S D B K (n + 1) g' s.heap H1 locs → W p l e R s m args below meth c H1 locs (cells + 1) (slots + N) Q (F0 m (pc + 2) ls (.ref (B + n) :: rest))) : W p l e R s m args below meth c H locs cells slots Q (F0 m pc ls (.int k :: rest)) := by
  obtain ⟨⟨hx, hb, hml, hown, hts⟩, hK⟩ := E
  cases hv
  refine m_size (fun hh => ?_)
  have hB : H.size = B + n := by have := S.size; omega
  refine va_newaK hx hb (hts _ harr) rfl hdg rfl hn hN hbytes hcells hslots hB fun H1 cA e1 z1 o1 hAr hNm => ?_
  have hcA : cA = K t := by
    have h2 := (hK.1.2 t _ (m_tys_get ht)).2
    have h3 : s.vm.findClass ("[" ++ (newarray.typeOf atype).toString) = some (K t) := by cases atype <;> exact h2
    exact Option.some.inj (hNm.symm.trans h3)
  subst hcA
  refine kk H1 (S.push hB ?_ (by rw [hB]; exact z1) (by rw [hB]; exact o1))
  show H1[B + n]? = some (vp_cell (K t) (m_a B a0))
  rw [ha2, ha]
  exact e1
theorem m_newq {g' : m_G} (E : m_V p m c cc nL s args own D K) (S : m_S D B K n g s.heap H locs) (hz : s.heap.size + cells = B + n) {t N index : Nat} {k : Int32} {C : String} (hcl : Cond.classLink own index C ∈ m_TB) (hov : C ∈ m_AO) (ht : m_TY[t]? = some (.object C))
    (hn : ¬ k < 0) (hN : k.toNatClampNeg = N) (hbytes : N * 4 ≤ 536870912) (hcells : cells + 1 ≤ R.cells) (hslots : slots + N ≤ R.slots) (hv : m_nw g n (.inl (t, N, .inr (.inr (.inr (.inr (fun _ => none)))))) = some g') (hdg : decode cc pc = .ok (.anewarray index, 3))
    (kk : ∀ (H1 : Heap), m_S D B K (n + 1) g' s.heap H1 locs → W p l e R s m args below meth c H1 locs (cells + 1) (slots + N) Q (F0 m (pc + 3) ls (.ref (B + n) :: rest))) : W p l e R s m args below meth c H locs cells slots Q (F0 m pc ls (.int k :: rest)) := by
  obtain ⟨⟨hx, hb, hml, hown, hts⟩, hK⟩ := E
  cases hv
  refine m_size (fun hh => ?_)
  have hB : H.size = B + n := by have := S.size; omega
  subst hN
  refine W.anew hx hb hown (hts _ hcl) (va_AO.use (hK.2.2 _ hov)) rfl hdg rfl hn hbytes hcells hslots fun cA kA comp f1 f2 f3 f4 => ?_
  have hcA : cA = K t := by
    obtain ⟨_, _, _, _, _, h4⟩ := (hK.1.2 t _ (m_tys_get ht)).2
    exact Option.some.inj (f1.symm.trans h4)
  subst hcA
  rw [hB]
  refine kk _ (S.push hB ?_ (by rw [Array.size_push]) (fun q hq => by rw [Array.getElem?_push, if_neg (Nat.ne_of_lt hq)]))
  show (H.push _)[B + n]? = some (vp_cell (K t) _)
  rw [← hB, Array.getElem?_push_size, arrV_new]
  rfl
end MD
/-- a contract out of the walk of its method's body -/
theorem m_met {l : Launch} {D : va_G} {B : Nat} {K : Nat → ClassId} {y : MethodName} {bytes : ByteArray} {maxL mc ms n n' : Nat} {ret : Option FieldType} {rm : Room} {g g' : m_G} {av : List Value} {v : Option Value} (hy : plainName y.cls = true) (hlen : (lg_sl av).length ≤ maxL)
    (body : ∀ (p : Program) (e : Env) (s : State) (m : MethodId) (args : Array Value) (below : List Frame) (meth : Method) (c : Code) (ls : Array Slot), m_V p m c bytes maxL s args y.cls D K → meth.sig.returnType = ret → meth.locks = false → meth.name = y.name → s.heap.size = B + n → m_S D B K n g s.heap s.heap [] → lv_has ls maxL (lv_args 0 av) →
      W p l e rm s m args below meth c s.heap [] 0 0 (MQ below (m_Q D B K v n' g') args s mc ms (fun q => B ≤ q)) (F0 m 0 ls [])) : Met l y (Cond.code y bytes maxL ret :: m_TB) rm (m_Pc D B K n g av) (m_Q D B K v n' g') mc ms (fun q => B ≤ q) := by
  refine Met.ofW (cc := bytes) (maxL := maxL) (ret := ret) hy rfl ?_
  intro p e s m args below meth c s₁ X hml hv
  obtain ⟨rfl, hsz, hP, hK, hd⟩ := hv
  have hts := atoms_spec (ws := Cond.code y bytes maxL ret :: m_TB) X.pre
  have hown : s.vm.findClass y.cls = some m.cls := findClass_of_methodNamed X.named
  have hnm : meth.name = y.name := (name_of_methodNamed X.named X.method).1
  have hl := lv_entry av (n := maxL) hlen
  rw [lg_entry_eq]
  exact body p e s m _ below meth c _ ⟨⟨X.exec, X.bytes, hml, hown, fun w hw => hts w (List.mem_cons_of_mem _ hw)⟩, hK⟩ X.returns X.notSynchronized hnm hsz ⟨hP, va_S.rf, hd, by rw [hsz]; exact Nat.le_add_right _ _⟩ hl
