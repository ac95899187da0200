/-! ===== a text by ldc_w ===== -/
theorem zz_ldcwT {p : Program} {l : Launch} {e : Env} {R : Room} {s : State} {m : MethodId} {args : Array Value} {below : List Frame} {meth : Method} {c : Code} {T : State} {locs : List Loc} {cells slots : Nat}
    (X : Stand p l e R s m args below meth c T locs cells slots) (hexec : p.tables.exec = Jvm.exec) {own text : String} {index : Nat} {a : Addr} (hown : s.vm.findClass own = some m.cls)
    {sargs : Array Value} (hconst : (Cond.stringRef own index text).before sargs s = true) (hev : (Term.string own index).eval sargs s none [] s = some (.ref a)) {g : JFrame} (hg : g.method = m) (hdg : decode c.code g.pc = .ok (.ldc_w index, 3)) :
    ∀ target, Steps p.tables e below (T.setTop { g with pc := g.pc + 3, stack := .ref a :: g.stack }) target → Steps p.tables e below (T.setTop g) target := by
  obtain ⟨k, cf, i, a', hk, hcf, hcp, -, hr, hev'⟩ := Cond.stringRef_spec hown hconst
  cases hev.symm.trans hev'
  obtain ⟨k', hk', he⟩ := X.warmed.alike.2.2 _ _ hk
  have hr' : k'.resolved[index]? = some (some (.string a)) := by
    rcases X.warmed.entry hk hk' index with h | ⟨h, -⟩
    · rw [h]; exact hr
    · rw [hr] at h; cases h
  intro target hrest
  subst hg
  jvm_step X.here [hexec, hdg, ldc_w.wp_string (e := e) (s := T) (f := g) X.here.top hk' (by rw [he]; exact hcf) hcp hr']
  exact hrest
theorem zs_ldcwS {sh : Nat → zz_Sh} {l : Launch} {G : zz_G} {M : zz_M} {d : Nat} {τ : Type} {val : τ → Option Value} {mem : τ → zz_Mem} {f : Option τ} {pc idx : Nat} {lv : List (Nat × Value)} {st : List Value} {μ : zz_Mem} {w : Nat} (hd : decode M.2.1 pc = .ok (.ldc_w idx, 3)) (hq0 : (M.1.cls, idx, zz_strs.getD w "", w) ∈ zz_ldcs) (k : zz_Sim sh l G M d val mem f (pc + 3) lv (.ref (zz_sk G w) :: st) μ) : zz_Sim sh l G M d val mem f pc lv st μ := by
  intro q hq p e s m args below meth c C H locs ls hP hS hl T hT X
  obtain ⟨t, a1, b1⟩ := k q hq p e s m args below meth c C H locs ls hP hS hl T hT X
  have hZ := C.2.2.2.2.2.2.2.2.2.2.1 _ hq0
  exact ⟨t, zz_ldcwT X C.1 C.2.2.2.2.1 hZ.1 hZ.2 (g := F0 m pc ls st) rfl (by rw [C.2.1]; exact hd) t a1, b1⟩
