section VR4
variable {p : Program} {l : Launch} {e : Env} {R : Room} {s : State} {m : MethodId} {args : Array Value} {below : List Frame} {meth : Method} {c : Code} {nc ns : Nat} {Q : State → Prop} {E : gE} {nL : Nat} {F : gS} {pc : Nat} {lv : List (Nat × Value)} {st : List Value}
variable {cc : ByteArray} {own : String} {ret : Option FieldType}
theorem v_cip {rest : List Value} {a : Array Value} {post : Int32 → Prop} (hr : RunOf p l e R s m args below meth c nc ns E nL F pc lv st rest (va_Qi (fun r G => G = F ∧ post r) (gB E) (gA E) a)) (kk : ∀ r : Int32, post r → VV p l e R s m args below meth c nc ns Q E nL F (pc + 3) lv (.int r :: rest)) : VV p l e R s m args below meth c nc ns Q E nL F pc lv st :=
  v_ci hr (fun r G h => by rw [h.1]; exact kk r h.2)
theorem v_cyp {rest : List Value} {a : Array Value} {ρ : Int32 → Prop} {post : Int32 → Prop} (hr : RunOf p l e R s m args below meth c nc ns E nL F pc lv st rest (va_Qi (fun r G => ρ r ∧ G = F ∧ post r) (gB E) (gA E) a)) (kk : ∀ r : Int32, ρ r → post r → VV p l e R s m args below meth c nc ns Q E nL F (pc + 3) lv (.int r :: rest)) : VV p l e R s m args below meth c nc ns Q E nL F pc lv st :=
  v_ci hr (fun r G h => by rw [h.2.1]; exact kk r h.1 h.2.2)
theorem v_clp {rest : List Value} {a : Array Value} {post : Int64 → Prop} (hr : RunOf p l e R s m args below meth c nc ns E nL F pc lv st rest (va_Ql (fun r G => G = F ∧ post r) (gB E) (gA E) a)) (kk : ∀ r : Int64, post r → VV p l e R s m args below meth c nc ns Q E nL F (pc + 3) lv (.long r :: rest)) : VV p l e R s m args below meth c nc ns Q E nL F pc lv st :=
  v_cl hr (fun r G h => by rw [h.1]; exact kk r h.2)
theorem v_cvp {rest : List Value} {a : Array Value} {post : Prop} (hr : RunOf p l e R s m args below meth c nc ns E nL F pc lv st rest (va_Qv (fun G => G = F ∧ post) (gB E) (gA E) a)) (kk : post → VV p l e R s m args below meth c nc ns Q E nL F (pc + 3) lv rest) : VV p l e R s m args below meth c nc ns Q E nL F pc lv st :=
  v_cv hr (fun G h => by rw [h.1]; exact kk h.2)
/-- a call on a text -/
theorem r_T (hC : CX p s m args meth c cc own ret E nL) {idx maxL n : Nat} {y : MethodName} {bytes : ByteArray} {ret' : Option FieldType} {rm : Room} {As rest : List Value} {Qc : Array Value → State → Outcome → State → Prop}
    (hl : Cond.methodLink own idx y ∈ tblG) (hm : MV y bytes maxL ret' n) (i : Nat) (hM : Met l y (wsG y bytes maxL ret') rm (va_Pc (.ref (E.2.2.2 (4 + i)) :: As) (gP E F)) Qc 0 0 (gA E)) (hrm : rm.cells = 0 ∧ rm.slots = 0) (hR : rm.frames + 1 ≤ R.frames ∧ 8 + (maxL + 11) + rm.locals ≤ R.locals) (hi : i < 2) (hy : y.cls = "java/lang/String") (hn : As.length = n) (hst : st = As.reverse ++ .ref (E.2.2.2 (4 + i)) :: rest) (hW : (rest.map fun v => v.category).sum ≤ 8) (hnc : nc ≤ R.cells ∧ ns ≤ R.slots) (hd : decode cc pc = .ok (.invokevirtual idx, 3)) :
    RunOf p l e R s m args below meth c nc ns E nL F pc lv st rest (Qc (Value.ref (E.2.2.2 (4 + i)) :: As).toArray) := by
  intro H locs ls hP hS hls
  obtain ⟨m1, m2, m3, m4, m5⟩ := hm
  have hts := hC.2.2.2.2.1
  have hG : GoodIn tblG (wsV own idx y.cls y (wsG y bytes maxL ret')) := tg_in (fun w hw => by
    rcases List.mem_append.mp hw with q | q
    · simp only [List.mem_cons, List.not_mem_nil, or_false] at q
      rcases q with rfl | rfl | rfl | rfl <;> assumption
    · exact wsG_in m4 w q)
  have hrec := vk_recv (i := i) hC.2.2.2.2.2.1.2.2.2.1.2.2.2.2.2.2.2.2 hi hS
  rw [← hy] at hrec
  exact va_runV ⟨hC.1, hC.2.1, hC.2.2.1, hC.2.2.2.1, hts⟩ hM (cwV n hts hG rfl hrm.1 hrm.2 ⟨rfl, m5⟩ hR) ⟨gP_blind E F _, hrec, (g_preS hC hP hS).2⟩ rfl hn hls.1 (by subst hst; rfl) (lv_room hW) hd ⟨hnc.1, hnc.2⟩
end VR4
