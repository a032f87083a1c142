section XR2
variable {p : Program} {l : Launch} {e : Env} {R : Room} {s : State} {m : MethodId} {args : Array Value} {below : List Frame} {meth : Method} {c : Code} {H : Heap} {locs : List Loc} {cells slots : Nat} {cc : ByteArray} {pc : Nat} {ls : Array Slot} {S : Type} {A : Nat → Prop} {B : S → Nat → State → Prop}
theorem x_aret {post : S → Prop} {q : Nat} {n : String} (hx : p.tables.exec = Jvm.exec) (hb : c.code = cc) (hr : meth.sig.returnType = some (.object n)) (hlocks : meth.locks = false) (hS : va_S A s.heap H locs) (u : S) (hd : decode cc pc = .ok (.areturn, 1)) (hB : ∀ t : State, t.heap = H → B u q t) (hp : post u) : W p l e R s m args below meth c H locs cells slots (MQ below (va_Qr post B A) args s cells slots A) (F0 m pc ls [.ref q]) :=
  W.aret (v := .ref q) hx hb hr (Or.inl ⟨n, rfl⟩) (Or.inr ⟨q, rfl⟩) (fun t ht hW => ⟨⟨u, q, rfl, hp, hB t ht⟩, hS.F ht⟩) hS.2.2 hd hlocks
end XR2
section XR3
variable {p : Program} {l : Launch} {e : Env} {R : Room} {s : State} {m : MethodId} {args : Array Value} {below : List Frame} {meth : Method} {c : Code} {H : Heap} {locs : List Loc} {cells slots : Nat} {Q : State → Prop} {cc : ByteArray} {pc : Nat} {ls : Array Slot} {rest st0 : List Value}
variable {D : va_G} {cl : List vw_C} {tys : List (ClassId × FieldType)} {ws wc : va_W} {A0 : Nat → Prop} {H0 : Heap} {a : Array Value}
theorem x_callrM {S : Type} {post : S → Prop} {wf : S → va_W} {z : Nat} (hr : va_Run p l e R s m args below meth c H locs cells slots 0 0 (F0 m pc ls st0) rest (va_Qr post (fun u q t => q = z ∧ va_P D cl (wf u) t.heap) (va_A wc H.size) a) (va_A wc H.size)) (hS : va_S A0 H0 H locs) (hF : ∀ q, va_A wc H.size q → A0 q) (kk : ∀ (u : S) (H1 : Heap) (locs1 : List Loc), post u → va_P D cl (wf u) H1 → (∀ q : Nat, q < H.size → ¬ va_A wc H.size q → H1[q]? = H[q]?) → va_S A0 H0 H1 locs1 → W p l e R s m args below meth c H1 locs1 cells slots Q (F0 m (pc + 3) ls (.ref z :: rest))) : W p l e R s m args below meth c H locs cells slots Q (F0 m pc ls st0) := va_callr hr hS (fun q _ h => hF q h) hF (fun u q t H1 locs1 ht hvm hp hB hz hk hS => by
  obtain ⟨h1, h2⟩ := hB
  subst h1
  exact kk u H1 locs1 hp (by rw [← ht]; exact h2) hk hS)
end XR3
