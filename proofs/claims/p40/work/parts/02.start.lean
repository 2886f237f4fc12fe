def rf_rec : Class := { start1.cArr "second array of int" 24 .int with methods := #[Lib.HandJ.method "clone" "()Ljava/lang/Object;" [] (some (.object "java/lang/Object")) 0x1 1 (.mk #[0xa7, 0x00, 0x00])] }
def rf_heap : Heap := start1.about.heap.modify 5 (fun c => { c with cls := 34 })
def rf_about : State := { start1.about with vm := rf_add start1.about.vm rf_rec, heap := rf_heap }
theorem rf_push : rf_about.vm = rf_add start1.about.vm rf_rec := rfl
