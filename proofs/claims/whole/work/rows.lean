section
/-- a private method of a class that the tables say can be made, by its rows of tables_1 -/
def lw_okq (q : MethodName × Nat) : Prop := (q.1.cls ≠ "java/lang/invoke/MethodHandle" ∧ q.1.cls ≠ "java/lang/invoke/VarHandle") ∧ Cond.instantiable q.1.cls q.2 ∈ tables_1 ∧ Cond.privateMethod q.1 ∈ tables_1 ∧ Cond.instanceMethod q.1 ∈ tables_1
theorem lw_p0 : lw_okq (⟨"SensorHub$Hub", "clientRoom", "(I)LSensorHub$Client;"⟩, 11) := ⟨⟨by decide +kernel, by decide +kernel⟩, List.mem_of_getElem? (i := 25) (by decide +kernel), List.mem_of_getElem? (i := 211) (by decide +kernel), List.mem_of_getElem? (i := 212) (by decide +kernel)⟩
theorem lw_p1 : lw_okq (⟨"SensorHub$Hub", "sensorRoom", "(I)LSensorHub$Sensor;"⟩, 11) := ⟨⟨by decide +kernel, by decide +kernel⟩, List.mem_of_getElem? (i := 25) (by decide +kernel), List.mem_of_getElem? (i := 360) (by decide +kernel), List.mem_of_getElem? (i := 361) (by decide +kernel)⟩
theorem lw_p2 : lw_okq (⟨"SensorHub$Hub", "settlePeriods", "()V"⟩, 11) := ⟨⟨by decide +kernel, by decide +kernel⟩, List.mem_of_getElem? (i := 25) (by decide +kernel), List.mem_of_getElem? (i := 467) (by decide +kernel), List.mem_of_getElem? (i := 468) (by decide +kernel)⟩
theorem lw_p3 : lw_okq (⟨"SensorHub$Hub", "setDemands", "()V"⟩, 11) := ⟨⟨by decide +kernel, by decide +kernel⟩, List.mem_of_getElem? (i := 25) (by decide +kernel), List.mem_of_getElem? (i := 471) (by decide +kernel), List.mem_of_getElem? (i := 472) (by decide +kernel)⟩
theorem lw_p4 : lw_okq (⟨"SensorHub$Hub", "demandAtMost", "(II)V"⟩, 11) := ⟨⟨by decide +kernel, by decide +kernel⟩, List.mem_of_getElem? (i := 25) (by decide +kernel), List.mem_of_getElem? (i := 475) (by decide +kernel), List.mem_of_getElem? (i := 476) (by decide +kernel)⟩
theorem lw_p5 : lw_okq (⟨"SensorHub$Hub", "setPeriods", "()Z"⟩, 11) := ⟨⟨by decide +kernel, by decide +kernel⟩, List.mem_of_getElem? (i := 25) (by decide +kernel), List.mem_of_getElem? (i := 483) (by decide +kernel), List.mem_of_getElem? (i := 484) (by decide +kernel)⟩
theorem lw_p6 : lw_okq (⟨"SensorHub$Hub", "periodFor", "(LSensorHub$Sensor;)I"⟩, 11) := ⟨⟨by decide +kernel, by decide +kernel⟩, List.mem_of_getElem? (i := 25) (by decide +kernel), List.mem_of_getElem? (i := 487) (by decide +kernel), List.mem_of_getElem? (i := 488) (by decide +kernel)⟩
theorem lw_p7 : lw_okq (⟨"SensorHub$Hub", "restartAll", "()V"⟩, 11) := ⟨⟨by decide +kernel, by decide +kernel⟩, List.mem_of_getElem? (i := 25) (by decide +kernel), List.mem_of_getElem? (i := 495) (by decide +kernel), List.mem_of_getElem? (i := 496) (by decide +kernel)⟩
theorem lw_p8 : lw_okq (⟨"SensorHub$Text", "nextToken", "()V"⟩, 6) := ⟨⟨by decide +kernel, by decide +kernel⟩, List.mem_of_getElem? (i := 282) (by decide +kernel), List.mem_of_getElem? (i := 549) (by decide +kernel), List.mem_of_getElem? (i := 550) (by decide +kernel)⟩
theorem lw_p9 : lw_okq (⟨"SensorHub$Text", "readItem", "(LSensorHub$Hub;)V"⟩, 6) := ⟨⟨by decide +kernel, by decide +kernel⟩, List.mem_of_getElem? (i := 282) (by decide +kernel), List.mem_of_getElem? (i := 560) (by decide +kernel), List.mem_of_getElem? (i := 561) (by decide +kernel)⟩
theorem lw_p10 : lw_okq (⟨"SensorHub$Text", "isWord", "(Ljava/lang/String;)Z"⟩, 6) := ⟨⟨by decide +kernel, by decide +kernel⟩, List.mem_of_getElem? (i := 282) (by decide +kernel), List.mem_of_getElem? (i := 565) (by decide +kernel), List.mem_of_getElem? (i := 566) (by decide +kernel)⟩
theorem lw_p11 : lw_okq (⟨"SensorHub$Text", "readPhysical", "(LSensorHub$Hub;)V"⟩, 6) := ⟨⟨by decide +kernel, by decide +kernel⟩, List.mem_of_getElem? (i := 282) (by decide +kernel), List.mem_of_getElem? (i := 617) (by decide +kernel), List.mem_of_getElem? (i := 618) (by decide +kernel)⟩
theorem lw_p12 : lw_okq (⟨"SensorHub$Text", "readNumber", "(II)I"⟩, 6) := ⟨⟨by decide +kernel, by decide +kernel⟩, List.mem_of_getElem? (i := 282) (by decide +kernel), List.mem_of_getElem? (i := 622) (by decide +kernel), List.mem_of_getElem? (i := 623) (by decide +kernel)⟩
theorem lw_p13 : lw_okq (⟨"SensorHub$Text", "numberOfToken", "()I"⟩, 6) := ⟨⟨by decide +kernel, by decide +kernel⟩, List.mem_of_getElem? (i := 282) (by decide +kernel), List.mem_of_getElem? (i := 626) (by decide +kernel), List.mem_of_getElem? (i := 627) (by decide +kernel)⟩
theorem lw_p14 : lw_okq (⟨"SensorHub$Text", "readEndOfItem", "()V"⟩, 6) := ⟨⟨by decide +kernel, by decide +kernel⟩, List.mem_of_getElem? (i := 282) (by decide +kernel), List.mem_of_getElem? (i := 631) (by decide +kernel), List.mem_of_getElem? (i := 632) (by decide +kernel)⟩
theorem lw_p15 : lw_okq (⟨"SensorHub$Text", "readComputed", "(LSensorHub$Hub;I)V"⟩, 6) := ⟨⟨by decide +kernel, by decide +kernel⟩, List.mem_of_getElem? (i := 282) (by decide +kernel), List.mem_of_getElem? (i := 637) (by decide +kernel), List.mem_of_getElem? (i := 638) (by decide +kernel)⟩
def lw_privs_1 : List (MethodName × Nat) := [(⟨"SensorHub$Hub", "clientRoom", "(I)LSensorHub$Client;"⟩, 11), (⟨"SensorHub$Hub", "sensorRoom", "(I)LSensorHub$Sensor;"⟩, 11), (⟨"SensorHub$Hub", "settlePeriods", "()V"⟩, 11), (⟨"SensorHub$Hub", "setDemands", "()V"⟩, 11), (⟨"SensorHub$Hub", "demandAtMost", "(II)V"⟩, 11), (⟨"SensorHub$Hub", "setPeriods", "()Z"⟩, 11), (⟨"SensorHub$Hub", "periodFor", "(LSensorHub$Sensor;)I"⟩, 11), (⟨"SensorHub$Hub", "restartAll", "()V"⟩, 11), (⟨"SensorHub$Text", "nextToken", "()V"⟩, 6), (⟨"SensorHub$Text", "readItem", "(LSensorHub$Hub;)V"⟩, 6), (⟨"SensorHub$Text", "isWord", "(Ljava/lang/String;)Z"⟩, 6), (⟨"SensorHub$Text", "readPhysical", "(LSensorHub$Hub;)V"⟩, 6), (⟨"SensorHub$Text", "readNumber", "(II)I"⟩, 6), (⟨"SensorHub$Text", "numberOfToken", "()I"⟩, 6), (⟨"SensorHub$Text", "readEndOfItem", "()V"⟩, 6), (⟨"SensorHub$Text", "readComputed", "(LSensorHub$Hub;I)V"⟩, 6)]
theorem lw_r1 : ∀ q ∈ lw_privs_1, lw_okq q := List.forall_mem_cons.mpr ⟨lw_p0, List.forall_mem_cons.mpr ⟨lw_p1, List.forall_mem_cons.mpr ⟨lw_p2, List.forall_mem_cons.mpr ⟨lw_p3, List.forall_mem_cons.mpr ⟨lw_p4, List.forall_mem_cons.mpr ⟨lw_p5, List.forall_mem_cons.mpr ⟨lw_p6, List.forall_mem_cons.mpr ⟨lw_p7, List.forall_mem_cons.mpr ⟨lw_p8, List.forall_mem_cons.mpr ⟨lw_p9, List.forall_mem_cons.mpr ⟨lw_p10, List.forall_mem_cons.mpr ⟨lw_p11, List.forall_mem_cons.mpr ⟨lw_p12, List.forall_mem_cons.mpr ⟨lw_p13, List.forall_mem_cons.mpr ⟨lw_p14, List.forall_mem_cons.mpr ⟨lw_p15, fun _ h => absurd h List.not_mem_nil⟩⟩⟩⟩⟩⟩⟩⟩⟩⟩⟩⟩⟩⟩⟩⟩
theorem lw_p16 : lw_okq (⟨"SensorHub$Text", "readOutage", "(LSensorHub$Hub;)V"⟩, 6) := ⟨⟨by decide +kernel, by decide +kernel⟩, List.mem_of_getElem? (i := 282) (by decide +kernel), List.mem_of_getElem? (i := 646) (by decide +kernel), List.mem_of_getElem? (i := 647) (by decide +kernel)⟩
theorem lw_p17 : lw_okq (⟨"SensorHub$Hub", "receiveSamples", "()V"⟩, 11) := ⟨⟨by decide +kernel, by decide +kernel⟩, List.mem_of_getElem? (i := 25) (by decide +kernel), List.mem_of_getElem? (i := 667) (by decide +kernel), List.mem_of_getElem? (i := 668) (by decide +kernel)⟩
theorem lw_p18 : lw_okq (⟨"SensorHub$Hub", "receiveSample", "(ILSensorHub$Sensor;)V"⟩, 11) := ⟨⟨by decide +kernel, by decide +kernel⟩, List.mem_of_getElem? (i := 25) (by decide +kernel), List.mem_of_getElem? (i := 671) (by decide +kernel), List.mem_of_getElem? (i := 672) (by decide +kernel)⟩
theorem lw_p19 : lw_okq (⟨"SensorHub$Hub", "measure", "(ILSensorHub$Sensor;)V"⟩, 11) := ⟨⟨by decide +kernel, by decide +kernel⟩, List.mem_of_getElem? (i := 25) (by decide +kernel), List.mem_of_getElem? (i := 675) (by decide +kernel), List.mem_of_getElem? (i := 676) (by decide +kernel)⟩
theorem lw_p20 : lw_okq (⟨"SensorHub$Hub", "computedValue", "(LSensorHub$Sensor;LSensorHub$Sensor;)I"⟩, 11) := ⟨⟨by decide +kernel, by decide +kernel⟩, List.mem_of_getElem? (i := 25) (by decide +kernel), List.mem_of_getElem? (i := 701) (by decide +kernel), List.mem_of_getElem? (i := 702) (by decide +kernel)⟩
theorem lw_p21 : lw_okq (⟨"SensorHub$Hub", "storeEntries", "()V"⟩, 11) := ⟨⟨by decide +kernel, by decide +kernel⟩, List.mem_of_getElem? (i := 25) (by decide +kernel), List.mem_of_getElem? (i := 711) (by decide +kernel), List.mem_of_getElem? (i := 712) (by decide +kernel)⟩
theorem lw_p22 : lw_okq (⟨"SensorHub$Hub", "storeEntry", "(ILSensorHub$Sensor;)V"⟩, 11) := ⟨⟨by decide +kernel, by decide +kernel⟩, List.mem_of_getElem? (i := 25) (by decide +kernel), List.mem_of_getElem? (i := 720) (by decide +kernel), List.mem_of_getElem? (i := 721) (by decide +kernel)⟩
theorem lw_p23 : lw_okq (⟨"SensorHub$Hub", "wakeIfDue", "()V"⟩, 11) := ⟨⟨by decide +kernel, by decide +kernel⟩, List.mem_of_getElem? (i := 25) (by decide +kernel), List.mem_of_getElem? (i := 729) (by decide +kernel), List.mem_of_getElem? (i := 730) (by decide +kernel)⟩
theorem lw_p24 : lw_okq (⟨"SensorHub$Hub", "deadlineOf", "(I)I"⟩, 11) := ⟨⟨by decide +kernel, by decide +kernel⟩, List.mem_of_getElem? (i := 25) (by decide +kernel), List.mem_of_getElem? (i := 733) (by decide +kernel), List.mem_of_getElem? (i := 734) (by decide +kernel)⟩
theorem lw_p25 : lw_okq (⟨"SensorHubModel", "empty", "()V"⟩, 16) := ⟨⟨by decide +kernel, by decide +kernel⟩, List.mem_of_getElem? (i := 814) (by decide +kernel), List.mem_of_getElem? (i := 820) (by decide +kernel), List.mem_of_getElem? (i := 821) (by decide +kernel)⟩
theorem lw_p26 : lw_okq (⟨"SensorHubModel", "keep", "()V"⟩, 16) := ⟨⟨by decide +kernel, by decide +kernel⟩, List.mem_of_getElem? (i := 814) (by decide +kernel), List.mem_of_getElem? (i := 881) (by decide +kernel), List.mem_of_getElem? (i := 882) (by decide +kernel)⟩
theorem lw_p27 : lw_okq (⟨"SensorHubModel", "addPhysical", "(IIIIII)I"⟩, 16) := ⟨⟨by decide +kernel, by decide +kernel⟩, List.mem_of_getElem? (i := 814) (by decide +kernel), List.mem_of_getElem? (i := 885) (by decide +kernel), List.mem_of_getElem? (i := 886) (by decide +kernel)⟩
theorem lw_p28 : lw_okq (⟨"SensorHubModel", "addGiven", "(IIIII)I"⟩, 16) := ⟨⟨by decide +kernel, by decide +kernel⟩, List.mem_of_getElem? (i := 814) (by decide +kernel), List.mem_of_getElem? (i := 889) (by decide +kernel), List.mem_of_getElem? (i := 890) (by decide +kernel)⟩
theorem lw_p29 : lw_okq (⟨"SensorHubModel", "isSensor", "(I)Z"⟩, 16) := ⟨⟨by decide +kernel, by decide +kernel⟩, List.mem_of_getElem? (i := 814) (by decide +kernel), List.mem_of_getElem? (i := 897) (by decide +kernel), List.mem_of_getElem? (i := 898) (by decide +kernel)⟩
theorem lw_p30 : lw_okq (⟨"SensorHubModel", "isPhysical", "(I)Z"⟩, 16) := ⟨⟨by decide +kernel, by decide +kernel⟩, List.mem_of_getElem? (i := 814) (by decide +kernel), List.mem_of_getElem? (i := 905) (by decide +kernel), List.mem_of_getElem? (i := 906) (by decide +kernel)⟩
theorem lw_p31 : lw_okq (⟨"SensorHubModel", "sensor0", "(II)I"⟩, 16) := ⟨⟨by decide +kernel, by decide +kernel⟩, List.mem_of_getElem? (i := 814) (by decide +kernel), List.mem_of_getElem? (i := 909) (by decide +kernel), List.mem_of_getElem? (i := 910) (by decide +kernel)⟩
def lw_privs_2 : List (MethodName × Nat) := [(⟨"SensorHub$Text", "readOutage", "(LSensorHub$Hub;)V"⟩, 6), (⟨"SensorHub$Hub", "receiveSamples", "()V"⟩, 11), (⟨"SensorHub$Hub", "receiveSample", "(ILSensorHub$Sensor;)V"⟩, 11), (⟨"SensorHub$Hub", "measure", "(ILSensorHub$Sensor;)V"⟩, 11), (⟨"SensorHub$Hub", "computedValue", "(LSensorHub$Sensor;LSensorHub$Sensor;)I"⟩, 11), (⟨"SensorHub$Hub", "storeEntries", "()V"⟩, 11), (⟨"SensorHub$Hub", "storeEntry", "(ILSensorHub$Sensor;)V"⟩, 11), (⟨"SensorHub$Hub", "wakeIfDue", "()V"⟩, 11), (⟨"SensorHub$Hub", "deadlineOf", "(I)I"⟩, 11), (⟨"SensorHubModel", "empty", "()V"⟩, 16), (⟨"SensorHubModel", "keep", "()V"⟩, 16), (⟨"SensorHubModel", "addPhysical", "(IIIIII)I"⟩, 16), (⟨"SensorHubModel", "addGiven", "(IIIII)I"⟩, 16), (⟨"SensorHubModel", "isSensor", "(I)Z"⟩, 16), (⟨"SensorHubModel", "isPhysical", "(I)Z"⟩, 16), (⟨"SensorHubModel", "sensor0", "(II)I"⟩, 16)]
theorem lw_r2 : ∀ q ∈ lw_privs_2, lw_okq q := List.forall_mem_cons.mpr ⟨lw_p16, List.forall_mem_cons.mpr ⟨lw_p17, List.forall_mem_cons.mpr ⟨lw_p18, List.forall_mem_cons.mpr ⟨lw_p19, List.forall_mem_cons.mpr ⟨lw_p20, List.forall_mem_cons.mpr ⟨lw_p21, List.forall_mem_cons.mpr ⟨lw_p22, List.forall_mem_cons.mpr ⟨lw_p23, List.forall_mem_cons.mpr ⟨lw_p24, List.forall_mem_cons.mpr ⟨lw_p25, List.forall_mem_cons.mpr ⟨lw_p26, List.forall_mem_cons.mpr ⟨lw_p27, List.forall_mem_cons.mpr ⟨lw_p28, List.forall_mem_cons.mpr ⟨lw_p29, List.forall_mem_cons.mpr ⟨lw_p30, List.forall_mem_cons.mpr ⟨lw_p31, fun _ h => absurd h List.not_mem_nil⟩⟩⟩⟩⟩⟩⟩⟩⟩⟩⟩⟩⟩⟩⟩⟩
theorem lw_p32 : lw_okq (⟨"SensorHubModel", "addGap", "(III)I"⟩, 16) := ⟨⟨by decide +kernel, by decide +kernel⟩, List.mem_of_getElem? (i := 814) (by decide +kernel), List.mem_of_getElem? (i := 913) (by decide +kernel), List.mem_of_getElem? (i := 914) (by decide +kernel)⟩
theorem lw_p33 : lw_okq (⟨"SensorHubModel", "canMeet", "(II)Z"⟩, 16) := ⟨⟨by decide +kernel, by decide +kernel⟩, List.mem_of_getElem? (i := 814) (by decide +kernel), List.mem_of_getElem? (i := 921) (by decide +kernel), List.mem_of_getElem? (i := 922) (by decide +kernel)⟩
theorem lw_p34 : lw_okq (⟨"SensorHubModel", "freeClient", "()I"⟩, 16) := ⟨⟨by decide +kernel, by decide +kernel⟩, List.mem_of_getElem? (i := 814) (by decide +kernel), List.mem_of_getElem? (i := 925) (by decide +kernel), List.mem_of_getElem? (i := 926) (by decide +kernel)⟩
theorem lw_p35 : lw_okq (⟨"SensorHubModel", "client0", "(II)I"⟩, 16) := ⟨⟨by decide +kernel, by decide +kernel⟩, List.mem_of_getElem? (i := 814) (by decide +kernel), List.mem_of_getElem? (i := 929) (by decide +kernel), List.mem_of_getElem? (i := 930) (by decide +kernel)⟩
theorem lw_p36 : lw_okq (⟨"SensorHubModel", "wake", "(I)I"⟩, 16) := ⟨⟨by decide +kernel, by decide +kernel⟩, List.mem_of_getElem? (i := 814) (by decide +kernel), List.mem_of_getElem? (i := 933) (by decide +kernel), List.mem_of_getElem? (i := 934) (by decide +kernel)⟩
theorem lw_p37 : lw_okq (⟨"SensorHubModel", "deliver", "(I)V"⟩, 16) := ⟨⟨by decide +kernel, by decide +kernel⟩, List.mem_of_getElem? (i := 814) (by decide +kernel), List.mem_of_getElem? (i := 937) (by decide +kernel), List.mem_of_getElem? (i := 938) (by decide +kernel)⟩
theorem lw_p38 : lw_okq (⟨"SensorHubModel", "entryPart", "(II)I"⟩, 16) := ⟨⟨by decide +kernel, by decide +kernel⟩, List.mem_of_getElem? (i := 814) (by decide +kernel), List.mem_of_getElem? (i := 941) (by decide +kernel), List.mem_of_getElem? (i := 942) (by decide +kernel)⟩
theorem lw_p39 : lw_okq (⟨"SensorHubModel", "keepPeriods", "()V"⟩, 16) := ⟨⟨by decide +kernel, by decide +kernel⟩, List.mem_of_getElem? (i := 814) (by decide +kernel), List.mem_of_getElem? (i := 945) (by decide +kernel), List.mem_of_getElem? (i := 946) (by decide +kernel)⟩
theorem lw_p40 : lw_okq (⟨"SensorHubModel", "find", "()Z"⟩, 16) := ⟨⟨by decide +kernel, by decide +kernel⟩, List.mem_of_getElem? (i := 814) (by decide +kernel), List.mem_of_getElem? (i := 949) (by decide +kernel), List.mem_of_getElem? (i := 950) (by decide +kernel)⟩
theorem lw_p41 : lw_okq (⟨"SensorHubModel", "asked", "(I)I"⟩, 16) := ⟨⟨by decide +kernel, by decide +kernel⟩, List.mem_of_getElem? (i := 814) (by decide +kernel), List.mem_of_getElem? (i := 953) (by decide +kernel), List.mem_of_getElem? (i := 954) (by decide +kernel)⟩
theorem lw_p42 : lw_okq (⟨"SensorHubModel", "source", "(I)I"⟩, 16) := ⟨⟨by decide +kernel, by decide +kernel⟩, List.mem_of_getElem? (i := 814) (by decide +kernel), List.mem_of_getElem? (i := 960) (by decide +kernel), List.mem_of_getElem? (i := 961) (by decide +kernel)⟩
theorem lw_p43 : lw_okq (⟨"SensorHubModel", "supported", "(II)I"⟩, 16) := ⟨⟨by decide +kernel, by decide +kernel⟩, List.mem_of_getElem? (i := 814) (by decide +kernel), List.mem_of_getElem? (i := 964) (by decide +kernel), List.mem_of_getElem? (i := 965) (by decide +kernel)⟩
theorem lw_p44 : lw_okq (⟨"SensorHubModel", "restartIfChanged", "()V"⟩, 16) := ⟨⟨by decide +kernel, by decide +kernel⟩, List.mem_of_getElem? (i := 814) (by decide +kernel), List.mem_of_getElem? (i := 968) (by decide +kernel), List.mem_of_getElem? (i := 969) (by decide +kernel)⟩
theorem lw_p45 : lw_okq (⟨"SensorHubModel", "isClient", "(I)Z"⟩, 16) := ⟨⟨by decide +kernel, by decide +kernel⟩, List.mem_of_getElem? (i := 814) (by decide +kernel), List.mem_of_getElem? (i := 976) (by decide +kernel), List.mem_of_getElem? (i := 977) (by decide +kernel)⟩
theorem lw_p46 : lw_okq (⟨"SensorHubModel", "hold", "()V"⟩, 16) := ⟨⟨by decide +kernel, by decide +kernel⟩, List.mem_of_getElem? (i := 814) (by decide +kernel), List.mem_of_getElem? (i := 996) (by decide +kernel), List.mem_of_getElem? (i := 997) (by decide +kernel)⟩
theorem lw_p47 : lw_okq (⟨"SensorHubModel", "read", "()V"⟩, 16) := ⟨⟨by decide +kernel, by decide +kernel⟩, List.mem_of_getElem? (i := 814) (by decide +kernel), List.mem_of_getElem? (i := 1000) (by decide +kernel), List.mem_of_getElem? (i := 1001) (by decide +kernel)⟩
def lw_privs_3 : List (MethodName × Nat) := [(⟨"SensorHubModel", "addGap", "(III)I"⟩, 16), (⟨"SensorHubModel", "canMeet", "(II)Z"⟩, 16), (⟨"SensorHubModel", "freeClient", "()I"⟩, 16), (⟨"SensorHubModel", "client0", "(II)I"⟩, 16), (⟨"SensorHubModel", "wake", "(I)I"⟩, 16), (⟨"SensorHubModel", "deliver", "(I)V"⟩, 16), (⟨"SensorHubModel", "entryPart", "(II)I"⟩, 16), (⟨"SensorHubModel", "keepPeriods", "()V"⟩, 16), (⟨"SensorHubModel", "find", "()Z"⟩, 16), (⟨"SensorHubModel", "asked", "(I)I"⟩, 16), (⟨"SensorHubModel", "source", "(I)I"⟩, 16), (⟨"SensorHubModel", "supported", "(II)I"⟩, 16), (⟨"SensorHubModel", "restartIfChanged", "()V"⟩, 16), (⟨"SensorHubModel", "isClient", "(I)Z"⟩, 16), (⟨"SensorHubModel", "hold", "()V"⟩, 16), (⟨"SensorHubModel", "read", "()V"⟩, 16)]
theorem lw_r3 : ∀ q ∈ lw_privs_3, lw_okq q := List.forall_mem_cons.mpr ⟨lw_p32, List.forall_mem_cons.mpr ⟨lw_p33, List.forall_mem_cons.mpr ⟨lw_p34, List.forall_mem_cons.mpr ⟨lw_p35, List.forall_mem_cons.mpr ⟨lw_p36, List.forall_mem_cons.mpr ⟨lw_p37, List.forall_mem_cons.mpr ⟨lw_p38, List.forall_mem_cons.mpr ⟨lw_p39, List.forall_mem_cons.mpr ⟨lw_p40, List.forall_mem_cons.mpr ⟨lw_p41, List.forall_mem_cons.mpr ⟨lw_p42, List.forall_mem_cons.mpr ⟨lw_p43, List.forall_mem_cons.mpr ⟨lw_p44, List.forall_mem_cons.mpr ⟨lw_p45, List.forall_mem_cons.mpr ⟨lw_p46, List.forall_mem_cons.mpr ⟨lw_p47, fun _ h => absurd h List.not_mem_nil⟩⟩⟩⟩⟩⟩⟩⟩⟩⟩⟩⟩⟩⟩⟩⟩
theorem lw_p48 : lw_okq (⟨"SensorHubModel", "here", "()I"⟩, 16) := ⟨⟨by decide +kernel, by decide +kernel⟩, List.mem_of_getElem? (i := 814) (by decide +kernel), List.mem_of_getElem? (i := 1004) (by decide +kernel), List.mem_of_getElem? (i := 1005) (by decide +kernel)⟩
theorem lw_p49 : lw_okq (⟨"SensorHubModel", "readItem", "()V"⟩, 16) := ⟨⟨by decide +kernel, by decide +kernel⟩, List.mem_of_getElem? (i := 814) (by decide +kernel), List.mem_of_getElem? (i := 1008) (by decide +kernel), List.mem_of_getElem? (i := 1009) (by decide +kernel)⟩
theorem lw_p50 : lw_okq (⟨"SensorHubModel", "isLong", "(IIIIII)Z"⟩, 16) := ⟨⟨by decide +kernel, by decide +kernel⟩, List.mem_of_getElem? (i := 814) (by decide +kernel), List.mem_of_getElem? (i := 1012) (by decide +kernel), List.mem_of_getElem? (i := 1013) (by decide +kernel)⟩
theorem lw_p51 : lw_okq (⟨"SensorHubModel", "readSensor", "()V"⟩, 16) := ⟨⟨by decide +kernel, by decide +kernel⟩, List.mem_of_getElem? (i := 814) (by decide +kernel), List.mem_of_getElem? (i := 1016) (by decide +kernel), List.mem_of_getElem? (i := 1017) (by decide +kernel)⟩
theorem lw_p52 : lw_okq (⟨"SensorHubModel", "take", "(Z)V"⟩, 16) := ⟨⟨by decide +kernel, by decide +kernel⟩, List.mem_of_getElem? (i := 814) (by decide +kernel), List.mem_of_getElem? (i := 1020) (by decide +kernel), List.mem_of_getElem? (i := 1021) (by decide +kernel)⟩
theorem lw_p53 : lw_okq (⟨"SensorHubModel", "take", "(II)I"⟩, 16) := ⟨⟨by decide +kernel, by decide +kernel⟩, List.mem_of_getElem? (i := 814) (by decide +kernel), List.mem_of_getElem? (i := 1024) (by decide +kernel), List.mem_of_getElem? (i := 1025) (by decide +kernel)⟩
theorem lw_p54 : lw_okq (⟨"SensorHubModel", "isWord", "(III)Z"⟩, 16) := ⟨⟨by decide +kernel, by decide +kernel⟩, List.mem_of_getElem? (i := 814) (by decide +kernel), List.mem_of_getElem? (i := 1028) (by decide +kernel), List.mem_of_getElem? (i := 1029) (by decide +kernel)⟩
theorem lw_p55 : lw_okq (⟨"SensorHubModel", "readDerived", "(I)V"⟩, 16) := ⟨⟨by decide +kernel, by decide +kernel⟩, List.mem_of_getElem? (i := 814) (by decide +kernel), List.mem_of_getElem? (i := 1032) (by decide +kernel), List.mem_of_getElem? (i := 1033) (by decide +kernel)⟩
theorem lw_p56 : lw_okq (⟨"SensorHubModel", "readOutage", "()V"⟩, 16) := ⟨⟨by decide +kernel, by decide +kernel⟩, List.mem_of_getElem? (i := 814) (by decide +kernel), List.mem_of_getElem? (i := 1036) (by decide +kernel), List.mem_of_getElem? (i := 1037) (by decide +kernel)⟩
theorem lw_p57 : lw_okq (⟨"SensorHubModel", "release", "()V"⟩, 16) := ⟨⟨by decide +kernel, by decide +kernel⟩, List.mem_of_getElem? (i := 814) (by decide +kernel), List.mem_of_getElem? (i := 1040) (by decide +kernel), List.mem_of_getElem? (i := 1041) (by decide +kernel)⟩
theorem lw_p58 : lw_okq (⟨"SensorHubModel", "allWakes", "()I"⟩, 16) := ⟨⟨by decide +kernel, by decide +kernel⟩, List.mem_of_getElem? (i := 814) (by decide +kernel), List.mem_of_getElem? (i := 1048) (by decide +kernel), List.mem_of_getElem? (i := 1049) (by decide +kernel)⟩
theorem lw_p59 : lw_okq (⟨"SensorHubModel", "pass", "(I)V"⟩, 16) := ⟨⟨by decide +kernel, by decide +kernel⟩, List.mem_of_getElem? (i := 814) (by decide +kernel), List.mem_of_getElem? (i := 1052) (by decide +kernel), List.mem_of_getElem? (i := 1053) (by decide +kernel)⟩
theorem lw_p60 : lw_okq (⟨"SensorHubModel", "tick", "()V"⟩, 16) := ⟨⟨by decide +kernel, by decide +kernel⟩, List.mem_of_getElem? (i := 814) (by decide +kernel), List.mem_of_getElem? (i := 1056) (by decide +kernel), List.mem_of_getElem? (i := 1057) (by decide +kernel)⟩
theorem lw_p61 : lw_okq (⟨"SensorHubModel", "tickPhysical", "(I)V"⟩, 16) := ⟨⟨by decide +kernel, by decide +kernel⟩, List.mem_of_getElem? (i := 814) (by decide +kernel), List.mem_of_getElem? (i := 1060) (by decide +kernel), List.mem_of_getElem? (i := 1061) (by decide +kernel)⟩
theorem lw_p62 : lw_okq (⟨"SensorHubModel", "isOut", "(II)Z"⟩, 16) := ⟨⟨by decide +kernel, by decide +kernel⟩, List.mem_of_getElem? (i := 814) (by decide +kernel), List.mem_of_getElem? (i := 1067) (by decide +kernel), List.mem_of_getElem? (i := 1068) (by decide +kernel)⟩
theorem lw_p63 : lw_okq (⟨"SensorHubModel", "receive", "(III)V"⟩, 16) := ⟨⟨by decide +kernel, by decide +kernel⟩, List.mem_of_getElem? (i := 814) (by decide +kernel), List.mem_of_getElem? (i := 1071) (by decide +kernel), List.mem_of_getElem? (i := 1072) (by decide +kernel)⟩
def lw_privs_4 : List (MethodName × Nat) := [(⟨"SensorHubModel", "here", "()I"⟩, 16), (⟨"SensorHubModel", "readItem", "()V"⟩, 16), (⟨"SensorHubModel", "isLong", "(IIIIII)Z"⟩, 16), (⟨"SensorHubModel", "readSensor", "()V"⟩, 16), (⟨"SensorHubModel", "take", "(Z)V"⟩, 16), (⟨"SensorHubModel", "take", "(II)I"⟩, 16), (⟨"SensorHubModel", "isWord", "(III)Z"⟩, 16), (⟨"SensorHubModel", "readDerived", "(I)V"⟩, 16), (⟨"SensorHubModel", "readOutage", "()V"⟩, 16), (⟨"SensorHubModel", "release", "()V"⟩, 16), (⟨"SensorHubModel", "allWakes", "()I"⟩, 16), (⟨"SensorHubModel", "pass", "(I)V"⟩, 16), (⟨"SensorHubModel", "tick", "()V"⟩, 16), (⟨"SensorHubModel", "tickPhysical", "(I)V"⟩, 16), (⟨"SensorHubModel", "isOut", "(II)Z"⟩, 16), (⟨"SensorHubModel", "receive", "(III)V"⟩, 16)]
theorem lw_r4 : ∀ q ∈ lw_privs_4, lw_okq q := List.forall_mem_cons.mpr ⟨lw_p48, List.forall_mem_cons.mpr ⟨lw_p49, List.forall_mem_cons.mpr ⟨lw_p50, List.forall_mem_cons.mpr ⟨lw_p51, List.forall_mem_cons.mpr ⟨lw_p52, List.forall_mem_cons.mpr ⟨lw_p53, List.forall_mem_cons.mpr ⟨lw_p54, List.forall_mem_cons.mpr ⟨lw_p55, List.forall_mem_cons.mpr ⟨lw_p56, List.forall_mem_cons.mpr ⟨lw_p57, List.forall_mem_cons.mpr ⟨lw_p58, List.forall_mem_cons.mpr ⟨lw_p59, List.forall_mem_cons.mpr ⟨lw_p60, List.forall_mem_cons.mpr ⟨lw_p61, List.forall_mem_cons.mpr ⟨lw_p62, List.forall_mem_cons.mpr ⟨lw_p63, fun _ h => absurd h List.not_mem_nil⟩⟩⟩⟩⟩⟩⟩⟩⟩⟩⟩⟩⟩⟩⟩⟩
theorem lw_p64 : lw_okq (⟨"SensorHubModel", "tickDerived", "(I)V"⟩, 16) := ⟨⟨by decide +kernel, by decide +kernel⟩, List.mem_of_getElem? (i := 814) (by decide +kernel), List.mem_of_getElem? (i := 1075) (by decide +kernel), List.mem_of_getElem? (i := 1076) (by decide +kernel)⟩
theorem lw_p65 : lw_okq (⟨"SensorHubModel", "mean", "(II)I"⟩, 16) := ⟨⟨by decide +kernel, by decide +kernel⟩, List.mem_of_getElem? (i := 814) (by decide +kernel), List.mem_of_getElem? (i := 1079) (by decide +kernel), List.mem_of_getElem? (i := 1080) (by decide +kernel)⟩
theorem lw_p66 : lw_okq (⟨"SensorHubModel", "store", "(I)V"⟩, 16) := ⟨⟨by decide +kernel, by decide +kernel⟩, List.mem_of_getElem? (i := 814) (by decide +kernel), List.mem_of_getElem? (i := 1083) (by decide +kernel), List.mem_of_getElem? (i := 1084) (by decide +kernel)⟩
theorem lw_p67 : lw_okq (⟨"SensorHubModel", "clientMany", "()I"⟩, 16) := ⟨⟨by decide +kernel, by decide +kernel⟩, List.mem_of_getElem? (i := 814) (by decide +kernel), List.mem_of_getElem? (i := 1099) (by decide +kernel), List.mem_of_getElem? (i := 1100) (by decide +kernel)⟩
theorem lw_p68 : lw_okq (⟨"SensorHubModel", "stored", "(I)I"⟩, 16) := ⟨⟨by decide +kernel, by decide +kernel⟩, List.mem_of_getElem? (i := 814) (by decide +kernel), List.mem_of_getElem? (i := 1115) (by decide +kernel), List.mem_of_getElem? (i := 1116) (by decide +kernel)⟩
def lw_privs_5 : List (MethodName × Nat) := [(⟨"SensorHubModel", "tickDerived", "(I)V"⟩, 16), (⟨"SensorHubModel", "mean", "(II)I"⟩, 16), (⟨"SensorHubModel", "store", "(I)V"⟩, 16), (⟨"SensorHubModel", "clientMany", "()I"⟩, 16), (⟨"SensorHubModel", "stored", "(I)I"⟩, 16)]
theorem lw_r5 : ∀ q ∈ lw_privs_5, lw_okq q := List.forall_mem_cons.mpr ⟨lw_p64, List.forall_mem_cons.mpr ⟨lw_p65, List.forall_mem_cons.mpr ⟨lw_p66, List.forall_mem_cons.mpr ⟨lw_p67, List.forall_mem_cons.mpr ⟨lw_p68, fun _ h => absurd h List.not_mem_nil⟩⟩⟩⟩⟩
def lw_privs : List (MethodName × Nat) := lw_privs_1 ++ (lw_privs_2 ++ (lw_privs_3 ++ (lw_privs_4 ++ (lw_privs_5))))
def lw_tbl : List Cond := k2_sels lw_privs ++ tables_1
theorem lw_privs_ok : ∀ q ∈ lw_privs, lw_okq q := by
  show ∀ q ∈ lw_privs_1 ++ (lw_privs_2 ++ (lw_privs_3 ++ (lw_privs_4 ++ (lw_privs_5)))), lw_okq q
  exact List.forall_mem_append.mpr ⟨lw_r1, List.forall_mem_append.mpr ⟨lw_r2, List.forall_mem_append.mpr ⟨lw_r3, List.forall_mem_append.mpr ⟨lw_r4, lw_r5⟩⟩⟩⟩

/-- the words that a callee may lean on: those of the tables that stay true along a walk -/
def gw : List Cond := lw_tbl.filter goodWord
theorem gw_I {w : Cond} (i : Nat) (h : lw_tbl[i]? = some w) (hg : goodWord w = true) : w ∈ gw := List.mem_filter.mpr ⟨List.mem_of_getElem? h, hg⟩
theorem gw_ok : ∀ w ∈ gw, goodWord w = true := fun w h => (List.mem_filter.mp h).2
theorem gw_L {ws : List Cond} (ps : List Nat) (h : ws = ps.filterMap (fun i => lw_tbl[i]?)) (hg : ws.all goodWord = true) : ∀ w ∈ ws, w ∈ gw := by
  intro w hw
  have h1 := List.all_eq_true.mp hg w hw
  rw [h] at hw
  obtain ⟨i, -, hi⟩ := List.mem_filterMap.mp hw
  exact gw_I i hi h1
end
section
def T_0 : u_T := fun k => match k with
  | 0 => ("SensorHub$Client", "present", "Z", false)
  | 1 => ("SensorHub$Client", "sensor", "I", false)
  | 2 => ("SensorHub$Client", "period", "I", false)
  | 3 => ("SensorHub$Client", "delay", "I", false)
  | 4 => ("SensorHub$Client", "stride", "I", false)
  | 5 => ("SensorHub$Client", "offered", "I", false)
  | 6 => ("SensorHub$Client", "delivered", "I", false)
  | 7 => ("SensorHub$Client", "missing", "I", false)
  | 8 => ("SensorHub$Client", "greatestAge", "I", false)
  | 9 => ("SensorHub$Client", "blamed", "I", false)
  | _ => ("SensorHub$Client", "latest", "[I", true)
def ty_0 : Nat → FieldType := fun k => match k with
  | 0 => .boolean
  | 1 => .int
  | 2 => .int
  | 3 => .int
  | 4 => .int
  | 5 => .int
  | 6 => .int
  | 7 => .int
  | 8 => .int
  | 9 => .int
  | _ => .array .int
theorem nm_0 : ∀ a, a < 11 → ∀ b, b < 11 → a ≠ b → (T_0 a).2.1 ≠ (T_0 b).2.1 := by decide +kernel
theorem tyok_0 : ∀ k, k < 11 → parseFieldDescriptor (T_0 k).2.2.1 = some (ty_0 k) := by decide +kernel
theorem clw_0 : ∀ w ∈ u_ws "SensorHub$Client" T_0 11, w ∈ gw := gw_L [252, 254, 256, 258, 260, 262, 264, 266, 268, 270, 272] (by decide +kernel) (by decide +kernel)
def T_1 : u_T := fun k => match k with
  | 0 => ("SensorHub$History", "size", "I", false)
  | 1 => ("SensorHub$History", "next", "I", false)
  | _ => ("SensorHub$History", "states", "[LSensorHub$Hub;", true)
def ty_1 : Nat → FieldType := fun k => match k with
  | 0 => .int
  | 1 => .int
  | _ => .array (.object "SensorHub$Hub")
theorem nm_1 : ∀ a, a < 3 → ∀ b, b < 3 → a ≠ b → (T_1 a).2.1 ≠ (T_1 b).2.1 := by decide +kernel
theorem tyok_1 : ∀ k, k < 3 → parseFieldDescriptor (T_1 k).2.2.1 = some (ty_1 k) := by decide +kernel
theorem clw_1 : ∀ w ∈ u_ws "SensorHub$History" T_1 3, w ∈ gw := gw_L [343, 345, 347] (by decide +kernel) (by decide +kernel)
def T_2 : u_T := fun k => match k with
  | 0 => ("SensorHub$Hub", "now", "I", false)
  | 1 => ("SensorHub$Hub", "restart", "I", false)
  | 2 => ("SensorHub$Hub", "energy", "I", false)
  | 3 => ("SensorHub$Hub", "capacity", "I", false)
  | 4 => ("SensorHub$Hub", "sensorCount", "I", false)
  | 5 => ("SensorHub$Hub", "mostEntries", "I", false)
  | 6 => ("SensorHub$Hub", "wakeCounts", "[I", true)
  | 7 => ("SensorHub$Hub", "sensors", "[LSensorHub$Sensor;", true)
  | 8 => ("SensorHub$Hub", "clients", "[LSensorHub$Client;", true)
  | 9 => ("SensorHub$Hub", "outages", "LSensorHub$Outages;", true)
  | _ => ("SensorHub$Hub", "store", "LSensorHub$Store;", true)
def ty_2 : Nat → FieldType := fun k => match k with
  | 0 => .int
  | 1 => .int
  | 2 => .int
  | 3 => .int
  | 4 => .int
  | 5 => .int
  | 6 => .array .int
  | 7 => .array (.object "SensorHub$Sensor")
  | 8 => .array (.object "SensorHub$Client")
  | 9 => .object "SensorHub$Outages"
  | _ => .object "SensorHub$Store"
theorem nm_2 : ∀ a, a < 11 → ∀ b, b < 11 → a ≠ b → (T_2 a).2.1 ≠ (T_2 b).2.1 := by decide +kernel
theorem tyok_2 : ∀ k, k < 11 → parseFieldDescriptor (T_2 k).2.2.1 = some (ty_2 k) := by decide +kernel
theorem clw_2 : ∀ w ∈ u_ws "SensorHub$Hub" T_2 11, w ∈ gw := gw_L [307, 309, 311, 313, 315, 317, 319, 321, 323, 325, 327] (by decide +kernel) (by decide +kernel)
def T_3 : u_T := fun k => match k with
  | 0 => ("SensorHub$Outages", "size", "I", false)
  | 1 => ("SensorHub$Outages", "sensors", "[I", true)
  | 2 => ("SensorHub$Outages", "firsts", "[I", true)
  | _ => ("SensorHub$Outages", "lasts", "[I", true)
def ty_3 : Nat → FieldType := fun k => match k with
  | 0 => .int
  | 1 => .array .int
  | 2 => .array .int
  | _ => .array .int
theorem nm_3 : ∀ a, a < 4 → ∀ b, b < 4 → a ≠ b → (T_3 a).2.1 ≠ (T_3 b).2.1 := by decide +kernel
theorem tyok_3 : ∀ k, k < 4 → parseFieldDescriptor (T_3 k).2.2.1 = some (ty_3 k) := by decide +kernel
theorem clw_3 : ∀ w ∈ u_ws "SensorHub$Outages" T_3 4, w ∈ gw := gw_L [115, 117, 119, 121] (by decide +kernel) (by decide +kernel)
def T_4 : u_T := fun k => match k with
  | 0 => ("SensorHub$Sensor", "kind", "I", false)
  | 1 => ("SensorHub$Sensor", "least", "I", false)
  | 2 => ("SensorHub$Sensor", "steps", "I", false)
  | 3 => ("SensorHub$Sensor", "slope", "I", false)
  | 4 => ("SensorHub$Sensor", "offset", "I", false)
  | 5 => ("SensorHub$Sensor", "jitter", "I", false)
  | 6 => ("SensorHub$Sensor", "cost", "I", false)
  | 7 => ("SensorHub$Sensor", "first", "I", false)
  | 8 => ("SensorHub$Sensor", "second", "I", false)
  | 9 => ("SensorHub$Sensor", "source", "I", false)
  | 10 => ("SensorHub$Sensor", "demand", "I", false)
  | 11 => ("SensorHub$Sensor", "period", "I", false)
  | 12 => ("SensorHub$Sensor", "samples", "I", false)
  | 13 => ("SensorHub$Sensor", "fresh", "Z", false)
  | 14 => ("SensorHub$Sensor", "stamp", "I", false)
  | 15 => ("SensorHub$Sensor", "value", "I", false)
  | 16 => ("SensorHub$Sensor", "valued", "I", false)
  | _ => ("SensorHub$Sensor", "recent", "[I", true)
def ty_4 : Nat → FieldType := fun k => match k with
  | 0 => .int
  | 1 => .int
  | 2 => .int
  | 3 => .int
  | 4 => .int
  | 5 => .int
  | 6 => .int
  | 7 => .int
  | 8 => .int
  | 9 => .int
  | 10 => .int
  | 11 => .int
  | 12 => .int
  | 13 => .boolean
  | 14 => .int
  | 15 => .int
  | 16 => .int
  | _ => .array .int
theorem nm_4 : ∀ a, a < 18 → ∀ b, b < 18 → a ≠ b → (T_4 a).2.1 ≠ (T_4 b).2.1 := by decide +kernel
theorem tyok_4 : ∀ k, k < 18 → parseFieldDescriptor (T_4 k).2.2.1 = some (ty_4 k) := by decide +kernel
theorem clw_4 : ∀ w ∈ u_ws "SensorHub$Sensor" T_4 18, w ∈ gw := gw_L [184, 186, 188, 190, 192, 194, 196, 198, 200, 202, 204, 206, 208, 210, 212, 214, 216, 218] (by decide +kernel) (by decide +kernel)
def T_5 : u_T := fun k => match k with
  | 0 => ("SensorHub$Store", "size", "I", false)
  | _ => ("SensorHub$Store", "entries", "[I", true)
def ty_5 : Nat → FieldType := fun k => match k with
  | 0 => .int
  | _ => .array .int
theorem nm_5 : ∀ a, a < 2 → ∀ b, b < 2 → a ≠ b → (T_5 a).2.1 ≠ (T_5 b).2.1 := by decide +kernel
theorem tyok_5 : ∀ k, k < 2 → parseFieldDescriptor (T_5 k).2.2.1 = some (ty_5 k) := by decide +kernel
theorem clw_5 : ∀ w ∈ u_ws "SensorHub$Store" T_5 2, w ∈ gw := gw_L [135, 137] (by decide +kernel) (by decide +kernel)
def T_6 : u_T := fun k => match k with
  | 0 => ("SensorHub$Text", "size", "I", false)
  | 1 => ("SensorHub$Text", "codes", "[I", true)
  | 2 => ("SensorHub$Text", "failed", "Z", false)
  | 3 => ("SensorHub$Text", "type", "I", false)
  | 4 => ("SensorHub$Text", "start", "I", false)
  | _ => ("SensorHub$Text", "behind", "I", false)
def ty_6 : Nat → FieldType := fun k => match k with
  | 0 => .int
  | 1 => .array .int
  | 2 => .boolean
  | 3 => .int
  | 4 => .int
  | _ => .int
theorem nm_6 : ∀ a, a < 6 → ∀ b, b < 6 → a ≠ b → (T_6 a).2.1 ≠ (T_6 b).2.1 := by decide +kernel
theorem tyok_6 : ∀ k, k < 6 → parseFieldDescriptor (T_6 k).2.2.1 = some (ty_6 k) := by decide +kernel
theorem clw_6 : ∀ w ∈ u_ws "SensorHub$Text" T_6 6, w ∈ gw := gw_L [363, 365, 367, 369, 371, 373] (by decide +kernel) (by decide +kernel)
def T_7 : u_T := fun k => match k with
  | 0 => ("SensorHub", "hub", "LSensorHub$Hub;", true)
  | 1 => ("SensorHub", "trial", "LSensorHub$Hub;", true)
  | 2 => ("SensorHub", "history", "LSensorHub$History;", true)
  | _ => ("SensorHub", "text", "LSensorHub$Text;", true)
def ty_7 : Nat → FieldType := fun k => match k with
  | 0 => .object "SensorHub$Hub"
  | 1 => .object "SensorHub$Hub"
  | 2 => .object "SensorHub$History"
  | _ => .object "SensorHub$Text"
theorem nm_7 : ∀ a, a < 4 → ∀ b, b < 4 → a ≠ b → (T_7 a).2.1 ≠ (T_7 b).2.1 := by decide +kernel
theorem tyok_7 : ∀ k, k < 4 → parseFieldDescriptor (T_7 k).2.2.1 = some (ty_7 k) := by decide +kernel
theorem clw_7 : ∀ w ∈ u_ws "SensorHub" T_7 4, w ∈ gw := gw_L [380, 382, 384, 386] (by decide +kernel) (by decide +kernel)
def T_8 : u_T := fun k => match k with
  | 0 => ("SensorHubModel", "thrown", "I", false)
  | 1 => ("SensorHubModel", "s", "[I", true)
  | 2 => ("SensorHubModel", "saved", "[I", true)
  | 3 => ("SensorHubModel", "savedMany", "I", false)
  | 4 => ("SensorHubModel", "text", "[I", true)
  | 5 => ("SensorHubModel", "length", "I", false)
  | 6 => ("SensorHubModel", "aside", "[I", true)
  | 7 => ("SensorHubModel", "demands", "[I", true)
  | 8 => ("SensorHubModel", "periods", "[I", true)
  | 9 => ("SensorHubModel", "oldPeriods", "[I", true)
  | 10 => ("SensorHubModel", "isFresh", "[Z", true)
  | 11 => ("SensorHubModel", "next", "I", false)
  | 12 => ("SensorHubModel", "start", "I", false)
  | 13 => ("SensorHubModel", "token", "I", false)
  | 14 => ("SensorHubModel", "number", "I", false)
  | _ => ("SensorHubModel", "isWrong", "Z", false)
def ty_8 : Nat → FieldType := fun k => match k with
  | 0 => .int
  | 1 => .array .int
  | 2 => .array .int
  | 3 => .int
  | 4 => .array .int
  | 5 => .int
  | 6 => .array .int
  | 7 => .array .int
  | 8 => .array .int
  | 9 => .array .int
  | 10 => .array .boolean
  | 11 => .int
  | 12 => .int
  | 13 => .int
  | 14 => .int
  | _ => .boolean
theorem nm_8 : ∀ a, a < 16 → ∀ b, b < 16 → a ≠ b → (T_8 a).2.1 ≠ (T_8 b).2.1 := by decide +kernel
theorem tyok_8 : ∀ k, k < 16 → parseFieldDescriptor (T_8 k).2.2.1 = some (ty_8 k) := by decide +kernel
theorem clw_8 : ∀ w ∈ u_ws "SensorHubModel" T_8 16, w ∈ gw := gw_L [908, 910, 912, 914, 916, 918, 920, 922, 924, 926, 928, 930, 932, 934, 936, 938] (by decide +kernel) (by decide +kernel)
abbrev classes : List vw_C := [("SensorHub$Client", T_0, 11), ("SensorHub$History", T_1, 3), ("SensorHub$Hub", T_2, 11), ("SensorHub$Outages", T_3, 4), ("SensorHub$Sensor", T_4, 18), ("SensorHub$Store", T_5, 2), ("SensorHub$Text", T_6, 6), ("SensorHub", T_7, 4), ("SensorHubModel", T_8, 16)]
/-- which fields are numbers (none), which are references, and to which cell behind the object's own -/
def spc : Nat → List (Option Nat) := fun κ => match κ with
  | 1 => [none, none, none, none, none, none, none, none, none, none, some 1]
  | 2 => [none, none, some 1]
  | 3 => [none, none, none, none, none, none, some 1, some 2, some 3, some 4, some 8]
  | 4 => [none, some 1, some 2, some 3]
  | 5 => [none, none, none, none, none, none, none, none, none, none, none, none, none, none, none, none, none, some 1]
  | 6 => [none, some 1]
  | 7 => [none, some 1, none, none, none, none]
  | 8 => [some 1, some 43, some 85, some 297]
  | 9 => [none, some 1, some 2, none, some 3, none, some 4, some 5, some 6, some 7, some 8, none, none, none, none, none]
  | _ => []
theorem cls_in : ∀ (ci : Nat) (C : String) (T : u_T) (N : Nat), classes[ci]? = some (C, T, N) → ∀ w ∈ u_ws C T N, w ∈ gw := by
  intro ci C T N h
  match ci, h with
  | 0, h => cases h; exact clw_0
  | 1, h => cases h; exact clw_1
  | 2, h => cases h; exact clw_2
  | 3, h => cases h; exact clw_3
  | 4, h => cases h; exact clw_4
  | 5, h => cases h; exact clw_5
  | 6, h => cases h; exact clw_6
  | 7, h => cases h; exact clw_7
  | 8, h => cases h; exact clw_8
  | k + 9, h => simp [classes] at h
theorem cls_ty : ∀ (ci : Nat) (C : String) (T : u_T) (N : Nat), classes[ci]? = some (C, T, N) → ∃ ty0 : Nat → FieldType, (∀ k, k < N → parseFieldDescriptor (T k).2.2.1 = some (ty0 k)) ∧ ∀ a, a < N → ∀ b, b < N → a ≠ b → (T a).2.1 ≠ (T b).2.1 := by
  intro ci C T N h
  match ci, h with
  | 0, h => cases h; exact ⟨ty_0, tyok_0, nm_0⟩
  | 1, h => cases h; exact ⟨ty_1, tyok_1, nm_1⟩
  | 2, h => cases h; exact ⟨ty_2, tyok_2, nm_2⟩
  | 3, h => cases h; exact ⟨ty_3, tyok_3, nm_3⟩
  | 4, h => cases h; exact ⟨ty_4, tyok_4, nm_4⟩
  | 5, h => cases h; exact ⟨ty_5, tyok_5, nm_5⟩
  | 6, h => cases h; exact ⟨ty_6, tyok_6, nm_6⟩
  | 7, h => cases h; exact ⟨ty_7, tyok_7, nm_7⟩
  | 8, h => cases h; exact ⟨ty_8, tyok_8, nm_8⟩
  | k + 9, h => simp [classes] at h
end
section
/-! the memory of the whole world: a cell's number, a place in it; only whole numbers ever change; references are set once by the constructors -/
abbrev Mem : Type := Nat → Nat → Int32
def wr (σ : Mem) (v k : Nat) (x : Int32) : Mem := fun b j => if b = v ∧ j = k then x else σ b j
abbrev CX : Type := va_G × (Nat → Nat) × (Nat → Nat) × (Nat → ClassId) × (Nat → Prop)
abbrev xD (X : CX) : va_G := X.1
abbrev xa (X : CX) : Nat → Nat := X.2.1
abbrev xs (X : CX) : Nat → Nat := X.2.2.1
abbrev xc (X : CX) : Nat → ClassId := X.2.2.2.1
abbrev xA (X : CX) : Nat → Prop := X.2.2.2.2
/-- an object's fields, by its list: none is a number, some d is the cell d places on -/
def fl (a : Nat → Nat) (f : Nat → Int32) (v : Nat) : List (Option Nat) → Nat → List Value
  | [], _ => []
  | none :: r, k => .int (f k) :: fl a f v r (k + 1)
  | some d :: r, k => .ref (a (v + d)) :: fl a f v r (k + 1)
theorem fl_int {a : Nat → Nat} {f : Nat → Int32} {v : Nat} : ∀ (sp : List (Option Nat)) (k0 k : Nat), sp[k]? = some none → (fl a f v sp k0)[k]? = some (.int (f (k0 + k)))
  | [], _, _, h => by simp at h
  | x :: r, k0, 0, h => by
    simp at h
    subst h
    simp [fl]
  | x :: r, k0, k + 1, h => by
    have ih := fl_int (a := a) (f := f) (v := v) r (k0 + 1) k (by simpa using h)
    have e : k0 + (k + 1) = k0 + 1 + k := by omega
    rw [e]
    cases x <;> simpa [fl] using ih
theorem fl_ref {a : Nat → Nat} {f : Nat → Int32} {v d : Nat} : ∀ (sp : List (Option Nat)) (k0 k : Nat), sp[k]? = some (some d) → (fl a f v sp k0)[k]? = some (.ref (a (v + d)))
  | [], _, _, h => by simp at h
  | x :: r, k0, 0, h => by
    simp at h
    subst h
    simp [fl]
  | x :: r, k0, k + 1, h => by
    have ih := fl_ref (a := a) (f := f) (v := v) r (k0 + 1) k (by simpa using h)
    cases x <;> simpa [fl] using ih
theorem fl_len {a : Nat → Nat} {f : Nat → Int32} {v : Nat} : ∀ (sp : List (Option Nat)) (k0 : Nat), (fl a f v sp k0).length = sp.length
  | [], _ => rfl
  | none :: r, k0 => by simp [fl, fl_len r (k0 + 1)]
  | some d :: r, k0 => by simp [fl, fl_len r (k0 + 1)]
theorem fl_ext {a : Nat → Nat} {f g : Nat → Int32} {v : Nat} : ∀ (sp : List (Option Nat)) (k0 : Nat), (∀ k, k0 ≤ k → f k = g k) → fl a f v sp k0 = fl a g v sp k0
  | [], _, _ => rfl
  | none :: r, k0, h => by simp only [fl]; rw [h k0 (Nat.le_refl _), fl_ext r (k0 + 1) (fun k hk => h k (by omega))]
  | some d :: r, k0, h => by simp only [fl]; rw [fl_ext r (k0 + 1) (fun k hk => h k (by omega))]
theorem fl_set {a : Nat → Nat} {f : Nat → Int32} {v : Nat} {x : Int32} : ∀ (sp : List (Option Nat)) (k0 k : Nat), sp[k]? = some none → (fl a f v sp k0).set k (.int x) = fl a (upd f (k0 + k) x) v sp k0
  | [], _, _, h => by simp at h
  | y :: r, k0, 0, h => by
    simp at h
    subst h
    simp only [fl, List.set_cons_zero]
    rw [fl_ext r (k0 + 1) (f := f) (g := upd f (k0 + 0) x) (fun k hk => by simp [upd]; omega)]
    simp [upd]
  | y :: r, k0, k + 1, h => by
    have ih := fl_set (a := a) (f := f) (v := v) (x := x) r (k0 + 1) k (by simpa using h)
    have e : k0 + (k + 1) = k0 + 1 + k := by omega
    rw [e]
    cases y with
    | none =>
      simp only [fl, List.set_cons_succ]
      rw [ih]
      have : ¬ k0 = k0 + 1 + k := by omega
      simp [upd, this]
    | some d => simp only [fl, List.set_cons_succ]; rw [ih]
/-- what stands at a cell of a kind -/
def ce (a : Nat → Nat) (cA : Nat → ClassId) (f : Nat → Int32) (κ v : Nat) : va_E :=
  if 1000 ≤ κ then .inl (cA 0, κ - 1000, .inl f) else
  if κ = 20 then .inl (cA 1, 8, .inl f) else
  if κ = 21 then .inl (cA 2, 8, .inr (.inr (.inr (.inr (fun j => some (a (v + (8 + 2 * j)))))))) else
  if κ = 22 then .inl (cA 3, 8, .inr (.inr (.inr (.inr (fun j => some (a (v + (23 + 2 * j)))))))) else
  if κ = 23 then .inl (cA 4, 5, .inr (.inr (.inr (.inr (fun j => some (a (v + (1 + 42 * j)))))))) else
  .inr (κ - 1, fl a f v (spc κ) 0)
def Rep (X : CX) (σ : Mem) (H : Heap) : Prop := ∀ v, xs X v ≠ 0 → va_at (xD X) classes (xa X v, ce (xa X) (xc X) (σ v) (xs X v) v) H
def tys (X : CX) : List (ClassId × FieldType) := [(xc X 0, .int), (xc X 1, .boolean), (xc X 2, .object "SensorHub$Sensor"), (xc X 3, .object "SensorHub$Client"), (xc X 4, .object "SensorHub$Hub")]
/-- what the tables say of the classes; the cells are apart -/
def Cx (X : CX) (U : State) : Prop := va_K (xD X) classes (tys X) U ∧ (∀ v w, xs X v ≠ 0 → xs X w ≠ 0 → xa X v = xa X w → v = w) ∧ ∀ v, xs X v ≠ 0 → xA X (xa X v)
theorem Cx.moved {X : CX} {u U : State} (hvm : u.vm.Alike U.vm) (h : Cx X u) : Cx X U := ⟨va_K.moved hvm h.1, h.2⟩
def FR (p : Program) (s : State) (m : MethodId) (args : Array Value) (c : Code) (cc : ByteArray) (nL : Nat) (own : String) (X : CX) : Prop :=
  p.tables.exec = Jvm.exec ∧ c.code = cc ∧ c.maxLocals = nL ∧ s.vm.findClass own = some m.cls ∧ (∀ w ∈ gw, w.before args s = true) ∧ Cx X s
def G {ρ : Type} (X : CX) (p : Program) (l : Launch) (e : Env) (R : Room) (s : State) (m : MethodId) (args : Array Value) (below : List Frame) (meth : Method) (c : Code) (nL ck sk : Nat) (Qf : ρ → Mem → State → Prop) (pc : Nat) (ls : List (Nat × Value)) (st : List Value) (σ : Mem) (o : Option (ρ × Mem)) : Prop :=
  ∀ r σ', o = some (r, σ') → ∀ (H : Heap) (locs : List Loc) (la : Array Slot), Rep X σ H → va_S (xA X) s.heap H locs → lv_has la nL ls → W p l e R s m args below meth c H locs ck sk (Qf r σ') (F0 m pc la st)
abbrev ib (i : Int32) (n : Nat) : Prop := 0 ≤ i.toInt ∧ i.toInt < (n : Int)
def bd {α β : Type} (o : Option (α × Mem)) (k : α → Mem → Option β) : Option β := match o with
  | none => none
  | some w => k w.1 w.2
def oe {β : Type} (o : Option Nat) (a : β) (b : Nat → β) : β := match o with
  | none => a
  | some v => b v
def QC (X : CX) (rv : Option Value) (σ' : Mem) : Array Value → State → Outcome → State → Prop := fun _ st oc t => oc = .returned rv ∧ Rep X σ' t.heap ∧ va_F (xA X) st t
def rmD (d : Nat) : Room := { frames := d, cells := 0, slots := 0, locals := 35 * d }
/-- a method's contract: from the memory σ it comes to the answer and the memory that o says, if o says one -/
def CT {ρ : Type} (X : CX) (l : Launch) (y : MethodName) (bytes : ByteArray) (maxL : Nat) (ret : Option FieldType) (d : Nat) (vl : ρ → Option Value) (av : List Value) (σ : Mem) (o : Option (ρ × Mem)) : Prop :=
  ∀ r σ', o = some (r, σ') → Met l y (.code y bytes maxL ret :: gw) (rmD d) (va_Pc av (fun U => Rep X σ U.heap ∧ Cx X U)) (QC X (vl r) σ') 0 0 (xA X)
def vI (r : Int32) : Option Value := some (.int r)
def vU (_ : Unit) : Option Value := none
def vQ (X : CX) (r : Option Nat) : Option Value := some (va_rf (r.map (xa X)))
/-- a field of a number or a reference, as an instruction of own links it -/
def FS (own : String) (index ci k : Nat) : Prop := ∃ C T N, classes[ci]? = some (C, T, N) ∧ k < N ∧ (T k).1 = C ∧ Cond.fieldLink own index C (T k).2.1 (T k).2.2.1 ∈ gw
def FW (own : String) (index ci k : Nat) (ty : FieldType) : Prop := ∃ C T N, classes[ci]? = some (C, T, N) ∧ k < N ∧ (T k).1 = C ∧ Cond.fieldLink own index C (T k).2.1 (T k).2.2.1 ∈ gw ∧ (T k).2.2.2 = false ∧ parseFieldDescriptor (T k).2.2.1 = some ty
section ROWS
variable {ρ : Type} {X : CX} {p : Program} {l : Launch} {e : Env} {R : Room} {s : State} {m : MethodId} {args : Array Value} {below : List Frame} {meth : Method} {c : Code} {cc : ByteArray} {own : String} {nL ck sk : Nat} {Qf : ρ → Mem → State → Prop} {pc : Nat} {ls : List (Nat × Value)} {rest : List Value} {σ : Mem} {o o1 o2 : Option (ρ × Mem)}
theorem g_no {st : List Value} : G X p l e R s m args below meth c nL ck sk Qf pc ls st σ none := fun _ _ h => by cases h
theorem g_if {q : Prop} [Decidable q] {st : List Value} (h1 : q → G X p l e R s m args below meth c nL ck sk Qf pc ls st σ o1) (h2 : ¬ q → G X p l e R s m args below meth c nL ck sk Qf pc ls st σ o2) : G X p l e R s m args below meth c nL ck sk Qf pc ls st σ (if q then o1 else o2) := by
  by_cases hq : q
  · rw [if_pos hq]; exact h1 hq
  · rw [if_neg hq]; exact h2 hq
theorem g_gd {q : Prop} [Decidable q] {st : List Value} (h1 : q → G X p l e R s m args below meth c nL ck sk Qf pc ls st σ o1) : G X p l e R s m args below meth c nL ck sk Qf pc ls st σ (if q then o1 else none) := g_if h1 (fun _ => g_no)
theorem g_iconst (F : FR p s m args c cc nL own X) {n : Int} {v : Int32} (d : decode cc pc = .ok (.iconst n, 1)) (hv : Int32.ofInt n = v)
    (k : G X p l e R s m args below meth c nL ck sk Qf (pc + 1) ls (.int v :: rest) σ o) : G X p l e R s m args below meth c nL ck sk Qf pc ls rest σ o :=
  fun r σ' ho H locs la hR hS hl => lv_iconst F.1 F.2.1 d hv (k r σ' ho H locs la hR hS hl)
theorem g_bipush (F : FR p s m args c cc nL own X) {n : Int} {v : Int32} (d : decode cc pc = .ok (.bipush n, 2)) (hv : (Int8.ofInt n).toInt32 = v)
    (k : G X p l e R s m args below meth c nL ck sk Qf (pc + 2) ls (.int v :: rest) σ o) : G X p l e R s m args below meth c nL ck sk Qf pc ls rest σ o :=
  fun r σ' ho H locs la hR hS hl => lv_bipush F.1 F.2.1 d hv (k r σ' ho H locs la hR hS hl)
theorem g_sipush (F : FR p s m args c cc nL own X) {n : Int} {v : Int32} (d : decode cc pc = .ok (.sipush n, 3)) (hv : (Int16.ofInt n).toInt32 = v)
    (k : G X p l e R s m args below meth c nL ck sk Qf (pc + 3) ls (.int v :: rest) σ o) : G X p l e R s m args below meth c nL ck sk Qf pc ls rest σ o :=
  fun r σ' ho H locs la hR hS hl => lv_sipush F.1 F.2.1 d hv (k r σ' ho H locs la hR hS hl)
theorem g_iload_n (F : FR p s m args c cc nL own X) {i : Fin 4} {x : Int32} (d : decode cc pc = .ok (.iload_n i, 1)) (n : Nat) (hk : ls[n]? = some ((i : Nat), .int x))
    (k : G X p l e R s m args below meth c nL ck sk Qf (pc + 1) ls (.int x :: rest) σ o) : G X p l e R s m args below meth c nL ck sk Qf pc ls rest σ o :=
  fun r σ' ho H locs la hR hS hl => lv_iload_n F.1 F.2.1 d rfl (lv_at hl n hk) (k r σ' ho H locs la hR hS hl)
theorem g_iload (F : FR p s m args c cc nL own X) {i : Nat} {x : Int32} (d : decode cc pc = .ok (.iload i, 2)) (n : Nat) (hk : ls[n]? = some (i, .int x))
    (k : G X p l e R s m args below meth c nL ck sk Qf (pc + 2) ls (.int x :: rest) σ o) : G X p l e R s m args below meth c nL ck sk Qf pc ls rest σ o :=
  fun r σ' ho H locs la hR hS hl => lv_iload F.1 F.2.1 d (lv_at hl n hk) (k r σ' ho H locs la hR hS hl)
theorem g_aload_n (F : FR p s m args c cc nL own X) {i : Fin 4} {x : Nat} (d : decode cc pc = .ok (.aload_n i, 1)) (n : Nat) (hk : ls[n]? = some ((i : Nat), .ref x))
    (k : G X p l e R s m args below meth c nL ck sk Qf (pc + 1) ls (.ref x :: rest) σ o) : G X p l e R s m args below meth c nL ck sk Qf pc ls rest σ o :=
  fun r σ' ho H locs la hR hS hl => lv_aload_n F.1 F.2.1 d rfl (lv_at hl n hk) (k r σ' ho H locs la hR hS hl)
theorem g_aload (F : FR p s m args c cc nL own X) {i : Nat} {x : Nat} (d : decode cc pc = .ok (.aload i, 2)) (n : Nat) (hk : ls[n]? = some (i, .ref x))
    (k : G X p l e R s m args below meth c nL ck sk Qf (pc + 2) ls (.ref x :: rest) σ o) : G X p l e R s m args below meth c nL ck sk Qf pc ls rest σ o :=
  fun r σ' ho H locs la hR hS hl => lv_aload F.1 F.2.1 d (lv_at hl n hk) (k r σ' ho H locs la hR hS hl)
theorem g_aload_nN (F : FR p s m args c cc nL own X) {i : Fin 4} (d : decode cc pc = .ok (.aload_n i, 1)) (n : Nat) (hk : ls[n]? = some ((i : Nat), .null))
    (k : G X p l e R s m args below meth c nL ck sk Qf (pc + 1) ls (.null :: rest) σ o) : G X p l e R s m args below meth c nL ck sk Qf pc ls rest σ o :=
  fun r σ' ho H locs la hR hS hl => lv_aload_nN F.1 F.2.1 d rfl (lv_at hl n hk) (k r σ' ho H locs la hR hS hl)
theorem g_aloadN (F : FR p s m args c cc nL own X) {i : Nat} (d : decode cc pc = .ok (.aload i, 2)) (n : Nat) (hk : ls[n]? = some (i, .null))
    (k : G X p l e R s m args below meth c nL ck sk Qf (pc + 2) ls (.null :: rest) σ o) : G X p l e R s m args below meth c nL ck sk Qf pc ls rest σ o :=
  fun r σ' ho H locs la hR hS hl => lv_aloadN F.1 F.2.1 d (lv_at hl n hk) (k r σ' ho H locs la hR hS hl)
theorem g_iadd (F : FR p s m args c cc nL own X) {x y : Int32} (d : decode cc pc = .ok (.iadd, 1))
    (k : G X p l e R s m args below meth c nL ck sk Qf (pc + 1) ls (.int (x + y) :: rest) σ o) : G X p l e R s m args below meth c nL ck sk Qf pc ls (.int y :: .int x :: rest) σ o :=
  fun r σ' ho H locs la hR hS hl => lv_iadd F.1 F.2.1 d (k r σ' ho H locs la hR hS hl)
theorem g_isub (F : FR p s m args c cc nL own X) {x y : Int32} (d : decode cc pc = .ok (.isub, 1))
    (k : G X p l e R s m args below meth c nL ck sk Qf (pc + 1) ls (.int (x - y) :: rest) σ o) : G X p l e R s m args below meth c nL ck sk Qf pc ls (.int y :: .int x :: rest) σ o :=
  fun r σ' ho H locs la hR hS hl => lv_isub F.1 F.2.1 d (k r σ' ho H locs la hR hS hl)
theorem g_imul (F : FR p s m args c cc nL own X) {x y : Int32} (d : decode cc pc = .ok (.imul, 1))
    (k : G X p l e R s m args below meth c nL ck sk Qf (pc + 1) ls (.int (x * y) :: rest) σ o) : G X p l e R s m args below meth c nL ck sk Qf pc ls (.int y :: .int x :: rest) σ o :=
  fun r σ' ho H locs la hR hS hl => lv_imul F.1 F.2.1 d (k r σ' ho H locs la hR hS hl)
theorem g_iand (F : FR p s m args c cc nL own X) {x y : Int32} (d : decode cc pc = .ok (.iand, 1))
    (k : G X p l e R s m args below meth c nL ck sk Qf (pc + 1) ls (.int (x &&& y) :: rest) σ o) : G X p l e R s m args below meth c nL ck sk Qf pc ls (.int y :: .int x :: rest) σ o :=
  fun r σ' ho H locs la hR hS hl => lv_iand F.1 F.2.1 d (k r σ' ho H locs la hR hS hl)
theorem g_ior (F : FR p s m args c cc nL own X) {x y : Int32} (d : decode cc pc = .ok (.ior, 1))
    (k : G X p l e R s m args below meth c nL ck sk Qf (pc + 1) ls (.int (x ||| y) :: rest) σ o) : G X p l e R s m args below meth c nL ck sk Qf pc ls (.int y :: .int x :: rest) σ o :=
  fun r σ' ho H locs la hR hS hl => lv_ior F.1 F.2.1 d (k r σ' ho H locs la hR hS hl)
theorem g_ixor (F : FR p s m args c cc nL own X) {x y : Int32} (d : decode cc pc = .ok (.ixor, 1))
    (k : G X p l e R s m args below meth c nL ck sk Qf (pc + 1) ls (.int (x ^^^ y) :: rest) σ o) : G X p l e R s m args below meth c nL ck sk Qf pc ls (.int y :: .int x :: rest) σ o :=
  fun r σ' ho H locs la hR hS hl => lv_ixor F.1 F.2.1 d (k r σ' ho H locs la hR hS hl)
theorem g_ishl (F : FR p s m args c cc nL own X) {x y : Int32} (d : decode cc pc = .ok (.ishl, 1))
    (k : G X p l e R s m args below meth c nL ck sk Qf (pc + 1) ls (.int (x <<< (y &&& 31)) :: rest) σ o) : G X p l e R s m args below meth c nL ck sk Qf pc ls (.int y :: .int x :: rest) σ o :=
  fun r σ' ho H locs la hR hS hl => lv_ishl F.1 F.2.1 d (k r σ' ho H locs la hR hS hl)
theorem g_ishr (F : FR p s m args c cc nL own X) {x y : Int32} (d : decode cc pc = .ok (.ishr, 1))
    (k : G X p l e R s m args below meth c nL ck sk Qf (pc + 1) ls (.int (x >>> (y &&& 31)) :: rest) σ o) : G X p l e R s m args below meth c nL ck sk Qf pc ls (.int y :: .int x :: rest) σ o :=
  fun r σ' ho H locs la hR hS hl => lv_ishr F.1 F.2.1 d (k r σ' ho H locs la hR hS hl)
theorem g_ineg (F : FR p s m args c cc nL own X) {x : Int32} (d : decode cc pc = .ok (.ineg, 1))
    (k : G X p l e R s m args below meth c nL ck sk Qf (pc + 1) ls (.int (-x) :: rest) σ o) : G X p l e R s m args below meth c nL ck sk Qf pc ls (.int x :: rest) σ o :=
  fun r σ' ho H locs la hR hS hl => lv_ineg F.1 F.2.1 d (k r σ' ho H locs la hR hS hl)
theorem g_dup (F : FR p s m args c cc nL own X) {v : Value} (d : decode cc pc = .ok (.dup, 1)) (hv : v.category = 1)
    (k : G X p l e R s m args below meth c nL ck sk Qf (pc + 1) ls (v :: v :: rest) σ o) : G X p l e R s m args below meth c nL ck sk Qf pc ls (v :: rest) σ o :=
  fun r σ' ho H locs la hR hS hl => lv_dup F.1 F.2.1 d hv (k r σ' ho H locs la hR hS hl)
theorem g_pop (F : FR p s m args c cc nL own X) {v : Value} (d : decode cc pc = .ok (.pop, 1)) (hv : v.category = 1)
    (k : G X p l e R s m args below meth c nL ck sk Qf (pc + 1) ls rest σ o) : G X p l e R s m args below meth c nL ck sk Qf pc ls (v :: rest) σ o :=
  fun r σ' ho H locs la hR hS hl => lv_pop F.1 F.2.1 d hv (k r σ' ho H locs la hR hS hl)
theorem g_dup2 (F : FR p s m args c cc nL own X) {v w : Value} (d : decode cc pc = .ok (.dup2, 1)) (hv : v.category = 1) (hw : w.category = 1)
    (k : G X p l e R s m args below meth c nL ck sk Qf (pc + 1) ls (v :: w :: v :: w :: rest) σ o) : G X p l e R s m args below meth c nL ck sk Qf pc ls (v :: w :: rest) σ o :=
  fun r σ' ho H locs la hR hS hl => lv_dup2_11 F.1 F.2.1 d hv hw (k r σ' ho H locs la hR hS hl)
theorem g_null (F : FR p s m args c cc nL own X) (d : decode cc pc = .ok (.aconst_null, 1))
    (k : G X p l e R s m args below meth c nL ck sk Qf (pc + 1) ls (.null :: rest) σ o) : G X p l e R s m args below meth c nL ck sk Qf pc ls rest σ o :=
  fun r σ' ho H locs la hR hS hl => lv_null F.1 F.2.1 d (k r σ' ho H locs la hR hS hl)
theorem g_goto (F : FR p s m args c cc nL own X) {off : Int} {tgt : Nat} (d : decode cc pc = .ok (.goto off, 3)) (ht : (pc : Int) + off = (tgt : Int))
    (k : G X p l e R s m args below meth c nL ck sk Qf tgt ls rest σ o) : G X p l e R s m args below meth c nL ck sk Qf pc ls rest σ o :=
  fun r σ' ho H locs la hR hS hl => lv_goto F.1 F.2.1 d ht (k r σ' ho H locs la hR hS hl)
theorem g_ifnull (F : FR p s m args c cc nL own X) {x : Nat} {off : Int} (d : decode cc pc = .ok (.ifnull off, 3))
    (k : G X p l e R s m args below meth c nL ck sk Qf (pc + 3) ls rest σ o) : G X p l e R s m args below meth c nL ck sk Qf pc ls (.ref x :: rest) σ o :=
  fun r σ' ho H locs la hR hS hl => lv_ifnull F.1 F.2.1 d (k r σ' ho H locs la hR hS hl)
theorem g_ifnullN (F : FR p s m args c cc nL own X) {off : Int} {tgt : Nat} (d : decode cc pc = .ok (.ifnull off, 3)) (ht : (pc : Int) + off = (tgt : Int))
    (k : G X p l e R s m args below meth c nL ck sk Qf tgt ls rest σ o) : G X p l e R s m args below meth c nL ck sk Qf pc ls (.null :: rest) σ o :=
  fun r σ' ho H locs la hR hS hl => lv_ifnullN F.1 F.2.1 d ht (k r σ' ho H locs la hR hS hl)
theorem g_ifnonnull (F : FR p s m args c cc nL own X) {x : Nat} {off : Int} {tgt : Nat} (d : decode cc pc = .ok (.ifnonnull off, 3)) (ht : (pc : Int) + off = (tgt : Int))
    (k : G X p l e R s m args below meth c nL ck sk Qf tgt ls rest σ o) : G X p l e R s m args below meth c nL ck sk Qf pc ls (.ref x :: rest) σ o :=
  fun r σ' ho H locs la hR hS hl => lv_ifnonnull F.1 F.2.1 d ht (k r σ' ho H locs la hR hS hl)
theorem g_ifnonnullN (F : FR p s m args c cc nL own X) {off : Int} (d : decode cc pc = .ok (.ifnonnull off, 3))
    (k : G X p l e R s m args below meth c nL ck sk Qf (pc + 3) ls rest σ o) : G X p l e R s m args below meth c nL ck sk Qf pc ls (.null :: rest) σ o :=
  fun r σ' ho H locs la hR hS hl => lv_ifnonnullN F.1 F.2.1 d (k r σ' ho H locs la hR hS hl)
theorem g_if_eq (F : FR p s m args c cc nL own X) {x : Int32} {off : Int} {tgt : Nat} (d : decode cc pc = .ok (.ifCond .eq off, 3)) (ht : (pc : Int) + off = (tgt : Int))
    (k1 : x = 0 → G X p l e R s m args below meth c nL ck sk Qf tgt ls rest σ o1) (k2 : ¬ x = 0 → G X p l e R s m args below meth c nL ck sk Qf (pc + 3) ls rest σ o2) : G X p l e R s m args below meth c nL ck sk Qf pc ls (.int x :: rest) σ (if x = 0 then o1 else o2) :=
  g_if (fun q r σ' ho H locs la hR hS hl => lv_if_eq F.1 F.2.1 d ht (fun z => k1 z r σ' ho H locs la hR hS hl) (fun z => absurd q z)) (fun q r σ' ho H locs la hR hS hl => lv_if_eq F.1 F.2.1 d ht (fun z => absurd z q) (fun z => k2 z r σ' ho H locs la hR hS hl))
theorem g_if_lt (F : FR p s m args c cc nL own X) {x : Int32} {off : Int} {tgt : Nat} (d : decode cc pc = .ok (.ifCond .lt off, 3)) (ht : (pc : Int) + off = (tgt : Int))
    (k1 : x < 0 → G X p l e R s m args below meth c nL ck sk Qf tgt ls rest σ o1) (k2 : ¬ x < 0 → G X p l e R s m args below meth c nL ck sk Qf (pc + 3) ls rest σ o2) : G X p l e R s m args below meth c nL ck sk Qf pc ls (.int x :: rest) σ (if x < 0 then o1 else o2) :=
  g_if (fun q r σ' ho H locs la hR hS hl => lv_if_lt F.1 F.2.1 d ht (fun z => k1 z r σ' ho H locs la hR hS hl) (fun z => absurd q z)) (fun q r σ' ho H locs la hR hS hl => lv_if_lt F.1 F.2.1 d ht (fun z => absurd z q) (fun z => k2 z r σ' ho H locs la hR hS hl))
theorem g_if_ge (F : FR p s m args c cc nL own X) {x : Int32} {off : Int} {tgt : Nat} (d : decode cc pc = .ok (.ifCond .ge off, 3)) (ht : (pc : Int) + off = (tgt : Int))
    (k1 : 0 ≤ x → G X p l e R s m args below meth c nL ck sk Qf tgt ls rest σ o1) (k2 : ¬ 0 ≤ x → G X p l e R s m args below meth c nL ck sk Qf (pc + 3) ls rest σ o2) : G X p l e R s m args below meth c nL ck sk Qf pc ls (.int x :: rest) σ (if 0 ≤ x then o1 else o2) :=
  g_if (fun q r σ' ho H locs la hR hS hl => lv_if_ge F.1 F.2.1 d ht (fun z => k1 z r σ' ho H locs la hR hS hl) (fun z => absurd q z)) (fun q r σ' ho H locs la hR hS hl => lv_if_ge F.1 F.2.1 d ht (fun z => absurd z q) (fun z => k2 z r σ' ho H locs la hR hS hl))
theorem g_if_gt (F : FR p s m args c cc nL own X) {x : Int32} {off : Int} {tgt : Nat} (d : decode cc pc = .ok (.ifCond .gt off, 3)) (ht : (pc : Int) + off = (tgt : Int))
    (k1 : 0 < x → G X p l e R s m args below meth c nL ck sk Qf tgt ls rest σ o1) (k2 : ¬ 0 < x → G X p l e R s m args below meth c nL ck sk Qf (pc + 3) ls rest σ o2) : G X p l e R s m args below meth c nL ck sk Qf pc ls (.int x :: rest) σ (if 0 < x then o1 else o2) :=
  g_if (fun q r σ' ho H locs la hR hS hl => lv_if_gt F.1 F.2.1 d ht (fun z => k1 z r σ' ho H locs la hR hS hl) (fun z => absurd q z)) (fun q r σ' ho H locs la hR hS hl => lv_if_gt F.1 F.2.1 d ht (fun z => absurd z q) (fun z => k2 z r σ' ho H locs la hR hS hl))
theorem g_if_le (F : FR p s m args c cc nL own X) {x : Int32} {off : Int} {tgt : Nat} (d : decode cc pc = .ok (.ifCond .le off, 3)) (ht : (pc : Int) + off = (tgt : Int))
    (k1 : x ≤ 0 → G X p l e R s m args below meth c nL ck sk Qf tgt ls rest σ o1) (k2 : ¬ x ≤ 0 → G X p l e R s m args below meth c nL ck sk Qf (pc + 3) ls rest σ o2) : G X p l e R s m args below meth c nL ck sk Qf pc ls (.int x :: rest) σ (if x ≤ 0 then o1 else o2) :=
  g_if (fun q r σ' ho H locs la hR hS hl => lv_if_le F.1 F.2.1 d ht (fun z => k1 z r σ' ho H locs la hR hS hl) (fun z => absurd q z)) (fun q r σ' ho H locs la hR hS hl => lv_if_le F.1 F.2.1 d ht (fun z => absurd z q) (fun z => k2 z r σ' ho H locs la hR hS hl))
theorem g_icmp_eq (F : FR p s m args c cc nL own X) {x y : Int32} {off : Int} {tgt : Nat} (d : decode cc pc = .ok (.if_icmp .eq off, 3)) (ht : (pc : Int) + off = (tgt : Int))
    (k1 : x = y → G X p l e R s m args below meth c nL ck sk Qf tgt ls rest σ o1) (k2 : ¬ x = y → G X p l e R s m args below meth c nL ck sk Qf (pc + 3) ls rest σ o2) : G X p l e R s m args below meth c nL ck sk Qf pc ls (.int y :: .int x :: rest) σ (if x = y then o1 else o2) :=
  g_if (fun q r σ' ho H locs la hR hS hl => lv_icmp_eq F.1 F.2.1 d ht (fun z => k1 z r σ' ho H locs la hR hS hl) (fun z => absurd q z)) (fun q r σ' ho H locs la hR hS hl => lv_icmp_eq F.1 F.2.1 d ht (fun z => absurd z q) (fun z => k2 z r σ' ho H locs la hR hS hl))
theorem g_icmp_lt (F : FR p s m args c cc nL own X) {x y : Int32} {off : Int} {tgt : Nat} (d : decode cc pc = .ok (.if_icmp .lt off, 3)) (ht : (pc : Int) + off = (tgt : Int))
    (k1 : x < y → G X p l e R s m args below meth c nL ck sk Qf tgt ls rest σ o1) (k2 : ¬ x < y → G X p l e R s m args below meth c nL ck sk Qf (pc + 3) ls rest σ o2) : G X p l e R s m args below meth c nL ck sk Qf pc ls (.int y :: .int x :: rest) σ (if x < y then o1 else o2) :=
  g_if (fun q r σ' ho H locs la hR hS hl => lv_icmp_lt F.1 F.2.1 d ht (fun z => k1 z r σ' ho H locs la hR hS hl) (fun z => absurd q z)) (fun q r σ' ho H locs la hR hS hl => lv_icmp_lt F.1 F.2.1 d ht (fun z => absurd z q) (fun z => k2 z r σ' ho H locs la hR hS hl))
theorem g_icmp_ge (F : FR p s m args c cc nL own X) {x y : Int32} {off : Int} {tgt : Nat} (d : decode cc pc = .ok (.if_icmp .ge off, 3)) (ht : (pc : Int) + off = (tgt : Int))
    (k1 : y ≤ x → G X p l e R s m args below meth c nL ck sk Qf tgt ls rest σ o1) (k2 : ¬ y ≤ x → G X p l e R s m args below meth c nL ck sk Qf (pc + 3) ls rest σ o2) : G X p l e R s m args below meth c nL ck sk Qf pc ls (.int y :: .int x :: rest) σ (if y ≤ x then o1 else o2) :=
  g_if (fun q r σ' ho H locs la hR hS hl => lv_icmp_ge F.1 F.2.1 d ht (fun z => k1 z r σ' ho H locs la hR hS hl) (fun z => absurd q z)) (fun q r σ' ho H locs la hR hS hl => lv_icmp_ge F.1 F.2.1 d ht (fun z => absurd z q) (fun z => k2 z r σ' ho H locs la hR hS hl))
theorem g_icmp_gt (F : FR p s m args c cc nL own X) {x y : Int32} {off : Int} {tgt : Nat} (d : decode cc pc = .ok (.if_icmp .gt off, 3)) (ht : (pc : Int) + off = (tgt : Int))
    (k1 : y < x → G X p l e R s m args below meth c nL ck sk Qf tgt ls rest σ o1) (k2 : ¬ y < x → G X p l e R s m args below meth c nL ck sk Qf (pc + 3) ls rest σ o2) : G X p l e R s m args below meth c nL ck sk Qf pc ls (.int y :: .int x :: rest) σ (if y < x then o1 else o2) :=
  g_if (fun q r σ' ho H locs la hR hS hl => lv_icmp_gt F.1 F.2.1 d ht (fun z => k1 z r σ' ho H locs la hR hS hl) (fun z => absurd q z)) (fun q r σ' ho H locs la hR hS hl => lv_icmp_gt F.1 F.2.1 d ht (fun z => absurd z q) (fun z => k2 z r σ' ho H locs la hR hS hl))
theorem g_icmp_le (F : FR p s m args c cc nL own X) {x y : Int32} {off : Int} {tgt : Nat} (d : decode cc pc = .ok (.if_icmp .le off, 3)) (ht : (pc : Int) + off = (tgt : Int))
    (k1 : x ≤ y → G X p l e R s m args below meth c nL ck sk Qf tgt ls rest σ o1) (k2 : ¬ x ≤ y → G X p l e R s m args below meth c nL ck sk Qf (pc + 3) ls rest σ o2) : G X p l e R s m args below meth c nL ck sk Qf pc ls (.int y :: .int x :: rest) σ (if x ≤ y then o1 else o2) :=
  g_if (fun q r σ' ho H locs la hR hS hl => lv_icmp_le F.1 F.2.1 d ht (fun z => k1 z r σ' ho H locs la hR hS hl) (fun z => absurd q z)) (fun q r σ' ho H locs la hR hS hl => lv_icmp_le F.1 F.2.1 d ht (fun z => absurd z q) (fun z => k2 z r σ' ho H locs la hR hS hl))
theorem g_if_ne (F : FR p s m args c cc nL own X) {x : Int32} {off : Int} {tgt : Nat} (d : decode cc pc = .ok (.ifCond .ne off, 3)) (ht : (pc : Int) + off = (tgt : Int))
    (k1 : x = 0 → G X p l e R s m args below meth c nL ck sk Qf (pc + 3) ls rest σ o1) (k2 : ¬ x = 0 → G X p l e R s m args below meth c nL ck sk Qf tgt ls rest σ o2) : G X p l e R s m args below meth c nL ck sk Qf pc ls (.int x :: rest) σ (if x = 0 then o1 else o2) :=
  g_if (fun q r σ' ho H locs la hR hS hl => lv_if_ne F.1 F.2.1 d ht (fun z => absurd q z) (fun z => k1 q r σ' ho H locs la hR hS hl)) (fun q r σ' ho H locs la hR hS hl => lv_if_ne F.1 F.2.1 d ht (fun z => k2 z r σ' ho H locs la hR hS hl) (fun z => k2 q r σ' ho H locs la hR hS hl |> fun _ => (q z).elim))
theorem g_icmp_ne (F : FR p s m args c cc nL own X) {x y : Int32} {off : Int} {tgt : Nat} (d : decode cc pc = .ok (.if_icmp .ne off, 3)) (ht : (pc : Int) + off = (tgt : Int))
    (k1 : x = y → G X p l e R s m args below meth c nL ck sk Qf (pc + 3) ls rest σ o1) (k2 : ¬ x = y → G X p l e R s m args below meth c nL ck sk Qf tgt ls rest σ o2) : G X p l e R s m args below meth c nL ck sk Qf pc ls (.int y :: .int x :: rest) σ (if x = y then o1 else o2) :=
  g_if (fun q r σ' ho H locs la hR hS hl => lv_icmp_ne F.1 F.2.1 d ht (fun z => absurd q z) (fun z => k1 q r σ' ho H locs la hR hS hl)) (fun q r σ' ho H locs la hR hS hl => lv_icmp_ne F.1 F.2.1 d ht (fun z => k2 z r σ' ho H locs la hR hS hl) (fun z => k2 q r σ' ho H locs la hR hS hl |> fun _ => (q z).elim))
theorem g_idiv (F : FR p s m args c cc nL own X) {x y : Int32} (d : decode cc pc = .ok (.idiv, 1))
    (k : G X p l e R s m args below meth c nL ck sk Qf (pc + 1) ls (.int (x / y) :: rest) σ o) : G X p l e R s m args below meth c nL ck sk Qf pc ls (.int y :: .int x :: rest) σ (if y = 0 then none else o) :=
  g_if (fun _ => g_no) (fun q r σ' ho H locs la hR hS hl => lv_idiv F.1 F.2.1 d q (k r σ' ho H locs la hR hS hl))
theorem g_irem (F : FR p s m args c cc nL own X) {x y : Int32} (d : decode cc pc = .ok (.irem, 1))
    (k : G X p l e R s m args below meth c nL ck sk Qf (pc + 1) ls (.int (x - x / y * y) :: rest) σ o) : G X p l e R s m args below meth c nL ck sk Qf pc ls (.int y :: .int x :: rest) σ (if y = 0 then none else o) :=
  g_if (fun _ => g_no) (fun q r σ' ho H locs la hR hS hl => lv_irem F.1 F.2.1 d q (k r σ' ho H locs la hR hS hl))
theorem g_istore (F : FR p s m args c cc nL own X) {i : Nat} {x : Int32} {ls' : List (Nat × Value)} (d : decode cc pc = .ok (.istore i, 2)) (hn : i < nL) (hf : (i, Value.int x) :: ls.filter (fun q => !(q.1 == i) && !(q.1 + 1 == i && q.2.category == 2)) = ls')
    (k : G X p l e R s m args below meth c nL ck sk Qf (pc + 2) ls' rest σ o) : G X p l e R s m args below meth c nL ck sk Qf pc ls (Value.int x :: rest) σ o :=
  fun r σ' ho H locs la hR hS hl => lv_istore F.1 F.2.1 d hl hn hf (fun la hl => k r σ' ho H locs la hR hS hl)
theorem g_istore_n (F : FR p s m args c cc nL own X) {i : Fin 4} {x : Int32} {ls' : List (Nat × Value)} (d : decode cc pc = .ok (.istore_n i, 1)) (hn : (i : Nat) < nL) (hf : ((i : Nat), Value.int x) :: ls.filter (fun q => !(q.1 == (i : Nat)) && !(q.1 + 1 == (i : Nat) && q.2.category == 2)) = ls')
    (k : G X p l e R s m args below meth c nL ck sk Qf (pc + 1) ls' rest σ o) : G X p l e R s m args below meth c nL ck sk Qf pc ls (Value.int x :: rest) σ o :=
  fun r σ' ho H locs la hR hS hl => lv_istore_n F.1 F.2.1 d rfl hl hn hf (fun la hl => k r σ' ho H locs la hR hS hl)
theorem g_astore (F : FR p s m args c cc nL own X) {i : Nat} {x : Nat} {ls' : List (Nat × Value)} (d : decode cc pc = .ok (.astore i, 2)) (hn : i < nL) (hf : (i, Value.ref x) :: ls.filter (fun q => !(q.1 == i) && !(q.1 + 1 == i && q.2.category == 2)) = ls')
    (k : G X p l e R s m args below meth c nL ck sk Qf (pc + 2) ls' rest σ o) : G X p l e R s m args below meth c nL ck sk Qf pc ls (Value.ref x :: rest) σ o :=
  fun r σ' ho H locs la hR hS hl => lv_astore F.1 F.2.1 d hl hn hf (fun la hl => k r σ' ho H locs la hR hS hl)
theorem g_astore_n (F : FR p s m args c cc nL own X) {i : Fin 4} {x : Nat} {ls' : List (Nat × Value)} (d : decode cc pc = .ok (.astore_n i, 1)) (hn : (i : Nat) < nL) (hf : ((i : Nat), Value.ref x) :: ls.filter (fun q => !(q.1 == (i : Nat)) && !(q.1 + 1 == (i : Nat) && q.2.category == 2)) = ls')
    (k : G X p l e R s m args below meth c nL ck sk Qf (pc + 1) ls' rest σ o) : G X p l e R s m args below meth c nL ck sk Qf pc ls (Value.ref x :: rest) σ o :=
  fun r σ' ho H locs la hR hS hl => lv_astore_n F.1 F.2.1 d rfl hl hn hf (fun la hl => k r σ' ho H locs la hR hS hl)
theorem g_astoreN (F : FR p s m args c cc nL own X) {i : Nat}  {ls' : List (Nat × Value)} (d : decode cc pc = .ok (.astore i, 2)) (hn : i < nL) (hf : (i, Value.null) :: ls.filter (fun q => !(q.1 == i) && !(q.1 + 1 == i && q.2.category == 2)) = ls')
    (k : G X p l e R s m args below meth c nL ck sk Qf (pc + 2) ls' rest σ o) : G X p l e R s m args below meth c nL ck sk Qf pc ls (Value.null :: rest) σ o :=
  fun r σ' ho H locs la hR hS hl => lv_astoreN F.1 F.2.1 d hl hn hf (fun la hl => k r σ' ho H locs la hR hS hl)
theorem g_astore_nN (F : FR p s m args c cc nL own X) {i : Fin 4}  {ls' : List (Nat × Value)} (d : decode cc pc = .ok (.astore_n i, 1)) (hn : (i : Nat) < nL) (hf : ((i : Nat), Value.null) :: ls.filter (fun q => !(q.1 == (i : Nat)) && !(q.1 + 1 == (i : Nat) && q.2.category == 2)) = ls')
    (k : G X p l e R s m args below meth c nL ck sk Qf (pc + 1) ls' rest σ o) : G X p l e R s m args below meth c nL ck sk Qf pc ls (Value.null :: rest) σ o :=
  fun r σ' ho H locs la hR hS hl => lv_astore_nN F.1 F.2.1 d rfl hl hn hf (fun la hl => k r σ' ho H locs la hR hS hl)
theorem g_iinc (F : FR p s m args c cc nL own X) {i : Nat} {n : Int} {x v : Int32} {ls' : List (Nat × Value)} (d : decode cc pc = .ok (.iinc i n, 3)) (j : Nat) (hk : ls[j]? = some (i, .int x)) (hv : Int32.ofInt n = v) (hn : i < nL) (hf : (i, Value.int (x + v)) :: ls.filter (fun q => !(q.1 == i) && !(q.1 + 1 == i && q.2.category == 2)) = ls')
    (k : G X p l e R s m args below meth c nL ck sk Qf (pc + 3) ls' rest σ o) : G X p l e R s m args below meth c nL ck sk Qf pc ls rest σ o :=
  fun r σ' ho H locs la hR hS hl => lv_iinc F.1 F.2.1 d hl hk (by rw [hv]) hn hf (fun la hl => k r σ' ho H locs la hR hS hl)
/-! rows of the memory -/
theorem rep_int {v : Nat} {H : Heap} {n : Nat} (hR : Rep X σ H) (hv : xs X v = 1000 + n) : H[xa X v]? = some (vp_cell (xc X 0) (n, .inl (σ v))) := by
  have h := hR v (by omega)
  rw [hv] at h
  have e : ce (xa X) (xc X) (σ v) (1000 + n) v = .inl (xc X 0, n, .inl (σ v)) := by
    unfold ce
    rw [if_pos (by omega)]
    simp
  rw [e] at h
  exact h
theorem g_iald (F : FR p s m args c cc nL own X) {v n : Nat} {i : Int32} (hv : xs X v = 1000 + n) (d : decode cc pc = .ok (.iaload, 1))
    (k : G X p l e R s m args below meth c nL ck sk Qf (pc + 1) ls (.int (σ v i.toNatClampNeg) :: rest) σ o) : G X p l e R s m args below meth c nL ck sk Qf pc ls (.int i :: .ref (xa X v) :: rest) σ (if ib i n then o else none) :=
  g_gd (fun hib r σ' ho H locs la hR hS hl => by
    have hin := vp_in_iff.mpr hib
    have hlt : i.toNatClampNeg < n := Nat.not_le.mp fun q => hin (Or.inr q)
    exact W.iald (v := .int (σ v i.toNatClampNeg)) F.1 F.2.1 (rep_int hR hv) ((F.2.2.2.2.2.1.2 0 _ rfl).1 n (fun j => .int (σ v j))) (fun q => by cases q) (by show ¬ (i < 0 ∨ (arrV _ _ _).slots.size ≤ _); rw [arrV_size]; exact hin) (by show (arrV _ _ _).slots[_]? = _; rw [arrV_read _ _ hlt]) rfl rfl d (k r σ' ho H locs la hR hS hl))
/-- one cell's numbers change: the world with the new memory -/
theorem rep_set {v : Nat} {H H1 : Heap} {σ2 : Mem} (hR : Rep X σ H) (hx : Cx X s) (hv : xs X v ≠ 0) (h1 : va_at (xD X) classes (xa X v, ce (xa X) (xc X) (σ2 v) (xs X v) v) H1) (hq : ∀ q, q ≠ xa X v → H1[q]? = H[q]?) (ho : ∀ w, w ≠ v → σ2 w = σ w) : Rep X σ2 H1 := by
  intro w hw
  by_cases e : w = v
  · subst e; exact h1
  · rw [ho w e]
    exact (hR w hw).kept (hq _ (fun z => e (hx.2.1 w v hw hv z)))
theorem wr_self {v k : Nat} {x : Int32} : wr σ v k x v = upd (σ v) k x := by
  funext j
  simp [wr, upd]
theorem wr_other {v k w : Nat} {x : Int32} (h : w ≠ v) : wr σ v k x w = σ w := by
  funext j
  simp [wr, h]
theorem g_iast (F : FR p s m args c cc nL own X) {v n : Nat} {i x : Int32} (hv : xs X v = 1000 + n) (d : decode cc pc = .ok (.iastore, 1))
    (k : G X p l e R s m args below meth c nL ck sk Qf (pc + 1) ls rest (wr σ v i.toNatClampNeg x) o) : G X p l e R s m args below meth c nL ck sk Qf pc ls (.int x :: .int i :: .ref (xa X v) :: rest) σ (if ib i n then o else none) :=
  g_gd (fun hib r σ' ho H locs la hR hS hl => by
    have hin := vp_in_iff.mpr hib
    refine W.iast F.1 F.2.1 (rep_int hR hv) ((F.2.2.2.2.2.1.2 0 _ rfl).1 n (fun j => .int (σ v j))) (fun q => by cases q) (by show ¬ (i < 0 ∨ (arrV _ _ _).slots.size ≤ _); rw [arrV_size]; exact hin) rfl rfl d fun H1 e z oq => ?_
    refine k r σ' ho H1 _ la (rep_set hR F.2.2.2.2.2 (by omega) ?_ oq (fun w hw => wr_other hw)) (hS.put z oq (F.2.2.2.2.2.2.2 v (by omega))) hl
    rw [wr_self, hv]
    have e1 : ce (xa X) (xc X) (upd (σ v) i.toNatClampNeg x) (1000 + n) v = .inl (xc X 0, n, .inl (upd (σ v) i.toNatClampNeg x)) := by
      unfold ce
      rw [if_pos (by omega)]
      simp
    rw [e1]
    show H1[xa X v]? = some (vp_cell _ _)
    rw [e, vp_cell_i, vp_cell_i, arrV_store]
    congr 2
    funext q
    by_cases hq : q = i.toNatClampNeg
    · subst hq
      simp [updV, upd]
    · simp [updV, upd, hq])
theorem rep_bool {v : Nat} {H : Heap} (hR : Rep X σ H) (hv : xs X v = 20) : H[xa X v]? = some (vp_cell (xc X 1) (8, .inl (σ v))) := by
  have h := hR v (by omega)
  rw [hv] at h
  exact h
theorem g_zald (F : FR p s m args c cc nL own X) {v : Nat} {i : Int32} (hv : xs X v = 20) (d : decode cc pc = .ok (.baload, 1))
    (k : G X p l e R s m args below meth c nL ck sk Qf (pc + 1) ls (.int (σ v i.toNatClampNeg) :: rest) σ o) : G X p l e R s m args below meth c nL ck sk Qf pc ls (.int i :: .ref (xa X v) :: rest) σ (if ib i 8 then o else none) :=
  g_gd (fun hib r σ' ho H locs la hR hS hl => by
    have hin := vp_in_iff.mpr hib
    have hlt : i.toNatClampNeg < 8 := Nat.not_le.mp fun q => hin (Or.inr q)
    exact W.zald (v := .int (σ v i.toNatClampNeg)) F.1 F.2.1 (rep_bool hR hv) ((F.2.2.2.2.2.1.2 1 _ rfl).1 8 (fun j => .int (σ v j))) (fun q => by cases q) (by show ¬ (i < 0 ∨ (arrV _ _ _).slots.size ≤ _); rw [arrV_size]; exact hin) (by show (arrV _ _ _).slots[_]? = _; rw [arrV_read _ _ hlt]) rfl rfl d (k r σ' ho H locs la hR hS hl))
theorem g_zast (F : FR p s m args c cc nL own X) {v : Nat} {i x : Int32} (hv : xs X v = 20) (d : decode cc pc = .ok (.bastore, 1))
    (k : G X p l e R s m args below meth c nL ck sk Qf (pc + 1) ls rest (wr σ v i.toNatClampNeg (x &&& 1)) o) : G X p l e R s m args below meth c nL ck sk Qf pc ls (.int x :: .int i :: .ref (xa X v) :: rest) σ (if ib i 8 then o else none) :=
  g_gd (fun hib r σ' ho H locs la hR hS hl => by
    have hin := vp_in_iff.mpr hib
    refine W.zast F.1 F.2.1 (rep_bool hR hv) ((F.2.2.2.2.2.1.2 1 _ rfl).1 8 (fun j => .int (σ v j))) (fun q => by cases q) (by show ¬ (i < 0 ∨ (arrV _ _ _).slots.size ≤ _); rw [arrV_size]; exact hin) rfl rfl d fun H1 e z oq => ?_
    refine k r σ' ho H1 _ la (rep_set hR F.2.2.2.2.2 (by omega) ?_ oq (fun w hw => wr_other hw)) (hS.put z oq (F.2.2.2.2.2.2.2 v (by omega))) hl
    rw [wr_self, hv]
    show H1[xa X v]? = some (vp_cell (xc X 1) (8, .inl (upd (σ v) i.toNatClampNeg (x &&& 1))))
    rw [e, vp_cell_i, vp_cell_i, arrV_store]
    congr 2
    funext q
    by_cases hq : q = i.toNatClampNeg
    · subst hq
      simp [updV, upd, narrow]
    · simp [updV, upd, hq])
theorem rep_ref {v κ t n dd u : Nat} {H : Heap} (hR : Rep X σ H) (hv : xs X v = κ) (hk : (κ = 21 ∧ t = 2 ∧ n = 8 ∧ dd = 8 ∧ u = 2) ∨ (κ = 22 ∧ t = 3 ∧ n = 8 ∧ dd = 23 ∧ u = 2) ∨ (κ = 23 ∧ t = 4 ∧ n = 5 ∧ dd = 1 ∧ u = 42)) : H[xa X v]? = some (vp_cell (xc X t) (n, .inr (.inr (.inr (.inr (fun j => some (xa X (v + (dd + u * j))))))))) := by
  have h := hR v (by omega)
  rw [hv] at h
  rcases hk with ⟨rfl, rfl, rfl, rfl, rfl⟩ | ⟨rfl, rfl, rfl, rfl, rfl⟩ | ⟨rfl, rfl, rfl, rfl, rfl⟩ <;> exact h
theorem g_aald (F : FR p s m args c cc nL own X) {v : Nat} (κ t n dd u : Nat) (C : String) {i : Int32} (hv : xs X v = κ) (hk : (κ = 21 ∧ t = 2 ∧ n = 8 ∧ dd = 8 ∧ u = 2) ∨ (κ = 22 ∧ t = 3 ∧ n = 8 ∧ dd = 23 ∧ u = 2) ∨ (κ = 23 ∧ t = 4 ∧ n = 5 ∧ dd = 1 ∧ u = 42)) (ht : (tys X)[t]? = some (xc X t, .object C)) (d : decode cc pc = .ok (.aaload, 1))
    (k : i.toNatClampNeg < n → G X p l e R s m args below meth c nL ck sk Qf (pc + 1) ls (.ref (xa X (v + (dd + u * i.toNatClampNeg))) :: rest) σ o) : G X p l e R s m args below meth c nL ck sk Qf pc ls (.int i :: .ref (xa X v) :: rest) σ (if ib i n then o else none) :=
  g_gd (fun hib r σ' ho H locs la hR hS hl => by
    have hin := vp_in_iff.mpr hib
    have hlt : i.toNatClampNeg < n := Nat.not_le.mp fun q => hin (Or.inr q)
    exact W.aald (v := .ref (xa X (v + (dd + u * i.toNatClampNeg)))) (ty := .object C) F.1 F.2.1 (rep_ref hR hv hk) ((F.2.2.2.2.2.1.2 t _ ht).1 n (fun j => va_rf (some (xa X (v + (dd + u * j)))))) rfl (fun q => by cases q) (by show ¬ (i < 0 ∨ (arrV _ _ _).slots.size ≤ _); rw [arrV_size]; exact hin) (by show (arrV _ _ _).slots[_]? = _; rw [arrV_read _ _ hlt]; rfl) rfl rfl d (k hlt r σ' ho H locs la hR hS hl))
theorem rep_obj {v ci : Nat} {H : Heap} (hR : Rep X σ H) (hv : xs X v = ci + 1) (hc : ci < 9) : va_at (xD X) classes (xa X v, .inr (ci, fl (xa X) (σ v) v (spc (ci + 1)) 0)) H := by
  have h := hR v (by omega)
  rw [hv] at h
  have e : ce (xa X) (xc X) (σ v) (ci + 1) v = .inr (ci, fl (xa X) (σ v) v (spc (ci + 1)) 0) := by
    unfold ce
    rw [if_neg (by omega), if_neg (by omega), if_neg (by omega), if_neg (by omega), if_neg (by omega)]
    simp
  rw [e] at h
  exact h
theorem g_getV (F : FR p s m args c cc nL own X) {v index ci j : Nat} {w : Value} (hF : FS own index ci j) (hv : xs X v = ci + 1) (hw : (fl (xa X) (σ v) v (spc (ci + 1)) 0)[j]? = some w) (d : decode cc pc = .ok (.getfield index, 3))
    (k : G X p l e R s m args below meth c nL ck sk Qf (pc + 3) ls (w :: rest) σ o) : G X p l e R s m args below meth c nL ck sk Qf pc ls (.ref (xa X v) :: rest) σ o := fun r σ' ho H locs la hR hS hl => by
  obtain ⟨C, T, N, hc, hk, hd, hlk⟩ := hF
  have hci : ci < 9 := (List.getElem?_eq_some_iff.mp hc).1
  have hP : va_P (xD X) classes [(xa X v, .inr (ci, fl (xa X) (σ v) v (spc (ci + 1)) 0))] H := by
    intro q x hx
    cases q with
    | zero => simp at hx; subst hx; exact rep_obj hR hv hci
    | succ q => simp at hx
  exact va_get F.1 F.2.1 F.2.2.2.2.1 (cls_in ci C T N hc) F.2.2.2.1 F.2.2.2.2.2.1 hP 0 rfl hc j hk (F.2.2.2.2.1 _ hlk) (fun x h => by rw [hd] at h; exact h) hw d (k r σ' ho H locs la hR hS hl)
theorem g_getI (F : FR p s m args c cc nL own X) {v index ci j : Nat} (hF : FS own index ci j) (hv : xs X v = ci + 1) (hs : (spc (ci + 1))[j]? = some none) (d : decode cc pc = .ok (.getfield index, 3))
    (k : G X p l e R s m args below meth c nL ck sk Qf (pc + 3) ls (.int (σ v j) :: rest) σ o) : G X p l e R s m args below meth c nL ck sk Qf pc ls (.ref (xa X v) :: rest) σ o :=
  g_getV F hF hv (by have h := fl_int (a := xa X) (f := σ v) (v := v) _ 0 j hs; rw [Nat.zero_add] at h; exact h) d k
theorem g_getR (F : FR p s m args c cc nL own X) {v index ci j dd : Nat} (hF : FS own index ci j) (hv : xs X v = ci + 1) (hs : (spc (ci + 1))[j]? = some (some dd)) (d : decode cc pc = .ok (.getfield index, 3))
    (k : G X p l e R s m args below meth c nL ck sk Qf (pc + 3) ls (.ref (xa X (v + dd)) :: rest) σ o) : G X p l e R s m args below meth c nL ck sk Qf pc ls (.ref (xa X v) :: rest) σ o :=
  g_getV F hF hv (fl_ref _ 0 j hs) d k
theorem g_put (F : FR p s m args c cc nL own X) {v index ci j : Nat} {x : Int32} {ty : FieldType} (hF : FW own index ci j ty) (hv : xs X v = ci + 1) (hs : (spc (ci + 1))[j]? = some none) (hn : narrow ty (.int x) = .int x) (hfit : fits ty (.int x) = true) (d : decode cc pc = .ok (.putfield index, 3))
    (k : G X p l e R s m args below meth c nL ck sk Qf (pc + 3) ls rest (wr σ v j x) o) : G X p l e R s m args below meth c nL ck sk Qf pc ls (.int x :: .ref (xa X v) :: rest) σ o := fun r σ' ho H locs la hR hS hl => by
  obtain ⟨C, T, N, hc, hk, hd, hlk, hfin, hty⟩ := hF
  have hci : ci < 9 := (List.getElem?_eq_some_iff.mp hc).1
  obtain ⟨ty0, htys, hnm⟩ := cls_ty ci C T N hc
  have hK := F.2.2.2.2.2.1
  have hts := F.2.2.2.2.1
  have hin := cls_in ci C T N hc
  have hap := va_apart (own := own) hts hin ty0 htys hnm hK hc
  obtain ⟨rr, h1, cell, q1, q2, q3, q4⟩ := rep_obj hR hv hci
  have hr : rr = (C, T, N) := Option.some.inj (h1.symm.trans hc)
  subst hr
  obtain ⟨hSl, hfc, kC, hkC, hkind⟩ := hK.1 ci _ hc
  obtain ⟨cf, kf, fi, f, hi, hsl⟩ := hSl j hk
  have hlay := hts _ (hin _ (u_in_lay hk))
  unfold u_lay at hlay
  rw [if_neg (by rw [hfin]; decide)] at hlay
  have hst := (u_facts hfc hkC (u_lays hts hin hk) hi).1
  have h6 := u_store hfc hkC hkind hlay hi hty hn hfit
  refine W.putK F.1 F.2.1 (f := f) ⟨F.2.2.2.1, hts _ hlk, ⟨_, _, _, by rw [hd] at hi; exact hi⟩, hst⟩ (by rw [q2]; exact h6) q1 q3 (by rw [hsl]; exact k2_hasslot (q4 j hk)) rfl rfl d fun H' e1 e2 e3 => ?_
  rw [hsl] at e1 ⊢
  refine k r σ' ho H' _ la (rep_set hR F.2.2.2.2.2 (by omega) ?_ e3 (fun w hw => wr_other hw)) (hS.put e2 e3 (F.2.2.2.2.2.2.2 v (by omega))) hl
  have e : ce (xa X) (xc X) (wr σ v j x v) (xs X v) v = .inr (ci, (fl (xa X) (σ v) v (spc (ci + 1)) 0).set j (.int x)) := by
    rw [wr_self, hv]
    unfold ce
    rw [if_neg (by omega), if_neg (by omega), if_neg (by omega), if_neg (by omega), if_neg (by omega), fl_set _ 0 j hs, Nat.zero_add]
    simp
  rw [e]
  have hl2 : j < (fl (xa X) (σ v) v (spc (ci + 1)) 0).length := by
    rw [fl_len]
    exact (List.getElem?_eq_some_iff.mp hs).1
  exact ⟨_, hc, t_OB.to (V := updV (vp_V _) j (.int x)) ⟨_, e1, q2, q3, t_set q4 hap hk (.int x)⟩ (fun q _ => vp_updV_set hl2 (.int x) q)⟩
theorem g_putI (F : FR p s m args c cc nL own X) {v index ci j : Nat} {x : Int32} (hF : FW own index ci j .int) (hv : xs X v = ci + 1) (hs : (spc (ci + 1))[j]? = some none) (d : decode cc pc = .ok (.putfield index, 3))
    (k : G X p l e R s m args below meth c nL ck sk Qf (pc + 3) ls rest (wr σ v j x) o) : G X p l e R s m args below meth c nL ck sk Qf pc ls (.int x :: .ref (xa X v) :: rest) σ o :=
  g_put F hF hv hs rfl rfl d k
theorem g_putZ (F : FR p s m args c cc nL own X) {v index ci j : Nat} {x : Int32} (hF : FW own index ci j .boolean) (hv : xs X v = ci + 1) (hs : (spc (ci + 1))[j]? = some none) (d : decode cc pc = .ok (.putfield index, 3))
    (k : G X p l e R s m args below meth c nL ck sk Qf (pc + 3) ls rest (wr σ v j x) o) : G X p l e R s m args below meth c nL ck sk Qf pc ls (.int x :: .ref (xa X v) :: rest) σ (if x &&& 1 = x then o else none) :=
  g_gd (fun q => g_put F hF hv hs (by show Value.int (x &&& 1) = _; rw [q]) (by have h := fits_narrow_boolean x; rw [show narrow .boolean (.int x) = .int (x &&& 1) from rfl, q] at h; exact h) d k)
/-! calls and ends -/
def CSV (own : String) (index : Nat) (y : MethodName) (bytes : ByteArray) (maxL : Nat) (ret : Option FieldType) (n : Nat) : Prop :=
  Cond.methodLink own index y ∈ gw ∧ Cond.instanceMethod y ∈ gw ∧ Cond.selects y.cls y y ∈ gw ∧ Cond.initialized y.cls ∈ gw ∧ Cond.code y bytes maxL ret ∈ gw ∧ (y.cls ≠ "java/lang/invoke/MethodHandle" ∧ y.cls ≠ "java/lang/invoke/VarHandle") ∧ (parseMethodDescriptor y.desc).map (fun d => d.parameters.length) = some n
def CSS (own : String) (index : Nat) (y : MethodName) (bytes : ByteArray) (maxL : Nat) (ret : Option FieldType) (n : Nat) : Prop :=
  Cond.methodLink own index y ∈ gw ∧ Cond.static y ∈ gw ∧ Cond.initialized y.cls ∈ gw ∧ Cond.code y bytes maxL ret ∈ gw ∧ (y.cls ≠ "java/lang/invoke/MethodHandle" ∧ y.cls ≠ "java/lang/invoke/VarHandle") ∧ (parseMethodDescriptor y.desc).map (fun d => d.parameters.length) = some n
theorem g_callV {ρ' : Type} {vl : ρ' → Option Value} {y : MethodName} {bytes : ByteArray} {maxL dp n index v ci : Nat} {ret : Option FieldType} {As st : List Value} {oc : Option (ρ' × Mem)} {kf : ρ' → Mem → Option (ρ × Mem)}
    (F : FR p s m args c cc nL own X) (hC : CT X l y bytes maxL ret dp vl (.ref (xa X v) :: As) σ oc) (hW : CSV own index y bytes maxL ret n) (hv : xs X v = ci + 1) (hcls : (classes[ci]?).map (fun q => q.1) = some y.cls) (hst : st = As.reverse ++ .ref (xa X v) :: rest) (hn : As.length = n) (hcat : (rest.map fun v => v.category).sum ≤ 8) (hroom : dp + 1 ≤ R.frames ∧ 8 + (maxL + 11) + 35 * dp ≤ R.locals) (hck : ck ≤ R.cells ∧ sk ≤ R.slots) (d : decode cc pc = .ok (.invokevirtual index, 3))
    (k : ∀ r2 σ2, oc = some (r2, σ2) → G X p l e R s m args below meth c nL ck sk Qf (pc + 3) ls ((vl r2).toList ++ rest) σ2 (kf r2 σ2)) : G X p l e R s m args below meth c nL ck sk Qf pc ls st σ (bd oc kf) := by
  subst hst
  cases ho2 : oc with
  | none => exact g_no
  | some w =>
    obtain ⟨r2, σ2⟩ := w
    intro r σ' ho H locs la hR hS hl
    obtain ⟨hlink, hinst, hsel, hini, hcode, hy, hpar⟩ := hW
    obtain ⟨hx, hb, hml, hown, hts, hcx⟩ := F
    have hlen : ∀ sig, parseMethodDescriptor y.desc = some sig → n = sig.parameters.length := fun sig h => by
      rw [h] at hpar
      exact (Option.some.inj hpar).symm
    have hws : ∀ w ∈ (Cond.code y bytes maxL ret :: gw), ∀ (a' : Array Value) (U : State), s.WarmedH U.vm → w.before a' U = true := fun w hw a' U hW => by
      have hw' : w ∈ gw := (List.mem_cons.mp hw).elim (fun q => by rw [q]; exact hcode) id
      exact word_at hW (good_of_word (gw_ok w hw')) (hts w hw')
    obtain ⟨q, hq, hqc⟩ : ∃ q, classes[ci]? = some q ∧ q.1 = y.cls := by
      cases hc : classes[ci]? with
      | none => rw [hc] at hcls; cases hcls
      | some q => rw [hc] at hcls; exact ⟨q, rfl, Option.some.inj hcls⟩
    have hci : ci < 9 := (List.getElem?_eq_some_iff.mp hq).1
    have hrec : ∃ cellB : Cell, H[xa X v]? = some cellB ∧ cellB.vm.isStatics = false ∧ s.vm.findClass y.cls = some cellB.cls := by
      obtain ⟨q', h1, cell, g1, g2, g3, -⟩ := rep_obj hR hv hci
      exact ⟨cell, g1, by rw [g3]; rfl, by rw [g2, ← hqc]; exact (hcx.1.1 ci q hq).2.1⟩
    have run := va_runV (cells := ck) (slots := sk) (locs := locs) (H := H) (g := F0 m pc la (As.reverse ++ .ref (xa X v) :: rest)) (rest := rest) (As := As) (b := xa X v) (C := y.cls) (n := n) (p := p) (e := e) (R := R) (below := below) (meth := meth) ⟨hx, hb, hml, hown, hts⟩ (hC r2 σ2 ho2)
      ⟨⟨rfl, rfl, hroom.1, hroom.2, hws, List.mem_cons_self, hts _ hcode, hts _ hini, hy, hlen, hts _ hlink⟩, hts _ hinst, hts _ hsel⟩
      ⟨fun a U g mk q => ⟨q.1, q.2.1, Cx.moved (u := U) (U := U.calling g mk a) (Vm.Alike.refl U.vm) q.2.2⟩, hrec, fun U hU hW => ⟨rfl, by rw [hU]; exact hR, Cx.moved hW.alike hcx⟩⟩
      rfl hn hl.1 rfl (lv_room hcat) d hck
    intro T hT XX
    obtain ⟨v', st₀, t, T', L, h0, X', hL, e1, e2, hq2, hgo⟩ := run T hT XX
    obtain ⟨hv', hRep, hF⟩ := hq2
    cases hv'
    rw [← e1] at hRep
    obtain ⟨hz, hk⟩ := hF
    rw [h0, ← e1] at hz hk
    obtain ⟨t2, a1, b1⟩ := k r2 σ2 ho2 r σ' ho T'.heap (locs ++ L) la hRep ⟨Nat.le_trans hS.1 hz, fun q h1 h2 => by rw [hk q (Nat.lt_of_lt_of_le h1 hS.1) h2]; exact hS.2.1 q h1 h2, fun q hq => by
      rcases List.mem_append.mp hq with h | h
      · exact hS.2.2 q h
      · exact hL q h⟩ hl T' rfl X'
    exact ⟨t2, hgo t2 a1, b1⟩
theorem g_callS {ρ' : Type} {vl : ρ' → Option Value} {y : MethodName} {bytes : ByteArray} {maxL dp n index : Nat} {ret : Option FieldType} {As st : List Value} {oc : Option (ρ' × Mem)} {kf : ρ' → Mem → Option (ρ × Mem)}
    (F : FR p s m args c cc nL own X) (hC : CT X l y bytes maxL ret dp vl As σ oc) (hW : CSS own index y bytes maxL ret n) (hst : st = As.reverse ++ rest) (hn : As.length = n) (hcat : (rest.map fun v => v.category).sum ≤ 8) (hroom : dp + 1 ≤ R.frames ∧ 8 + (maxL + 11) + 35 * dp ≤ R.locals) (hck : ck ≤ R.cells ∧ sk ≤ R.slots) (d : decode cc pc = .ok (.invokestatic index, 3))
    (k : ∀ r2 σ2, oc = some (r2, σ2) → G X p l e R s m args below meth c nL ck sk Qf (pc + 3) ls ((vl r2).toList ++ rest) σ2 (kf r2 σ2)) : G X p l e R s m args below meth c nL ck sk Qf pc ls st σ (bd oc kf) := by
  subst hst
  cases ho2 : oc with
  | none => exact g_no
  | some w =>
    obtain ⟨r2, σ2⟩ := w
    intro r σ' ho H locs la hR hS hl
    obtain ⟨hlink, hstat, hini, hcode, hy, hpar⟩ := hW
    obtain ⟨hx, hb, hml, hown, hts, hcx⟩ := F
    have hlen : ∀ sig, parseMethodDescriptor y.desc = some sig → n = sig.parameters.length := fun sig h => by
      rw [h] at hpar
      exact (Option.some.inj hpar).symm
    have hws : ∀ w ∈ (Cond.code y bytes maxL ret :: gw), ∀ (a' : Array Value) (U : State), s.WarmedH U.vm → w.before a' U = true := fun w hw a' U hW => by
      have hw' : w ∈ gw := (List.mem_cons.mp hw).elim (fun q => by rw [q]; exact hcode) id
      exact word_at hW (good_of_word (gw_ok w hw')) (hts w hw')
    have run := va_runS (cells := ck) (slots := sk) (locs := locs) (H := H) (g := F0 m pc la (As.reverse ++ rest)) (rest := rest) (As := As) (n := n) (p := p) (e := e) (R := R) (below := below) (meth := meth) ⟨hx, hb, hml, hown, hts⟩ (hC r2 σ2 ho2)
      ⟨⟨rfl, rfl, hroom.1, hroom.2, hws, List.mem_cons_self, hts _ hcode, hts _ hini, hy, hlen, hts _ hlink⟩, hts _ hstat⟩
      ⟨fun a U g mk q => ⟨q.1, q.2.1, Cx.moved (u := U) (U := U.calling g mk a) (Vm.Alike.refl U.vm) q.2.2⟩, fun U hU hW => ⟨rfl, by rw [hU]; exact hR, Cx.moved hW.alike hcx⟩⟩
      rfl hn hl.1 rfl (lv_room hcat) d hck
    intro T hT XX
    obtain ⟨v', st₀, t, T', L, h0, X', hL, e1, e2, hq2, hgo⟩ := run T hT XX
    obtain ⟨hv', hRep, hF⟩ := hq2
    cases hv'
    rw [← e1] at hRep
    obtain ⟨hz, hk⟩ := hF
    rw [h0, ← e1] at hz hk
    obtain ⟨t2, a1, b1⟩ := k r2 σ2 ho2 r σ' ho T'.heap (locs ++ L) la hRep ⟨Nat.le_trans hS.1 hz, fun q h1 h2 => by rw [hk q (Nat.lt_of_lt_of_le h1 hS.1) h2]; exact hS.2.1 q h1 h2, fun q hq => by
      rcases List.mem_append.mp hq with h | h
      · exact hS.2.2 q h
      · exact hL q h⟩ hl T' rfl X'
    exact ⟨t2, hgo t2 a1, b1⟩
theorem g_oe {w : Option Nat} (h1 : w = none → G X p l e R s m args below meth c nL ck sk Qf pc ls (.null :: rest) σ o1) {f : Nat → Option (ρ × Mem)} (h2 : ∀ v, w = some v → G X p l e R s m args below meth c nL ck sk Qf pc ls (.ref (xa X v) :: rest) σ (f v)) : G X p l e R s m args below meth c nL ck sk Qf pc ls ((vQ X w).toList ++ rest) σ (oe w o1 f) := by
  cases w with
  | none => exact h1 rfl
  | some v => exact h2 v rfl
end ROWS
section ENDS
variable {X : CX} {p : Program} {l : Launch} {e : Env} {R : Room} {s : State} {m : MethodId} {args : Array Value} {below : List Frame} {meth : Method} {c : Code} {cc : ByteArray} {own : String} {nL : Nat} {pc : Nat} {ls : List (Nat × Value)} {σ : Mem}
abbrev QI (X : CX) (below : List Frame) (args : Array Value) (s : State) {ρ : Type} (vl : ρ → Option Value) : ρ → Mem → State → Prop := fun r σ' => MQ below (QC X (vl r) σ') args s 0 0 (xA X)
theorem g_iret (F : FR p s m args c cc nL own X) (hlk : meth.locks = false) (hr : meth.sig.returnType = some .int) {v : Int32} (d : decode cc pc = .ok (.ireturn, 1)) : G X p l e R s m args below meth c nL 0 0 (QI X below args s vI) pc ls [.int v] σ (some (v, σ)) :=
  fun r σ' ho H locs la hR hS hl => by
    cases ho
    exact W.zret F.1 F.2.1 hr rfl (fun t ht _ => ⟨rfl, by rw [ht]; exact hR, hS.F ht⟩) hS.2.2 d hlk
theorem g_zretC (F : FR p s m args c cc nL own X) (hlk : meth.locks = false) (hr : meth.sig.returnType = some .boolean) {v : Int32} (hn : v &&& 1 = v) (d : decode cc pc = .ok (.ireturn, 1)) : G X p l e R s m args below meth c nL 0 0 (QI X below args s vI) pc ls [.int v] σ (some (v, σ)) :=
  fun r σ' ho H locs la hR hS hl => by
    cases ho
    exact W.zret F.1 F.2.1 hr (by show Value.int (v &&& 1) = _; rw [hn]) (fun t ht _ => ⟨rfl, by rw [ht]; exact hR, hS.F ht⟩) hS.2.2 d hlk
theorem g_zret (F : FR p s m args c cc nL own X) (hlk : meth.locks = false) (hr : meth.sig.returnType = some .boolean) {v : Int32} (d : decode cc pc = .ok (.ireturn, 1)) : G X p l e R s m args below meth c nL 0 0 (QI X below args s vI) pc ls [.int v] σ (if v &&& 1 = v then some (v, σ) else none) :=
  g_gd (fun q => g_zretC F hlk hr q d)
theorem g_vret (F : FR p s m args c cc nL own X) (hlk : meth.locks = false) (hr : meth.sig.returnType = none) (d : decode cc pc = .ok (.return_, 1)) : G X p l e R s m args below meth c nL 0 0 (QI X below args s vU) pc ls [] σ (some ((), σ)) :=
  fun r σ' ho H locs la hR hS hl => by
    cases ho
    exact W.vret F.1 F.2.1 hr (fun t ht _ => ⟨rfl, by rw [ht]; exact hR, hS.F ht⟩) hS.2.2 d hlk
theorem g_aret (F : FR p s m args c cc nL own X) (hlk : meth.locks = false) {C : String} (hr : meth.sig.returnType = some (.object C)) {v : Nat} (d : decode cc pc = .ok (.areturn, 1)) : G X p l e R s m args below meth c nL 0 0 (QI X below args s (vQ X)) pc ls [.ref (xa X v)] σ (some (some v, σ)) :=
  fun r σ' ho H locs la hR hS hl => by
    cases ho
    exact W.aret F.1 F.2.1 hr (Or.inl ⟨_, rfl⟩) (Or.inr ⟨_, rfl⟩) (fun t ht _ => ⟨rfl, by rw [ht]; exact hR, hS.F ht⟩) hS.2.2 d hlk
theorem g_aretN (F : FR p s m args c cc nL own X) (hlk : meth.locks = false) {C : String} (hr : meth.sig.returnType = some (.object C)) (d : decode cc pc = .ok (.areturn, 1)) : G X p l e R s m args below meth c nL 0 0 (QI X below args s (vQ X)) pc ls [.null] σ (some (none, σ)) :=
  fun r σ' ho H locs la hR hS hl => by
    cases ho
    exact W.aret F.1 F.2.1 hr (Or.inl ⟨_, rfl⟩) (Or.inl rfl) (fun t ht _ => ⟨rfl, by rw [ht]; exact hR, hS.F ht⟩) hS.2.2 d hlk
theorem CT_of {ρ : Type} {y : MethodName} {bytes : ByteArray} {maxL dp : Nat} {ret : Option FieldType} {vl : ρ → Option Value} {av : List Value} {o : Option (ρ × Mem)} (hy : plainName y.cls = true) (hlen : (lg_sl av).length ≤ maxL)
    (body : ∀ p e s m args below meth c, FR p s m args c bytes maxL y.cls X → meth.locks = false → meth.sig.returnType = ret → G X p l e (rmD dp) s m args below meth c maxL 0 0 (QI X below args s vl) 0 (lv_args 0 av) [] σ o) : CT X l y bytes maxL ret dp vl av σ o := by
  intro r σ' ho
  refine Met.ofW (cc := bytes) (maxL := maxL) (ret := ret) hy rfl ?_
  intro p e s m args below meth c s₁ B hml hv
  obtain ⟨rfl, hR, hX⟩ := hv
  have hts := atoms_spec (ws := (Cond.code y bytes maxL ret :: gw)) B.pre
  rw [lg_entry_eq]
  exact body p e s m _ below meth c ⟨B.exec, B.bytes, hml, findClass_of_methodNamed B.named, fun w hw => hts w (List.mem_cons_of_mem _ hw), hX⟩ B.notSynchronized B.returns r σ' ho s.heap [] _ hR va_S.rf (lv_entry av hlen)
end ENDS
end
section
theorem i_vc : Claimed_1_1 ∧ Claimed_1_2 := sorry
end
